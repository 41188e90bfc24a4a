/-! emit -/
/-- what may stand in a cell -/
def sc_Ok (o : Nat) (d a b : Int32) : Prop := o = 0 ∨ (o ≤ 12 ∧ vp_in a 8 ∧ (o < 10 → vp_in d 8) ∧ vp_in d 32 ∧ (¬ (o = 3 ∨ o = 8 ∨ o = 9) → vp_in b 8))
theorem sc_vin {x : Int32} {N : Nat} (hN : N < 2 ^ 31) (h : nI N ≤ x) : ¬ vp_in x N := by
  intro z
  obtain ⟨j, hj, e⟩ := vp_in_of z hN
  rw [e] at h
  exact nI_ge hj hN h
theorem sc_belowV (post : Int32 → Prop) (x : Int32) (N : Nat) (hN : N < 2 ^ 31) (h1 : vp_in x N → post 1) (h0 : ¬ vp_in x N → post 0) : wpX_isBelow post x (nI N) :=
  sc_below post x N hN (fun z => h0 (by
    rcases z with z | z
    · exact fun y => y (Or.inl z)
    · exact sc_vin hN z)) (fun j hj e => h1 (by rw [e]; exact vp_in_nI hj hN))
theorem sc_v832 {x : Int32} (h : vp_in x 8) : vp_in x 32 := by
  rw [vp_in_iff] at h ⊢
  omega
theorem sc_i45 (post : Int32 → Prop) (o : Nat) (ho : o ≤ 12) (d a b : Int32) (ha : vp_in a 8) (hb : ¬ (o = 3 ∨ o = 8 ∨ o = 9) → vp_in b 8) (e0 : o ≠ 0) (h1 : sc_Ok o d a b → post 1) (h0 : ¬ sc_Ok o d a b → post 0) : wX_isInstruction_45 post (nI o) d := by
  refine sc_ibr _ o ho (fun h => br_t rfl (sc_belowV _ d 8 (by decide) (fun z => ⟨sc_nb1, h1 ?_⟩) (fun z => ⟨sc_nb0, h0 ?_⟩))) (fun h => br_f sc_10 (sc_belowV _ d 32 (by decide) (fun z => ⟨sc_nb1, h1 ?_⟩) (fun z => ⟨sc_nb0, h0 ?_⟩)))
  · exact Or.inr ⟨ho, ha, fun _ => z, sc_v832 z, hb⟩
  · intro y
    rcases y with y | ⟨_, _, y, _⟩
    · exact e0 y
    · exact z (y h)
  · exact Or.inr ⟨ho, ha, fun y => absurd y (by omega), z, hb⟩
  · intro y
    rcases y with y | ⟨_, _, _, y, _⟩
    · exact e0 y
    · exact z y
theorem sc_isI (post : Int32 → Prop) (j : Nat) (hj : j < 2 ^ 31) (d a b : Int32) (h1 : sc_Ok j d a b → post 1) (h0 : ¬ sc_Ok j d a b → post 0) : wpX_isInstruction post (nI j) d a b := by
  refine pk_eq j 0 (fun e => h1 (Or.inl e)) (fun e0 => br_f (nI_pos hj) (pk_lt 12 j (fun e => h0 ?_) (fun e12 => ?_)))
  · intro y
    rcases y with y | ⟨y, _⟩ <;> omega
  · refine sc_belowV _ a 8 (by decide) (fun ha => br_f sc_10 ?_) (fun ha => br_t rfl (h0 ?_))
    · refine sc_nrb _ j e12 (fun z => br_t rfl ?_) (fun z => br_f sc_10 ?_)
      · exact sc_i45 post j e12 d a b ha (fun y => absurd z y) e0 h1 h0
      · refine sc_belowV _ b 8 (by decide) (fun hb => br_f sc_10 ?_) (fun hb => br_t rfl (h0 ?_))
        · exact sc_i45 post j e12 d a b ha (fun _ => hb) e0 h1 h0
        · intro y
          rcases y with y | ⟨_, _, _, _, y⟩
          · exact e0 y
          · exact hb (y z)
    · intro y
      rcases y with y | ⟨_, y, _⟩
      · exact e0 y
      · exact ha y
theorem sc_wfE {n j : Nat} {O D A B : Nat → Int32} {d a b : Int32} (hW : sc_Wf n O D A B) (hOk : sc_Ok j d a b) : sc_Wf (n + 1) (upd O n (nI j)) (upd D n d) (upd A n a) (upd B n b) := by
  intro q hq
  by_cases e : q = n
  · subst e
    by_cases z : j = 0
    · subst z
      exact Or.inl pk_us
    · rcases hOk with y | ⟨h12, ha, hd8, hd, hb⟩
      · exact absurd y z
      · obtain ⟨a', ha', rfl⟩ := vp_in_of ha (by decide)
        obtain ⟨d', hd', rfl⟩ := vp_in_of hd (by decide)
        refine Or.inr ⟨j, a', d', pk_us, by omega, h12, pk_us, ha', pk_us, hd', fun h => ?_, fun y3 y8 y9 => ?_⟩
        · obtain ⟨d2, h2, e2⟩ := vp_in_of (hd8 h) (by decide)
          rw [nI_eq (by omega) (by omega)] at e2
          omega
        · obtain ⟨b', hb', rfl⟩ := vp_in_of (hb (by omega)) (by decide)
          exact ⟨b', hb', pk_us⟩
  · rcases hW q (by omega) with z | ⟨o, a', d', c⟩
    · exact Or.inl (by rw [pk_un e]; exact z)
    · refine Or.inr ⟨o, a', d', ?_⟩
      unfold sc_Cell
      rw [pk_un e, pk_un e, pk_un e, pk_un e]
      exact c
theorem sc_neg {x : Int32} {N : Nat} (h : x < 0) : ¬ vp_in x N := fun y => y (Or.inl h)
theorem sc_pin {x : Int32} {N : Nat} (hN : N < 2 ^ 31) (h0 : ¬ x < 0) (h : x < nI N) : vp_in x N := by
  obtain ⟨j, hj, rfl⟩ := nI_of h0
  rw [nI_ltI hj hN] at h
  exact vp_in_nI h hN
theorem sc_nin {x : Int32} {N : Nat} (hN : N < 2 ^ 31) (h : ¬ x < nI N) : ¬ vp_in x N := by
  intro z
  obtain ⟨j, hj, rfl⟩ := vp_in_of z hN
  exact h (nI_lt hj hN)
theorem sc_ye119 (post : Int32 → SY → Prop) {fl fp fc ff fz : Int32} {R M O D A B LT : Nat → Int32} {j : Nat} {d a b z : Int32} (hz : (z = 0 ∧ ¬ (j = 3 ∨ j = 8 ∨ j = 9)) ∨ (¬ z = 0 ∧ (j = 3 ∨ j = 8 ∨ j = 9))) (h12 : j ≤ 12) (e0 : j ≠ 0) (ha : vp_in a 8) (hd8 : j < 10 → vp_in d 8) (hd : vp_in d 32) (hok : sc_Ok j d a b → wY_emit_138 post (nI j) d a b fl fp fc ff fz R M O D A B LT) (hno : ¬ sc_Ok j d a b → post (-1) (fl, fp, fc, ff, fz, R, M, O, D, A, B, LT)) : wY_emit_119 post (nI j) d a b z fl fp fc ff fz R M O D A B LT := by
  rcases hz with ⟨rfl, hz⟩ | ⟨z0, hz⟩
  · refine br_t rfl (br_c (fun h => hno (fun y => ?_)) (fun h => br_c (fun h8 => hok (Or.inr ⟨h12, ha, hd8, hd, fun _ => sc_pin (by decide) h h8⟩)) (fun h8 => hno (fun y => ?_))))
    · rcases y with y | ⟨_, _, _, _, y⟩
      · exact e0 y
      · exact sc_neg h (y hz)
    · rcases y with y | ⟨_, _, _, _, y⟩
      · exact e0 y
      · exact sc_nin (N := 8) (by decide) h8 (y hz)
  · exact br_f z0 (hok (Or.inr ⟨h12, ha, hd8, hd, fun y => absurd hz y⟩))
theorem sc_ye75 (post : Int32 → SY → Prop) {fl fp fc ff fz : Int32} {R M O D A B LT : Nat → Int32} {j : Nat} {d a b q z : Int32} (hq : (q = 0 ∧ j < 10) ∨ (¬ q = 0 ∧ 10 ≤ j)) (hz : (z = 0 ∧ ¬ (j = 3 ∨ j = 8 ∨ j = 9)) ∨ (¬ z = 0 ∧ (j = 3 ∨ j = 8 ∨ j = 9))) (h12 : j ≤ 12) (e0 : j ≠ 0) (hok : sc_Ok j d a b → wY_emit_138 post (nI j) d a b fl fp fc ff fz R M O D A B LT) (hno : ¬ sc_Ok j d a b → post (-1) (fl, fp, fc, ff, fz, R, M, O, D, A, B, LT)) : wY_emit_75 post (nI j) d a b q z fl fp fc ff fz R M O D A B LT := by
  refine br_c (fun h => hno (fun y => ?_)) (fun d0 => br_c (fun h => hno (fun y => ?_)) (fun a0 => br_c (fun a8 => ?_) (fun h => hno (fun y => ?_))))
  · rcases y with y | ⟨_, _, _, y, _⟩
    · exact e0 y
    · exact sc_neg h y
  · rcases y with y | ⟨_, y, _⟩
    · exact e0 y
    · exact sc_neg h y
  · have ha : vp_in a 8 := sc_pin (by decide) a0 a8
    rcases hq with ⟨rfl, hq⟩ | ⟨q0, hq⟩
    · refine br_t rfl (br_t rfl (br_c (fun d8 => ?_) (fun d8 => hno (fun y => ?_))))
      · have hd : vp_in d 8 := sc_pin (by decide) d0 d8
        exact sc_ye119 post hz h12 e0 ha (fun _ => hd) (sc_v832 hd) hok hno
      · rcases y with y | ⟨_, _, y, _⟩
        · exact e0 y
        · exact sc_nin (N := 8) (by decide) d8 (y hq)
    · refine br_f q0 (br_c (fun d32 => br_f q0 ?_) (fun d32 => hno (fun y => ?_)))
      · exact sc_ye119 post hz h12 e0 ha (fun y => absurd y (by omega)) (sc_pin (by decide) d0 d32) hok hno
      · rcases y with y | ⟨_, _, _, y, _⟩
        · exact e0 y
        · exact sc_nin (N := 32) (by decide) d32 y
  · rcases y with y | ⟨_, y, _⟩
    · exact e0 y
    · exact sc_nin (N := 8) (by decide) h y
theorem sc_ye51 (post : Int32 → SY → Prop) {fl fp fc ff fz : Int32} {R M O D A B LT : Nat → Int32} {j : Nat} {d a b q : Int32} (hq : (q = 0 ∧ j < 10) ∨ (¬ q = 0 ∧ 10 ≤ j)) (h12 : j ≤ 12) (e0 : j ≠ 0) (hok : sc_Ok j d a b → wY_emit_138 post (nI j) d a b fl fp fc ff fz R M O D A B LT) (hno : ¬ sc_Ok j d a b → post (-1) (fl, fp, fc, ff, fz, R, M, O, D, A, B, LT)) : wY_emit_51 post (nI j) d a b q fl fp fc ff fz R M O D A B LT := by
  refine pk_eq j 3 (fun e => ?_) (fun e3 => pk_eq j 8 (fun e => ?_) (fun e8 => pk_eq j 9 (fun e => ?_) (fun e9 => ?_)))
  · exact sc_ye75 post (z := 1) hq (Or.inr ⟨sc_10, by omega⟩) h12 e0 hok hno
  · exact sc_ye75 post (z := 1) hq (Or.inr ⟨sc_10, by omega⟩) h12 e0 hok hno
  · exact sc_ye75 post (z := 1) hq (Or.inr ⟨sc_10, by omega⟩) h12 e0 hok hno
  · exact sc_ye75 post (z := 0) hq (Or.inl ⟨rfl, by omega⟩) h12 e0 hok hno
theorem sc_yemit (post : Int32 → SY → Prop) {n j : Nat} {fp fc ff fz : Int32} {R M O D A B LT : Nat → Int32} {d a b : Int32} (hn : n < 32) (hj : j < 2 ^ 31) (hok : sc_Ok j d a b → wY_emit_138 post (nI j) d a b (nI n) fp fc ff fz R M O D A B LT) (hno : ¬ sc_Ok j d a b → post (-1) (nI n, fp, fc, ff, fz, R, M, O, D, A, B, LT)) : wpY_emit post (nI n, fp, fc, ff, fz, R, M, O, D, A, B, LT) (nI j) d a b := by
  refine br_t (nI_lt (b := 32) hn (by decide)) (br_f (nI_pos hj) (pk_le j 12 (fun h12 => pk_eq j 0 (fun e => hok (Or.inl e)) (fun e0 => ?_)) (fun h => hno (fun y => ?_))))
  · refine pk_eq j 10 (fun e => ?_) (fun e10 => pk_eq j 11 (fun e => ?_) (fun e11 => pk_eq j 12 (fun e => ?_) (fun e12 => ?_)))
    · exact sc_ye51 post (q := 1) (Or.inr ⟨sc_10, by omega⟩) h12 e0 hok hno
    · exact sc_ye51 post (q := 1) (Or.inr ⟨sc_10, by omega⟩) h12 e0 hok hno
    · exact sc_ye51 post (q := 1) (Or.inr ⟨sc_10, by omega⟩) h12 e0 hok hno
    · exact sc_ye51 post (q := 0) (Or.inl ⟨rfl, by omega⟩) h12 e0 hok hno
  · rcases y with y | ⟨y, _⟩ <;> omega
theorem i_vc_emit {k : Nat} {u : SX} {v : SY} (I : i_Rel k u v) (hk : k + 5 ≤ 2564) (v1 : Int32) (v2 : Int32) (v3 : Int32) (v4 : Int32) : wpX_emit (fun r u' => wpY_emit (fun r' v' => r' = r ∧ i_Rel (k + 5) u' v') v v1 v2 v3 v4) u v1 v2 v3 v4 := by
  obtain ⟨n, p, fc, ff, fz, R, M, LT, O, D, A, B, AW, CL, UC, UL, UR, US, rfl, rfl, hn, hp, hL, hW, hA, hC⟩ := I
  by_cases h32 : n < 32
  · have hlt : nI n < (32 : Int32) := nI_lt (b := 32) h32 (by decide)
    have cn : (nI n).toNatClampNeg = n := nI_clamp (by omega)
    have iv : vp_in (nI n) 32 := vp_in_nI h32 (by decide)
    by_cases h0 : v1 < 0
    · have hne : ¬ v1 = 0 := by
        intro e
        rw [e] at h0
        exact absurd h0 (by decide)
      exact br_t hlt (br_f hne (br_t h0 (br_t rfl (br_t hlt (br_t h0 ⟨rfl, sc_mk hn hp hL hW hA hC⟩)))))
    · obtain ⟨j, hj, rfl⟩ := nI_of h0
      refine br_t hlt ?_
      by_cases hOk : sc_Ok j v2 v3 v4
      · refine sc_isI _ j hj v2 v3 v4 (fun _ => br_f sc_10 ?_) (fun z => absurd hOk z)
        refine ⟨iv, nm_r (e' := upd O n (nI j)) (by rw [cn]) ⟨iv, nm_r (e' := upd D n v2) (by rw [cn]) ⟨iv, nm_r (e' := upd A n v3) (by rw [cn]) ⟨iv, nm_r (e' := upd B n v4) (by rw [cn]) (nm_r (nI_1 n) ?_)⟩⟩⟩⟩
        refine sc_yemit _ h32 hj (fun _ => ?_) (fun z => absurd hOk z)
        refine ⟨iv, nm_r (e' := upd O n (nI j)) (by rw [cn]) ⟨iv, nm_r (e' := upd D n v2) (by rw [cn]) ⟨iv, nm_r (e' := upd A n v3) (by rw [cn]) ⟨iv, nm_r (e' := upd B n v4) (by rw [cn]) (nm_r (nI_1 n) ?_)⟩⟩⟩⟩
        exact ⟨nI_pred n, sc_mk (by omega) hp hL (sc_wfE hW hOk) hA hC⟩
      · refine sc_isI _ j hj v2 v3 v4 (fun z => absurd z hOk) (fun _ => br_t rfl ?_)
        exact sc_yemit _ h32 hj (fun z => absurd z hOk) (fun _ => ⟨rfl, sc_mk hn hp hL hW hA hC⟩)
  · have hlt : ¬ nI n < (32 : Int32) := nI_nlt (b := 32) (by omega) (by omega)
    exact br_f hlt (br_f hlt ⟨rfl, sc_mk hn hp hL hW hA hC⟩)
