/-! the component's small methods, each with a general post -/
theorem sc_big {x : Int32} {n : Nat} (hn : n < 2 ^ 31) (h : nI n ≤ x) : ¬ x < 0 ∧ ¬ x < nI n :=
  ⟨Int32.not_lt.mpr (Int32.le_trans (nI_pos' hn) h), Int32.not_lt.mpr h⟩
theorem sc_b0 : vp_nar .boolean 0 = 0 := by decide +kernel
theorem sc_b1 : vp_nar .boolean 1 = 1 := by decide +kernel
theorem sc_nb0 : narrow .boolean (.int 0) = .int 0 := lw_bz_n 0
theorem sc_nb1 : narrow .boolean (.int 1) = .int 1 := lw_bz_n 1
theorem sc_uu {f : Nat → Int32} {k : Nat} {x y : Int32} : upd (upd f k x) k y = upd f k y := by
  funext j
  by_cases e : j = k
  · rw [e, pk_us, pk_us]
  · rw [pk_un e, pk_un e, pk_un e]
theorem sc_below (post : Int32 → Prop) (x : Int32) (N : Nat) (hN : N < 2 ^ 31) (h0 : (x < 0 ∨ nI N ≤ x) → post 0) (h1 : ∀ j, j < N → x = nI j → post 1) : wpX_isBelow post x (nI N) := by
  rcases pk_ix x hN with h | h | ⟨j, hj, e⟩
  · exact br_t h (h0 (Or.inl h))
  · exact br_f (sc_big hN h).1 (br_t h (h0 (Or.inr h)))
  · subst e
    exact br_f (nI_pos (by omega)) (br_f (nI_ge hj hN) (h1 j hj rfl))
/-- a latency as it is kept -/
def sc_cl (x : Int32) : Int32 := if 1 ≤ x then (if x ≤ 8 then x else 8) else 1
theorem sc_clamp (post : Int32 → Prop) (x : Int32) (h : post (sc_cl x)) : wpX_clampedLatency post x := by
  unfold sc_cl at h
  by_cases h1 : 1 ≤ x
  · rw [if_pos h1] at h
    by_cases h8 : x ≤ 8
    · rw [if_pos h8] at h
      exact br_t h1 (br_t h8 h)
    · rw [if_neg h8] at h
      exact br_t h1 (br_f h8 h)
  · rw [if_neg h1] at h
    exact br_f h1 h
theorem sc_clin (x : Int32) : ∃ c : Nat, 1 ≤ c ∧ c ≤ 8 ∧ sc_cl x = nI c := by
  unfold sc_cl
  by_cases h1 : 1 ≤ x
  · rw [if_pos h1]
    by_cases h8 : x ≤ 8
    · rw [if_pos h8]
      have h0 : ¬ x < 0 := Int32.not_lt.mpr (Int32.le_trans (by decide) h1)
      obtain ⟨j, hj, rfl⟩ := nI_of h0
      have a : nI 1 ≤ nI j := h1
      have b : nI j ≤ nI 8 := h8
      rw [nI_leI (by omega) hj] at a
      rw [nI_leI hj (by omega)] at b
      exact ⟨j, a, b, rfl⟩
    · rw [if_neg h8]
      exact ⟨8, by decide, by decide, rfl⟩
  · rw [if_neg h1]
    exact ⟨1, by decide, by decide, rfl⟩
theorem sc_nrb (post : Int32 → Prop) (o : Nat) (ho : o ≤ 12) (h0 : (o = 3 ∨ o = 8 ∨ o = 9) → post 0) (h1 : ¬ (o = 3 ∨ o = 8 ∨ o = 9) → post 1) : wpX_namesRegisterInB post (nI o) :=
  pk_eq o 3 (fun e => h0 (Or.inl e)) (fun e3 => pk_eq o 8 (fun e => h0 (Or.inr (Or.inl e))) (fun e8 => pk_eq o 9 (fun e => h0 (Or.inr (Or.inr e))) (fun e9 => h1 (by omega))))
theorem sc_ibr (post : Int32 → Prop) (o : Nat) (ho : o ≤ 12) (h0 : o < 10 → post 0) (h1 : 10 ≤ o → post 1) : wpX_isBranch post (nI o) :=
  pk_eq o 10 (fun e => h1 (by omega)) (fun e3 => pk_eq o 11 (fun e => h1 (by omega)) (fun e8 => pk_eq o 12 (fun e => h1 (by omega)) (fun e9 => h0 (by omega))))
theorem sc_unit (post : Int32 → Prop) (o : Nat) (h1 : 1 ≤ o) (h9 : o ≤ 9) (h : post (nI (sc_u o))) : wpX_unitOf post (nI o) := by
  rcases sc_nine h1 h9 with rfl | rfl | rfl | rfl | rfl | rfl | rfl | rfl | rfl <;> unfold wpX_unitOf <;>
    (repeat (first | refine br_t (by decide +kernel) ?_ | refine br_f (by decide +kernel) ?_)) <;> exact h
theorem sc_taken (post : Int32 → Prop) (o : Nat) (l r : Int32) (h1 : 10 ≤ o) (h9 : o ≤ 12) (ht : sc_tk o l r → post 1) (hf : ¬ sc_tk o l r → post 0) : wpX_isTaken post (nI o) l r := by
  rcases sc_three h1 h9 with rfl | rfl | rfl
  · have e : sc_tk 10 l r = (l = r) := rfl
    rw [e] at ht hf
    unfold wpX_isTaken
    (repeat (first | refine br_t (by decide +kernel) ?_ | refine br_f (by decide +kernel) ?_))
    exact br_c ht hf
  · have e : sc_tk 11 l r = ¬ (l = r) := rfl
    rw [e] at ht hf
    unfold wpX_isTaken
    (repeat (first | refine br_t (by decide +kernel) ?_ | refine br_f (by decide +kernel) ?_))
    exact br_c (fun z => hf (fun y => y z)) ht
  · have e : sc_tk 12 l r = ¬ (r ≤ l) := rfl
    rw [e] at ht hf
    unfold wpX_isTaken
    (repeat (first | refine br_t (by decide +kernel) ?_ | refine br_f (by decide +kernel) ?_))
    exact br_c (fun z => hf (fun y => y z)) ht
theorem sc_fault (post : Int32 → Prop) (o : Nat) (l r : Int32) (h1 : 1 ≤ o) (h9 : o ≤ 9) (h : post (sc_fk o l r)) : wpX_faultKind post (nI o) l r := by
  rcases sc_nine h1 h9 with rfl | rfl | rfl | rfl | rfl | rfl | rfl | rfl | rfl
  iterate 5
    · unfold wpX_faultKind
      (repeat (first | refine br_t (by decide +kernel) ?_ | refine br_f (by decide +kernel) ?_))
      exact h
  iterate 2
    · unfold wpX_faultKind
      (repeat (first | refine br_t (by decide +kernel) ?_ | refine br_f (by decide +kernel) ?_))
      first | rw [sc_fk6] at h | rw [sc_fk7] at h
      by_cases hr : r = 0
      · rw [if_pos hr] at h
        exact br_t hr h
      · rw [if_neg hr] at h
        exact br_f hr h
  · unfold wpX_faultKind
    (repeat (first | refine br_t (by decide +kernel) ?_ | refine br_f (by decide +kernel) ?_))
    exact sc_below _ (l + r) 32 (by decide) (fun z => br_t rfl (sc_at (sc_fk8o z) h)) (fun j hj e => br_f sc_10 (sc_at (sc_fk8i hj e) h))
  · unfold wpX_faultKind
    (repeat (first | refine br_t (by decide +kernel) ?_ | refine br_f (by decide +kernel) ?_))
    exact sc_below _ (l + r) 32 (by decide) (fun z => br_t rfl (sc_at (sc_fk9o z) h)) (fun j hj e => br_f sc_10 (sc_at (sc_fk9i hj e) h))
theorem sc_result (post : Int32 → Prop) {fl fp fc ff fz : Int32} {R M LT O D A B AW CL UC UL UR US : Nat → Int32} (o : Nat) (l r : Int32) (h1 : 1 ≤ o) (h9 : o ≤ 8) (h : post (sc_res o l r M)) : wpX_result post (fl, fp, fc, ff, fz, R, M, LT, O, D, A, B, AW, CL, UC, UL, UR, US) (nI o) l r := by
  rcases sc_nine h1 (by omega : o ≤ 9) with rfl | rfl | rfl | rfl | rfl | rfl | rfl | rfl | rfl
  · unfold wpX_result
    try dsimp only
    (repeat (first | refine br_t (by decide +kernel) ?_ | refine br_f (by decide +kernel) ?_))
    exact h
  · unfold wpX_result
    try dsimp only
    (repeat (first | refine br_t (by decide +kernel) ?_ | refine br_f (by decide +kernel) ?_))
    exact h
  · unfold wpX_result
    try dsimp only
    (repeat (first | refine br_t (by decide +kernel) ?_ | refine br_f (by decide +kernel) ?_))
    exact h
  · unfold wpX_result
    try dsimp only
    (repeat (first | refine br_t (by decide +kernel) ?_ | refine br_f (by decide +kernel) ?_))
    rw [sc_res4] at h
    by_cases hr : r ≤ l
    · rw [if_pos hr] at h
      exact br_t hr h
    · rw [if_neg hr] at h
      exact br_f hr h
  · unfold wpX_result
    try dsimp only
    (repeat (first | refine br_t (by decide +kernel) ?_ | refine br_f (by decide +kernel) ?_))
    exact h
  · unfold wpX_result
    try dsimp only
    (repeat (first | refine br_t (by decide +kernel) ?_ | refine br_f (by decide +kernel) ?_))
    rw [sc_res6] at h
    by_cases hr : r = 0
    · rw [if_pos hr] at h
      exact br_t hr h
    · rw [if_neg hr] at h
      exact br_f hr ⟨hr, h⟩
  · unfold wpX_result
    try dsimp only
    (repeat (first | refine br_t (by decide +kernel) ?_ | refine br_f (by decide +kernel) ?_))
    rw [sc_res7] at h
    by_cases hr : r = 0
    · rw [if_pos hr] at h
      exact br_t hr h
    · rw [if_neg hr] at h
      exact br_f hr ⟨hr, h⟩
  · unfold wpX_result
    try dsimp only
    (repeat (first | refine br_t (by decide +kernel) ?_ | refine br_f (by decide +kernel) ?_))
    exact sc_below _ (l + r) 32 (by decide) (fun z => br_t rfl (sc_at (sc_res8o z) h)) (fun j hj e => br_f sc_10 ⟨pk_in j 32 hj e, by rw [e, nI_clamp (by omega)]; exact sc_at (sc_res8i hj e) h⟩)
  · omega
theorem sc_setM (post : Int32 → SX → Prop) {fl fp fc ff fz : Int32} {R M LT O D A B AW CL UC UL UR US : Nat → Int32} (x v : Int32) (h : ∀ r, post r (fl, fp, fc, ff, fz, R, sc_st x v M, LT, O, D, A, B, AW, CL, UC, UL, UR, US)) : wpX_setMemory post (fl, fp, fc, ff, fz, R, M, LT, O, D, A, B, AW, CL, UC, UL, UR, US) x v := by
  unfold wpX_setMemory
  try dsimp only
  refine sc_below _ x 32 (by decide) (fun z => br_t rfl ?_) (fun j hj e => br_f sc_10 ⟨pk_in j 32 hj e, nm_e ?_⟩)
  · have := h (-1)
    rw [sc_sto z] at this
    exact this
  · have := h 0
    rw [e, sc_sti hj] at this
    rw [e, nI_clamp (by omega)]
    exact this
theorem sc_note (post : SX → Prop) {fl fp fc ff fz : Int32} {R M LT O D A B AW CL UC UL UR US : Nat → Int32} (k p : Int32) (h : post (fl, fp, sc_nc k fc, sc_nf k p ff, sc_nl k p fz, R, M, LT, O, D, A, B, AW, CL, UC, UL, UR, US)) : wpX_noteFault post (fl, fp, fc, ff, fz, R, M, LT, O, D, A, B, AW, CL, UC, UL, UR, US) k p := by
  unfold sc_nc sc_nf sc_nl at h
  by_cases e : k = -1
  · rw [if_pos e, if_pos e, if_pos e] at h
    exact br_t e h
  · rw [if_neg e, if_neg e, if_neg e] at h
    refine br_f e (nm_e (nm_e ?_))
    by_cases g : ff = -1
    · rw [if_pos g] at h
      exact br_t g h
    · rw [if_neg g] at h
      exact br_f g h
