/-! the reference's step -/
theorem sc_ncm {c : Int32} : sc_nc (-1) c = c := if_pos rfl
theorem sc_nfm {p f : Int32} : sc_nf (-1) p f = f := if_pos rfl
theorem sc_nlm {p z : Int32} : sc_nl (-1) p z = z := if_pos rfl
theorem sc_ncp {k c : Int32} (h : ¬ k = -1) : sc_nc k c = c + 1 := if_neg h
theorem sc_nlp {k p z : Int32} (h : ¬ k = -1) : sc_nl k p z = k * 32 + p := if_neg h
theorem sc_nfp {k p f : Int32} (h : ¬ k = -1) (hf : f = -1) : sc_nf k p f = k * 32 + p := (if_neg h).trans (if_pos hf)
theorem sc_nfq {k p f : Int32} (h : ¬ k = -1) (hf : ¬ f = -1) : sc_nf k p f = f := (if_neg h).trans (if_neg hf)
theorem sc_yr (post : Int32 → Prop) {fl fp fc ff fz : Int32} {R M O D A B LT : Nat → Int32} {a : Nat} (ha : a < 8) (h : post (R a)) : wpY_register post (fl, fp, fc, ff, fz, R, M, O, D, A, B, LT) (nI a) :=
  br_f (nI_pos (by omega)) (br_t (nI_lt (b := 8) ha (by decide)) ⟨vp_in_nI ha (by decide), by rw [nI_clamp (by omega)]; exact h⟩)
theorem sc_yrg (post : Int32 → Prop) {fl fp fc ff fz : Int32} {R M O D A B LT : Nat → Int32} (x : Int32) (h : ∀ v : Int32, (∀ b : Nat, b < 8 → x = nI b → v = R b) → post v) : wpY_register post (fl, fp, fc, ff, fz, R, M, O, D, A, B, LT) x := by
  rcases pk_ix x (n := 8) (by decide) with z | z | ⟨j, hj, e⟩
  · refine br_t z (h _ (fun b hb e => ?_))
    rw [e] at z
    exact absurd z (nI_pos (by omega))
  · refine br_f (sc_big (by decide) z).1 (br_f (sc_big (by decide) z).2 (h _ (fun b hb e => ?_)))
    rw [e] at z
    exact absurd z (nI_ge (b := 8) hb (by decide))
  · subst e
    refine sc_yr post hj (h _ (fun b hb e => ?_))
    rw [nI_eq (by omega) (by omega)] at e
    rw [e]
theorem sc_ysr (post : Int32 → SY → Prop) {fl fp fc ff fz : Int32} {R M O D A B LT : Nat → Int32} {d : Nat} (hd : d < 8) (v : Int32) (h : post 0 (fl, fp, fc, ff, fz, upd R d v, M, O, D, A, B, LT)) : wpY_setRegister post (fl, fp, fc, ff, fz, R, M, O, D, A, B, LT) (nI d) v :=
  br_f (nI_pos (by omega)) (br_t (nI_lt (b := 8) hd (by decide)) ⟨vp_in_nI hd (by decide), nm_r (e' := upd R d v) (by rw [nI_clamp (by omega)]) h⟩)
theorem sc_y1 (post : SY → Prop) {p d : Nat} {fl fc ff fz : Int32} {R M O D A B LT : Nat → Int32} (hd : d < 8) (x l y s x7 z : Int32)  (h : post (fl, nI (p + 1), sc_nc (sc_fk 1 l y) fc, sc_nf (sc_fk 1 l y) (nI p) ff, sc_nl (sc_fk 1 l y) (nI p) fz, sc_nr 1 d l y R M, sc_nm 1 d l y R M, O, D, A, B, LT)) : wY_step_99 post (nI 1) (nI d) x l y s x7 z fl (nI p) fc ff fz R M O D A B LT := by
  have hk : sc_fk 1 l y = -1 := rfl
  rw [hk, sc_ncm, sc_nfm, sc_nlm] at h
  (repeat (first | refine br_t (by decide +kernel) ?_ | refine br_f (by decide +kernel) ?_ | refine br_t (by assumption) ?_ | refine br_f (by assumption) ?_ | refine nm_r (nI_1 p) ?_ | refine nm_e ?_ | refine And.intro (by assumption) ?_))
  refine sc_ysr _ hd _ ?_
  (repeat (first | refine br_t (by decide +kernel) ?_ | refine br_f (by decide +kernel) ?_ | refine br_t (by assumption) ?_ | refine br_f (by assumption) ?_ | refine nm_r (nI_1 p) ?_ | refine nm_e ?_ | refine And.intro (by assumption) ?_))
  exact h
theorem sc_y2 (post : SY → Prop) {p d : Nat} {fl fc ff fz : Int32} {R M O D A B LT : Nat → Int32} (hd : d < 8) (x l y s x7 z : Int32)  (h : post (fl, nI (p + 1), sc_nc (sc_fk 2 l y) fc, sc_nf (sc_fk 2 l y) (nI p) ff, sc_nl (sc_fk 2 l y) (nI p) fz, sc_nr 2 d l y R M, sc_nm 2 d l y R M, O, D, A, B, LT)) : wY_step_99 post (nI 2) (nI d) x l y s x7 z fl (nI p) fc ff fz R M O D A B LT := by
  have hk : sc_fk 2 l y = -1 := rfl
  rw [hk, sc_ncm, sc_nfm, sc_nlm] at h
  (repeat (first | refine br_t (by decide +kernel) ?_ | refine br_f (by decide +kernel) ?_ | refine br_t (by assumption) ?_ | refine br_f (by assumption) ?_ | refine nm_r (nI_1 p) ?_ | refine nm_e ?_ | refine And.intro (by assumption) ?_))
  refine sc_ysr _ hd _ ?_
  (repeat (first | refine br_t (by decide +kernel) ?_ | refine br_f (by decide +kernel) ?_ | refine br_t (by assumption) ?_ | refine br_f (by assumption) ?_ | refine nm_r (nI_1 p) ?_ | refine nm_e ?_ | refine And.intro (by assumption) ?_))
  exact h
theorem sc_y5 (post : SY → Prop) {p d : Nat} {fl fc ff fz : Int32} {R M O D A B LT : Nat → Int32} (hd : d < 8) (x l y s x7 z : Int32)  (h : post (fl, nI (p + 1), sc_nc (sc_fk 5 l y) fc, sc_nf (sc_fk 5 l y) (nI p) ff, sc_nl (sc_fk 5 l y) (nI p) fz, sc_nr 5 d l y R M, sc_nm 5 d l y R M, O, D, A, B, LT)) : wY_step_99 post (nI 5) (nI d) x l y s x7 z fl (nI p) fc ff fz R M O D A B LT := by
  have hk : sc_fk 5 l y = -1 := rfl
  rw [hk, sc_ncm, sc_nfm, sc_nlm] at h
  (repeat (first | refine br_t (by decide +kernel) ?_ | refine br_f (by decide +kernel) ?_ | refine br_t (by assumption) ?_ | refine br_f (by assumption) ?_ | refine nm_r (nI_1 p) ?_ | refine nm_e ?_ | refine And.intro (by assumption) ?_))
  refine sc_ysr _ hd _ ?_
  (repeat (first | refine br_t (by decide +kernel) ?_ | refine br_f (by decide +kernel) ?_ | refine br_t (by assumption) ?_ | refine br_f (by assumption) ?_ | refine nm_r (nI_1 p) ?_ | refine nm_e ?_ | refine And.intro (by assumption) ?_))
  exact h
theorem sc_y3 (post : SY → Prop) {p d : Nat} {fl fc ff fz : Int32} {R M O D A B LT : Nat → Int32} (hd : d < 8) (x l y s x7 z : Int32)  (h : post (fl, nI (p + 1), sc_nc (sc_fk 3 l x) fc, sc_nf (sc_fk 3 l x) (nI p) ff, sc_nl (sc_fk 3 l x) (nI p) fz, sc_nr 3 d l x R M, sc_nm 3 d l x R M, O, D, A, B, LT)) : wY_step_99 post (nI 3) (nI d) x l y s x7 z fl (nI p) fc ff fz R M O D A B LT := by
  have hk : sc_fk 3 l x = -1 := rfl
  rw [hk, sc_ncm, sc_nfm, sc_nlm] at h
  (repeat (first | refine br_t (by decide +kernel) ?_ | refine br_f (by decide +kernel) ?_ | refine br_t (by assumption) ?_ | refine br_f (by assumption) ?_ | refine nm_r (nI_1 p) ?_ | refine nm_e ?_ | refine And.intro (by assumption) ?_))
  refine sc_ysr _ hd _ ?_
  (repeat (first | refine br_t (by decide +kernel) ?_ | refine br_f (by decide +kernel) ?_ | refine br_t (by assumption) ?_ | refine br_f (by assumption) ?_ | refine nm_r (nI_1 p) ?_ | refine nm_e ?_ | refine And.intro (by assumption) ?_))
  exact h
theorem sc_y4 (post : SY → Prop) {p d : Nat} {fl fc ff fz : Int32} {R M O D A B LT : Nat → Int32} (hd : d < 8) (x l y s x7 z : Int32)  (h : post (fl, nI (p + 1), sc_nc (sc_fk 4 l y) fc, sc_nf (sc_fk 4 l y) (nI p) ff, sc_nl (sc_fk 4 l y) (nI p) fz, sc_nr 4 d l y R M, sc_nm 4 d l y R M, O, D, A, B, LT)) : wY_step_99 post (nI 4) (nI d) x l y s x7 z fl (nI p) fc ff fz R M O D A B LT := by
  have hk : sc_fk 4 l y = -1 := rfl
  have hr : sc_nr 4 d l y R M = upd R d (sc_res 4 l y M) := rfl
  rw [hk, sc_ncm, sc_nfm, sc_nlm, hr, sc_res4] at h
  by_cases hy : y ≤ l
  · rw [if_pos hy] at h
    (repeat (first | refine br_t (by decide +kernel) ?_ | refine br_f (by decide +kernel) ?_ | refine br_t (by assumption) ?_ | refine br_f (by assumption) ?_ | refine nm_r (nI_1 p) ?_ | refine nm_e ?_ | refine And.intro (by assumption) ?_))
    refine sc_ysr _ hd _ ?_
    (repeat (first | refine br_t (by decide +kernel) ?_ | refine br_f (by decide +kernel) ?_ | refine br_t (by assumption) ?_ | refine br_f (by assumption) ?_ | refine nm_r (nI_1 p) ?_ | refine nm_e ?_ | refine And.intro (by assumption) ?_))
    exact h
  · rw [if_neg hy] at h
    (repeat (first | refine br_t (by decide +kernel) ?_ | refine br_f (by decide +kernel) ?_ | refine br_t (by assumption) ?_ | refine br_f (by assumption) ?_ | refine nm_r (nI_1 p) ?_ | refine nm_e ?_ | refine And.intro (by assumption) ?_))
    refine sc_ysr _ hd _ ?_
    (repeat (first | refine br_t (by decide +kernel) ?_ | refine br_f (by decide +kernel) ?_ | refine br_t (by assumption) ?_ | refine br_f (by assumption) ?_ | refine nm_r (nI_1 p) ?_ | refine nm_e ?_ | refine And.intro (by assumption) ?_))
    exact h
theorem sc_y6 (post : SY → Prop) {p d : Nat} {fl fc ff fz : Int32} {R M O D A B LT : Nat → Int32} (hd : d < 8) (x l y s x7 z : Int32)  (h : post (fl, nI (p + 1), sc_nc (sc_fk 6 l y) fc, sc_nf (sc_fk 6 l y) (nI p) ff, sc_nl (sc_fk 6 l y) (nI p) fz, sc_nr 6 d l y R M, sc_nm 6 d l y R M, O, D, A, B, LT)) : wY_step_99 post (nI 6) (nI d) x l y s x7 z fl (nI p) fc ff fz R M O D A B LT := by
  have hr : sc_nr 6 d l y R M = upd R d (sc_res 6 l y M) := rfl
  rw [hr, sc_res6, sc_fk6] at h
  by_cases hy : y = 0
  · rw [if_pos hy, if_pos hy, sc_ncp (by decide +kernel), sc_nlp (by decide +kernel)] at h
    by_cases hf : ff = -1
    · rw [sc_nfp (by decide +kernel) hf] at h
      (repeat (first | refine br_t (by decide +kernel) ?_ | refine br_f (by decide +kernel) ?_ | refine br_t (by assumption) ?_ | refine br_f (by assumption) ?_ | refine nm_r (nI_1 p) ?_ | refine nm_e ?_ | refine And.intro (by assumption) ?_))
      refine sc_ysr _ hd _ ?_
      (repeat (first | refine br_t (by decide +kernel) ?_ | refine br_f (by decide +kernel) ?_ | refine br_t (by assumption) ?_ | refine br_f (by assumption) ?_ | refine nm_r (nI_1 p) ?_ | refine nm_e ?_ | refine And.intro (by assumption) ?_))
      exact h
    · rw [sc_nfq (by decide +kernel) hf] at h
      (repeat (first | refine br_t (by decide +kernel) ?_ | refine br_f (by decide +kernel) ?_ | refine br_t (by assumption) ?_ | refine br_f (by assumption) ?_ | refine nm_r (nI_1 p) ?_ | refine nm_e ?_ | refine And.intro (by assumption) ?_))
      refine sc_ysr _ hd _ ?_
      (repeat (first | refine br_t (by decide +kernel) ?_ | refine br_f (by decide +kernel) ?_ | refine br_t (by assumption) ?_ | refine br_f (by assumption) ?_ | refine nm_r (nI_1 p) ?_ | refine nm_e ?_ | refine And.intro (by assumption) ?_))
      exact h
  · rw [if_neg hy, if_neg hy, sc_ncm, sc_nfm, sc_nlm] at h
    (repeat (first | refine br_t (by decide +kernel) ?_ | refine br_f (by decide +kernel) ?_ | refine br_t (by assumption) ?_ | refine br_f (by assumption) ?_ | refine nm_r (nI_1 p) ?_ | refine nm_e ?_ | refine And.intro (by assumption) ?_))
    refine sc_ysr _ hd _ ?_
    (repeat (first | refine br_t (by decide +kernel) ?_ | refine br_f (by decide +kernel) ?_ | refine br_t (by assumption) ?_ | refine br_f (by assumption) ?_ | refine nm_r (nI_1 p) ?_ | refine nm_e ?_ | refine And.intro (by assumption) ?_))
    exact h
theorem sc_y7 (post : SY → Prop) {p d : Nat} {fl fc ff fz : Int32} {R M O D A B LT : Nat → Int32} (hd : d < 8) (x l y s x7 z : Int32)  (h : post (fl, nI (p + 1), sc_nc (sc_fk 7 l y) fc, sc_nf (sc_fk 7 l y) (nI p) ff, sc_nl (sc_fk 7 l y) (nI p) fz, sc_nr 7 d l y R M, sc_nm 7 d l y R M, O, D, A, B, LT)) : wY_step_99 post (nI 7) (nI d) x l y s x7 z fl (nI p) fc ff fz R M O D A B LT := by
  have hr : sc_nr 7 d l y R M = upd R d (sc_res 7 l y M) := rfl
  rw [hr, sc_res7, sc_fk7] at h
  by_cases hy : y = 0
  · rw [if_pos hy, if_pos hy, sc_ncp (by decide +kernel), sc_nlp (by decide +kernel)] at h
    by_cases hf : ff = -1
    · rw [sc_nfp (by decide +kernel) hf] at h
      (repeat (first | refine br_t (by decide +kernel) ?_ | refine br_f (by decide +kernel) ?_ | refine br_t (by assumption) ?_ | refine br_f (by assumption) ?_ | refine nm_r (nI_1 p) ?_ | refine nm_e ?_ | refine And.intro (by assumption) ?_))
      refine sc_ysr _ hd _ ?_
      (repeat (first | refine br_t (by decide +kernel) ?_ | refine br_f (by decide +kernel) ?_ | refine br_t (by assumption) ?_ | refine br_f (by assumption) ?_ | refine nm_r (nI_1 p) ?_ | refine nm_e ?_ | refine And.intro (by assumption) ?_))
      exact h
    · rw [sc_nfq (by decide +kernel) hf] at h
      (repeat (first | refine br_t (by decide +kernel) ?_ | refine br_f (by decide +kernel) ?_ | refine br_t (by assumption) ?_ | refine br_f (by assumption) ?_ | refine nm_r (nI_1 p) ?_ | refine nm_e ?_ | refine And.intro (by assumption) ?_))
      refine sc_ysr _ hd _ ?_
      (repeat (first | refine br_t (by decide +kernel) ?_ | refine br_f (by decide +kernel) ?_ | refine br_t (by assumption) ?_ | refine br_f (by assumption) ?_ | refine nm_r (nI_1 p) ?_ | refine nm_e ?_ | refine And.intro (by assumption) ?_))
      exact h
  · rw [if_neg hy, if_neg hy, sc_ncm, sc_nfm, sc_nlm] at h
    (repeat (first | refine br_t (by decide +kernel) ?_ | refine br_f (by decide +kernel) ?_ | refine br_t (by assumption) ?_ | refine br_f (by assumption) ?_ | refine nm_r (nI_1 p) ?_ | refine nm_e ?_ | refine And.intro (by assumption) ?_))
    refine sc_ysr _ hd _ ?_
    (repeat (first | refine br_t (by decide +kernel) ?_ | refine br_f (by decide +kernel) ?_ | refine br_t (by assumption) ?_ | refine br_f (by assumption) ?_ | refine nm_r (nI_1 p) ?_ | refine nm_e ?_ | refine And.intro (by assumption) ?_))
    exact h
theorem sc_y8o (post : SY → Prop) {p d : Nat} {fl fc ff fz : Int32} {R M O D A B LT : Nat → Int32} (hd : d < 8) (x l y s x7 z : Int32) (ho : l + x < 0 ∨ nI 32 ≤ l + x) (h : post (fl, nI (p + 1), sc_nc (sc_fk 8 l x) fc, sc_nf (sc_fk 8 l x) (nI p) ff, sc_nl (sc_fk 8 l x) (nI p) fz, sc_nr 8 d l x R M, sc_nm 8 d l x R M, O, D, A, B, LT)) : wY_step_99 post (nI 8) (nI d) x l y s (l + x) 0 fl (nI p) fc ff fz R M O D A B LT := by
  have hr : sc_nr 8 d l x R M = upd R d (sc_res 8 l x M) := rfl
  rw [hr, sc_res8o ho, sc_fk8o ho, sc_ncp (by decide +kernel), sc_nlp (by decide +kernel)] at h
  clear ho
  by_cases hf : ff = -1
  · rw [sc_nfp (by decide +kernel) hf] at h
    (repeat (first | refine br_t (by decide +kernel) ?_ | refine br_f (by decide +kernel) ?_ | refine br_t (by assumption) ?_ | refine br_f (by assumption) ?_ | refine nm_r (nI_1 p) ?_ | refine nm_e ?_ | refine And.intro (by assumption) ?_))
    refine sc_ysr _ hd _ ?_
    (repeat (first | refine br_t (by decide +kernel) ?_ | refine br_f (by decide +kernel) ?_ | refine br_t (by assumption) ?_ | refine br_f (by assumption) ?_ | refine nm_r (nI_1 p) ?_ | refine nm_e ?_ | refine And.intro (by assumption) ?_))
    exact h
  · rw [sc_nfq (by decide +kernel) hf] at h
    (repeat (first | refine br_t (by decide +kernel) ?_ | refine br_f (by decide +kernel) ?_ | refine br_t (by assumption) ?_ | refine br_f (by assumption) ?_ | refine nm_r (nI_1 p) ?_ | refine nm_e ?_ | refine And.intro (by assumption) ?_))
    refine sc_ysr _ hd _ ?_
    (repeat (first | refine br_t (by decide +kernel) ?_ | refine br_f (by decide +kernel) ?_ | refine br_t (by assumption) ?_ | refine br_f (by assumption) ?_ | refine nm_r (nI_1 p) ?_ | refine nm_e ?_ | refine And.intro (by assumption) ?_))
    exact h
theorem sc_y8i (post : SY → Prop) {p d : Nat} {fl fc ff fz : Int32} {R M O D A B LT : Nat → Int32} (hd : d < 8) (x l y s x7 z : Int32) {j : Nat} (hj : j < 32) (e : l + x = nI j) (h : post (fl, nI (p + 1), sc_nc (sc_fk 8 l x) fc, sc_nf (sc_fk 8 l x) (nI p) ff, sc_nl (sc_fk 8 l x) (nI p) fz, sc_nr 8 d l x R M, sc_nm 8 d l x R M, O, D, A, B, LT)) : wY_step_99 post (nI 8) (nI d) x l y s (l + x) 1 fl (nI p) fc ff fz R M O D A B LT := by
  have hr : sc_nr 8 d l x R M = upd R d (sc_res 8 l x M) := rfl
  have iv : vp_in (l + x) 32 := by rw [e]; exact vp_in_nI hj (by decide)
  rw [hr, sc_res8i hj e, sc_fk8i hj e, sc_ncm, sc_nfm, sc_nlm] at h
  (repeat (first | refine br_t (by decide +kernel) ?_ | refine br_f (by decide +kernel) ?_ | refine br_t (by assumption) ?_ | refine br_f (by assumption) ?_ | refine nm_r (nI_1 p) ?_ | refine nm_e ?_ | refine And.intro (by assumption) ?_))
  refine sc_ysr _ hd _ ?_
  (repeat (first | refine br_t (by decide +kernel) ?_ | refine br_f (by decide +kernel) ?_ | refine br_t (by assumption) ?_ | refine br_f (by assumption) ?_ | refine nm_r (nI_1 p) ?_ | refine nm_e ?_ | refine And.intro (by assumption) ?_))
  rw [e, nI_clamp (by omega)]
  exact h
theorem sc_y9o (post : SY → Prop) {p d : Nat} {fl fc ff fz : Int32} {R M O D A B LT : Nat → Int32} (hd : d < 8) (x l y s x7 z : Int32) (ho : l + x < 0 ∨ nI 32 ≤ l + x) (h : post (fl, nI (p + 1), sc_nc (sc_fk 9 l x) fc, sc_nf (sc_fk 9 l x) (nI p) ff, sc_nl (sc_fk 9 l x) (nI p) fz, sc_nr 9 d l x R M, sc_nm 9 d l x R M, O, D, A, B, LT)) : wY_step_99 post (nI 9) (nI d) x l y s (l + x) 0 fl (nI p) fc ff fz R M O D A B LT := by
  have hm : sc_nm 9 d l x R M = sc_st (l + x) (R d) M := rfl
  rw [hm, sc_sto ho, sc_fk9o ho, sc_ncp (by decide +kernel), sc_nlp (by decide +kernel)] at h
  clear ho
  by_cases hf : ff = -1
  · rw [sc_nfp (by decide +kernel) hf] at h
    (repeat (first | refine br_t (by decide +kernel) ?_ | refine br_f (by decide +kernel) ?_ | refine br_t (by assumption) ?_ | refine br_f (by assumption) ?_ | refine nm_r (nI_1 p) ?_ | refine nm_e ?_ | refine And.intro (by assumption) ?_))
    exact h
  · rw [sc_nfq (by decide +kernel) hf] at h
    (repeat (first | refine br_t (by decide +kernel) ?_ | refine br_f (by decide +kernel) ?_ | refine br_t (by assumption) ?_ | refine br_f (by assumption) ?_ | refine nm_r (nI_1 p) ?_ | refine nm_e ?_ | refine And.intro (by assumption) ?_))
    exact h
theorem sc_y9i (post : SY → Prop) {p d : Nat} {fl fc ff fz : Int32} {R M O D A B LT : Nat → Int32} (hd : d < 8) (x l y s x7 z : Int32) {j : Nat} (hj : j < 32) (e : l + x = nI j) (h : post (fl, nI (p + 1), sc_nc (sc_fk 9 l x) fc, sc_nf (sc_fk 9 l x) (nI p) ff, sc_nl (sc_fk 9 l x) (nI p) fz, sc_nr 9 d l x R M, sc_nm 9 d l x R M, O, D, A, B, LT)) : wY_step_99 post (nI 9) (nI d) x l y (R d) (l + x) 1 fl (nI p) fc ff fz R M O D A B LT := by
  have hm : sc_nm 9 d l x R M = sc_st (l + x) (R d) M := rfl
  have iv : vp_in (l + x) 32 := by rw [e]; exact vp_in_nI hj (by decide)
  rw [hm, sc_fk9i hj e, sc_ncm, sc_nfm, sc_nlm, e, sc_sti hj] at h
  (repeat (first | refine br_t (by decide +kernel) ?_ | refine br_f (by decide +kernel) ?_ | refine br_t (by assumption) ?_ | refine br_f (by assumption) ?_ | refine nm_r (nI_1 p) ?_ | refine nm_e ?_ | refine And.intro (by assumption) ?_))
  rw [e, nI_clamp (by omega)]
  exact h
theorem sc_yb10T (post : SY → Prop) {p d : Nat} {fl fc ff fz : Int32} {R M O D A B LT : Nat → Int32} (x l y s x7 z : Int32) (hc : l = y) (h : post (fl, nI d, fc, ff, fz, R, M, O, D, A, B, LT)) : wY_step_99 post (nI 10) (nI d) x l y s x7 z fl (nI p) fc ff fz R M O D A B LT := by
  (repeat (first | refine br_t (by decide +kernel) ?_ | refine br_f (by decide +kernel) ?_ | refine br_t (by assumption) ?_ | refine br_f (by assumption) ?_ | refine nm_r (nI_1 p) ?_ | refine nm_e ?_ | refine And.intro (by assumption) ?_))
  exact h
theorem sc_yb10F (post : SY → Prop) {p d : Nat} {fl fc ff fz : Int32} {R M O D A B LT : Nat → Int32} (x l y s x7 z : Int32) (hc : ¬ l = y) (h : post (fl, nI (p + 1), fc, ff, fz, R, M, O, D, A, B, LT)) : wY_step_99 post (nI 10) (nI d) x l y s x7 z fl (nI p) fc ff fz R M O D A B LT := by
  (repeat (first | refine br_t (by decide +kernel) ?_ | refine br_f (by decide +kernel) ?_ | refine br_t (by assumption) ?_ | refine br_f (by assumption) ?_ | refine nm_r (nI_1 p) ?_ | refine nm_e ?_ | refine And.intro (by assumption) ?_))
  exact h
theorem sc_yb11T (post : SY → Prop) {p d : Nat} {fl fc ff fz : Int32} {R M O D A B LT : Nat → Int32} (x l y s x7 z : Int32) (hc : ¬ l = y) (h : post (fl, nI d, fc, ff, fz, R, M, O, D, A, B, LT)) : wY_step_99 post (nI 11) (nI d) x l y s x7 z fl (nI p) fc ff fz R M O D A B LT := by
  (repeat (first | refine br_t (by decide +kernel) ?_ | refine br_f (by decide +kernel) ?_ | refine br_t (by assumption) ?_ | refine br_f (by assumption) ?_ | refine nm_r (nI_1 p) ?_ | refine nm_e ?_ | refine And.intro (by assumption) ?_))
  exact h
theorem sc_yb11F (post : SY → Prop) {p d : Nat} {fl fc ff fz : Int32} {R M O D A B LT : Nat → Int32} (x l y s x7 z : Int32) (hc : l = y) (h : post (fl, nI (p + 1), fc, ff, fz, R, M, O, D, A, B, LT)) : wY_step_99 post (nI 11) (nI d) x l y s x7 z fl (nI p) fc ff fz R M O D A B LT := by
  (repeat (first | refine br_t (by decide +kernel) ?_ | refine br_f (by decide +kernel) ?_ | refine br_t (by assumption) ?_ | refine br_f (by assumption) ?_ | refine nm_r (nI_1 p) ?_ | refine nm_e ?_ | refine And.intro (by assumption) ?_))
  exact h
theorem sc_yb12T (post : SY → Prop) {p d : Nat} {fl fc ff fz : Int32} {R M O D A B LT : Nat → Int32} (x l y s x7 z : Int32) (hc : ¬ y ≤ l) (h : post (fl, nI d, fc, ff, fz, R, M, O, D, A, B, LT)) : wY_step_99 post (nI 12) (nI d) x l y s x7 z fl (nI p) fc ff fz R M O D A B LT := by
  (repeat (first | refine br_t (by decide +kernel) ?_ | refine br_f (by decide +kernel) ?_ | refine br_t (by assumption) ?_ | refine br_f (by assumption) ?_ | refine nm_r (nI_1 p) ?_ | refine nm_e ?_ | refine And.intro (by assumption) ?_))
  exact h
theorem sc_yb12F (post : SY → Prop) {p d : Nat} {fl fc ff fz : Int32} {R M O D A B LT : Nat → Int32} (x l y s x7 z : Int32) (hc : y ≤ l) (h : post (fl, nI (p + 1), fc, ff, fz, R, M, O, D, A, B, LT)) : wY_step_99 post (nI 12) (nI d) x l y s x7 z fl (nI p) fc ff fz R M O D A B LT := by
  (repeat (first | refine br_t (by decide +kernel) ?_ | refine br_f (by decide +kernel) ?_ | refine br_t (by assumption) ?_ | refine br_f (by assumption) ?_ | refine nm_r (nI_1 p) ?_ | refine nm_e ?_ | refine And.intro (by assumption) ?_))
  exact h
theorem sc_yhead (post : SY → Prop) {p o a d : Nat} {fl fc ff fz : Int32} {R M O D A B LT : Nat → Int32} (hp : p < 32) (hc : sc_Cell O D A B p o a d) (h : ∀ y s : Int32, (¬ (o = 3 ∨ o = 8 ∨ o = 9) → y = R (B p).toNatClampNeg) → (o < 10 → s = R d) → ((R a + B p < 0 ∨ nI 32 ≤ R a + B p) → wY_step_99 post (nI o) (nI d) (B p) (R a) y s (R a + B p) 0 fl (nI p) fc ff fz R M O D A B LT) ∧ (∀ j : Nat, j < 32 → R a + B p = nI j → wY_step_99 post (nI o) (nI d) (B p) (R a) y s (R a + B p) 1 fl (nI p) fc ff fz R M O D A B LT)) : wpY_step post (fl, nI p, fc, ff, fz, R, M, O, D, A, B, LT) := by
  obtain ⟨hO, ho1, ho12, hA, ha, hD, hd, hd8, hB⟩ := hc
  have cp : (nI p).toNatClampNeg = p := nI_clamp (by omega)
  have ip : vp_in (nI p) 32 := vp_in_nI hp (by decide)
  unfold wpY_step
  try dsimp only
  refine br_f (nI_pos (by omega)) (br_t (nI_lt (b := 32) hp (by decide)) ⟨ip, nm_r (e' := nI o) (by rw [cp]; exact hO) ⟨ip, nm_r (e' := nI d) (by rw [cp]; exact hD) ⟨ip, nm_r (e' := B p) (by rw [cp]) ⟨ip, ?_⟩⟩⟩⟩)
  rw [cp, hA]
  refine sc_yr _ ha ?_
  refine sc_yrg _ (B p) (fun y hy => ?_)
  refine sc_yrg _ (nI d) (fun s hs => nm_e ?_)
  obtain ⟨k0, k1⟩ := h y s (fun z => by
    obtain ⟨b, hb, e⟩ := hB (by omega) (by omega) (by omega)
    rw [e, nI_clamp (by omega)]
    exact hy b hb e) (fun z => hs d (hd8 z) rfl)
  rcases pk_ix (R a + B p) (n := 32) (by decide) with z | z | ⟨j, hj, e⟩
  · exact br_t z (k0 (Or.inl z))
  · exact br_f (sc_big (by decide) z).1 (br_t z (k0 (Or.inr z)))
  · exact br_f (by rw [e]; exact nI_pos (by omega)) (br_f (by rw [e]; exact sc_g32 hj) (k1 j hj e))
theorem sc_ystepN (post : SY → Prop) {p o a d : Nat} {fl fc ff fz : Int32} {R M O D A B LT : Nat → Int32} (hp : p < 32) (hc : sc_Cell O D A B p o a d) (ho : o < 10) (h : post (fl, nI (p + 1), sc_nc (sc_fk o (R a) (sc_rt o (B p) R)) fc, sc_nf (sc_fk o (R a) (sc_rt o (B p) R)) (nI p) ff, sc_nl (sc_fk o (R a) (sc_rt o (B p) R)) (nI p) fz, sc_nr o d (R a) (sc_rt o (B p) R) R M, sc_nm o d (R a) (sc_rt o (B p) R) R M, O, D, A, B, LT)) : wpY_step post (fl, nI p, fc, ff, fz, R, M, O, D, A, B, LT) := by
  refine sc_yhead post hp hc (fun y s hy hs => ?_)
  obtain ⟨hO, ho1, ho12, hA, ha, hD, hd, hd8, hB⟩ := hc
  have hd' := hd8 ho
  rcases sc_nine ho1 (by omega) with rfl | rfl | rfl | rfl | rfl | rfl | rfl | rfl | rfl
  · have e : sc_rt 1 (B p) R = y := (if_neg (by decide)).trans (hy (by decide)).symm
    rw [e] at h
    exact ⟨fun _ => sc_y1 post hd' _ _ _ _ _ _ h, fun _ _ _ => sc_y1 post hd' _ _ _ _ _ _ h⟩
  · have e : sc_rt 2 (B p) R = y := (if_neg (by decide)).trans (hy (by decide)).symm
    rw [e] at h
    exact ⟨fun _ => sc_y2 post hd' _ _ _ _ _ _ h, fun _ _ _ => sc_y2 post hd' _ _ _ _ _ _ h⟩
  · have e : sc_rt 3 (B p) R = B p := if_pos (by decide)
    rw [e] at h
    exact ⟨fun _ => sc_y3 post hd' _ _ _ _ _ _ h, fun _ _ _ => sc_y3 post hd' _ _ _ _ _ _ h⟩
  · have e : sc_rt 4 (B p) R = y := (if_neg (by decide)).trans (hy (by decide)).symm
    rw [e] at h
    exact ⟨fun _ => sc_y4 post hd' _ _ _ _ _ _ h, fun _ _ _ => sc_y4 post hd' _ _ _ _ _ _ h⟩
  · have e : sc_rt 5 (B p) R = y := (if_neg (by decide)).trans (hy (by decide)).symm
    rw [e] at h
    exact ⟨fun _ => sc_y5 post hd' _ _ _ _ _ _ h, fun _ _ _ => sc_y5 post hd' _ _ _ _ _ _ h⟩
  · have e : sc_rt 6 (B p) R = y := (if_neg (by decide)).trans (hy (by decide)).symm
    rw [e] at h
    exact ⟨fun _ => sc_y6 post hd' _ _ _ _ _ _ h, fun _ _ _ => sc_y6 post hd' _ _ _ _ _ _ h⟩
  · have e : sc_rt 7 (B p) R = y := (if_neg (by decide)).trans (hy (by decide)).symm
    rw [e] at h
    exact ⟨fun _ => sc_y7 post hd' _ _ _ _ _ _ h, fun _ _ _ => sc_y7 post hd' _ _ _ _ _ _ h⟩
  · have e : sc_rt 8 (B p) R = B p := if_pos (by decide)
    rw [e] at h
    exact ⟨fun z => sc_y8o post hd' _ _ y s (R a + B p) 0 z h, fun j hj z => sc_y8i post hd' _ _ y s (R a + B p) 1 hj z h⟩
  · have e : sc_rt 9 (B p) R = B p := if_pos (by decide)
    rw [e] at h
    have es := hs (by decide)
    subst es
    exact ⟨fun z => sc_y9o post hd' _ _ y (R d) (R a + B p) 0 z h, fun j hj z => sc_y9i post hd' _ _ y (R d) (R a + B p) 1 hj z h⟩
theorem sc_ystepT (post : SY → Prop) {p o a d : Nat} {fl fc ff fz : Int32} {R M O D A B LT : Nat → Int32} (hp : p < 32) (hc : sc_Cell O D A B p o a d) (ho : 10 ≤ o) (ht : sc_tk o (R a) (sc_rt o (B p) R)) (h : post (fl, nI d, fc, ff, fz, R, M, O, D, A, B, LT)) : wpY_step post (fl, nI p, fc, ff, fz, R, M, O, D, A, B, LT) := by
  refine sc_yhead post hp hc (fun y s hy hs => ?_)
  obtain ⟨hO, ho1, ho12, hA, ha, hD, hd, hd8, hB⟩ := hc
  rcases sc_three ho ho12 with rfl | rfl | rfl
  · have e : sc_rt 10 (B p) R = y := (if_neg (by decide)).trans (hy (by decide)).symm
    have e2 : sc_tk 10 (R a) y = (R a = y) := rfl
    rw [e, e2] at ht
    exact ⟨fun _ => sc_yb10T post _ _ _ _ _ _ (ht) h, fun _ _ _ => sc_yb10T post _ _ _ _ _ _ (ht) h⟩
  · have e : sc_rt 11 (B p) R = y := (if_neg (by decide)).trans (hy (by decide)).symm
    have e2 : sc_tk 11 (R a) y = (¬ R a = y) := rfl
    rw [e, e2] at ht
    exact ⟨fun _ => sc_yb11T post _ _ _ _ _ _ (ht) h, fun _ _ _ => sc_yb11T post _ _ _ _ _ _ (ht) h⟩
  · have e : sc_rt 12 (B p) R = y := (if_neg (by decide)).trans (hy (by decide)).symm
    have e2 : sc_tk 12 (R a) y = (¬ y ≤ R a) := rfl
    rw [e, e2] at ht
    exact ⟨fun _ => sc_yb12T post _ _ _ _ _ _ (ht) h, fun _ _ _ => sc_yb12T post _ _ _ _ _ _ (ht) h⟩
theorem sc_ystepF (post : SY → Prop) {p o a d : Nat} {fl fc ff fz : Int32} {R M O D A B LT : Nat → Int32} (hp : p < 32) (hc : sc_Cell O D A B p o a d) (ho : 10 ≤ o) (ht : ¬ sc_tk o (R a) (sc_rt o (B p) R)) (h : post (fl, nI (p + 1), fc, ff, fz, R, M, O, D, A, B, LT)) : wpY_step post (fl, nI p, fc, ff, fz, R, M, O, D, A, B, LT) := by
  refine sc_yhead post hp hc (fun y s hy hs => ?_)
  obtain ⟨hO, ho1, ho12, hA, ha, hD, hd, hd8, hB⟩ := hc
  rcases sc_three ho ho12 with rfl | rfl | rfl
  · have e : sc_rt 10 (B p) R = y := (if_neg (by decide)).trans (hy (by decide)).symm
    have e2 : sc_tk 10 (R a) y = (R a = y) := rfl
    rw [e, e2] at ht
    exact ⟨fun _ => sc_yb10F post _ _ _ _ _ _ (ht) h, fun _ _ _ => sc_yb10F post _ _ _ _ _ _ (ht) h⟩
  · have e : sc_rt 11 (B p) R = y := (if_neg (by decide)).trans (hy (by decide)).symm
    have e2 : sc_tk 11 (R a) y = (¬ R a = y) := rfl
    rw [e, e2] at ht
    exact ⟨fun _ => sc_yb11F post _ _ _ _ _ _ (Classical.not_not.mp ht) h, fun _ _ _ => sc_yb11F post _ _ _ _ _ _ (Classical.not_not.mp ht) h⟩
  · have e : sc_rt 12 (B p) R = y := (if_neg (by decide)).trans (hy (by decide)).symm
    have e2 : sc_tk 12 (R a) y = (¬ y ≤ R a) := rfl
    rw [e, e2] at ht
    exact ⟨fun _ => sc_yb12F post _ _ _ _ _ _ (Classical.not_not.mp ht) h, fun _ _ _ => sc_yb12F post _ _ _ _ _ _ (Classical.not_not.mp ht) h⟩
