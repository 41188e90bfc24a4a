/-! finish, passCycle, mustWait, waitToStart, drain -/
theorem sc_xfin (post : SX → Prop) {fl fp fc ff fz : Int32} {R M LT O D A B AW CL UC UL UR US : Nat → Int32} {u j o d : Nat} (hu : u < 4) (hj : j < 32) (hUC : UC u = nI j) (ho1 : 1 ≤ o) (ho9 : o ≤ 9) (hO : O j = nI o) (hd : d < 8) (hD : D j = nI d) (hA : o ≠ 9 → post (fl, fp, fc, ff, fz, upd R d (sc_res o (UL u) (UR u) M), M, LT, O, D, A, B, upd AW d 0, CL, UC, UL, UR, US)) (hS : o = 9 → post (fl, fp, fc, ff, fz, R, sc_st (UL u + UR u) (US u) M, LT, O, D, A, B, AW, CL, UC, UL, UR, US)) : wpX_finish post (fl, fp, fc, ff, fz, R, M, LT, O, D, A, B, AW, CL, UC, UL, UR, US) (nI u) := by
  have cu : (nI u).toNatClampNeg = u := nI_clamp (by omega)
  have cj : (nI j).toNatClampNeg = j := nI_clamp (by omega)
  have cd : (D (nI j).toNatClampNeg).toNatClampNeg = d := by rw [cj, hD, nI_clamp (by omega)]
  have iu : vp_in (nI u) 4 := vp_in_nI hu (by decide)
  have ij : vp_in (nI j) 32 := vp_in_nI hj (by decide)
  have id : vp_in (D (nI j).toNatClampNeg) 8 := by rw [cj, hD]; exact vp_in_nI hd (by decide)
  unfold wpX_finish
  try dsimp only
  refine ⟨iu, nm_r (e' := nI j) (by rw [cu]; exact hUC) ⟨ij, nm_r (e' := nI o) (by rw [cj]; exact hO) ⟨iu, nm_r (e' := UL u) (by rw [cu]) ⟨iu, nm_r (e' := UR u) (by rw [cu]) ?_⟩⟩⟩⟩
  refine pk_eq o 9 (fun e => ⟨iu, ?_⟩) (fun ne => ⟨ij, ?_⟩)
  · rw [cu]
    exact sc_setM _ _ _ (fun r => hS e)
  · refine sc_result _ o (UL u) (UR u) ho1 (by omega) ⟨id, nm_r (e' := upd R d (sc_res o (UL u) (UR u) M)) (by rw [cd]) ⟨ij, id, nm_r (e' := upd AW d 0) (by rw [cd, sc_b0]) (hA ne)⟩⟩
def sc_bd (m i : Nat) : Nat → Nat := fun v => if v < i then m - 1 else m
theorem sc_bds (m i : Nat) (u : Nat) : (if u = i then sc_bd m i i - 1 else sc_bd m i u) ≤ sc_bd m (i + 1) u := by
  unfold sc_bd
  by_cases e : u = i
  · subst e
    rw [if_pos rfl, if_neg (Nat.lt_irrefl u), if_pos (Nat.lt_succ_self u)]
    exact Nat.le_refl _
  · rw [if_neg e]
    by_cases h : u < i
    · rw [if_pos h, if_pos (Nat.lt_succ_of_lt h)]
      exact Nat.le_refl _
    · rw [if_neg h, if_neg (by omega)]
      exact Nat.le_refl _
theorem sc_skip {n : Nat} {bd : Nat → Nat} {O D : Nat → Int32} {w : Nat → Nat} {AW CL UC UL UR US R M R' M' : Nat → Int32} {u : Nat} (I : sc_Inv n bd O D w AW CL UC UL UR US R M R' M') (h : CL u ≤ 0) : sc_Inv n (fun v => if v = u then bd u - 1 else bd v) O D w AW CL UC UL UR US R M R' M' := by
  obtain ⟨J, G, H⟩ := I
  refine ⟨fun v hv => ?_, G, H⟩
  show CL v = 0 ∨ sc_Job n O D w AW R' M' (if v = u then bd u - 1 else bd v) v (CL v) (UC v) (UL v) (UR v)
  by_cases e : v = u
  · rcases J v hv with z | z
    · exact Or.inl z
    · rw [e] at z
      exact absurd h (sc_pos z).2
  · rw [if_neg e]
    exact J v hv
theorem sc_pass2 (post : SX → Prop) {n m : Nat} {w : Nat → Nat} {R' M' : Nat → Int32} {fl fp fc ff fz : Int32} {LT O D A B UC UL UR US : Nat → Int32} (hn : n ≤ 32) (hp : ∀ R M AW CL : Nat → Int32, sc_Inv n (fun _ => m - 1) O D w AW CL UC UL UR US R M R' M' → post (fl, fp, fc, ff, fz, R, M, LT, O, D, A, B, AW, CL, UC, UL, UR, US)) :
    ∀ e i : Nat, i + e = 4 → ∀ R M AW CL : Nat → Int32, sc_Inv n (sc_bd m i) O D w AW CL UC UL UR US R M R' M' → wX_passCycle_2 post (e + 1) (nI i) fl fp fc ff fz R M LT O D A B AW CL UC UL UR US := by
  intro e
  induction e with
  | zero =>
    intro i hi R M AW CL I
    have h : (4 : Int32) ≤ nI i := nI_le (a := 4) (by omega) (by omega)
    exact br_t h (hp R M AW CL (sc_mono I (fun u hu => by unfold sc_bd; rw [if_pos (by omega)]; exact Nat.le_refl _)))
  | succ e ih =>
    intro i hi R M AW CL I
    have h : ¬ (4 : Int32) ≤ nI i := nI_ge (b := 4) (by omega) (by decide)
    have hi4 : i < 4 := by omega
    have ci : (nI i).toNatClampNeg = i := nI_clamp (by omega)
    have iu : vp_in (nI i) 4 := vp_in_nI hi4 (by decide)
    refine br_f h ⟨iu, ?_⟩
    rw [ci]
    by_cases h0 : CL i ≤ 0
    · refine br_t h0 (nm_r (nI_1 i) (ih (i + 1) (by omega) R M AW CL (sc_mono (sc_skip I h0) (fun u _ => sc_bds m i u))))
    · refine br_f h0 ⟨iu, iu, nm_e ⟨iu, ?_⟩⟩
      by_cases h1 : CL i - 1 = 0
      · refine br_t (by rw [pk_us]; exact h1) ?_
        obtain ⟨j, o, d, hj, huc, ho1, ho9, hO, hd, hD, kA, kS⟩ := sc_fin hn I hi4 h0 h1
        refine sc_xfin _ hi4 (by omega) huc ho1 ho9 hO hd hD (fun ne => ?_) (fun e9 => ?_)
        · exact nm_r (nI_1 i) (ih (i + 1) (by omega) _ _ _ _ (sc_mono (kA ne) (fun u _ => sc_bds m i u)))
        · exact nm_r (nI_1 i) (ih (i + 1) (by omega) _ _ _ _ (sc_mono (kS e9) (fun u _ => sc_bds m i u)))
      · refine br_f (by rw [pk_us]; exact h1) ?_
        exact nm_r (nI_1 i) (ih (i + 1) (by omega) _ _ _ _ (sc_mono (sc_tick I hi4 h0 h1) (fun u _ => sc_bds m i u)))
theorem sc_pass (post : SX → Prop) {n m : Nat} {w : Nat → Nat} {R' M' : Nat → Int32} {fl fp fc ff fz : Int32} {R M LT O D A B AW CL UC UL UR US : Nat → Int32} (hn : n ≤ 32) (I : sc_Inv n (fun _ => m) O D w AW CL UC UL UR US R M R' M') (hp : ∀ R M AW CL : Nat → Int32, sc_Inv n (fun _ => m - 1) O D w AW CL UC UL UR US R M R' M' → post (fl, fp, fc, ff, fz, R, M, LT, O, D, A, B, AW, CL, UC, UL, UR, US)) : wpX_passCycle post (fl, fp, fc, ff, fz, R, M, LT, O, D, A, B, AW, CL, UC, UL, UR, US) :=
  ⟨5, sc_pass2 post hn hp 4 0 rfl R M AW CL (sc_mono I (fun u _ => by unfold sc_bd; rw [if_neg (Nat.not_lt_zero u)]; exact Nat.le_refl _))⟩
theorem sc_drain2 (post : SX → Prop) {n : Nat} {w : Nat → Nat} {R' M' : Nat → Int32} {fl fp fc ff fz : Int32} {LT O D A B UC UL UR US : Nat → Int32} (hn : n ≤ 32) (hp : ∀ R M AW CL : Nat → Int32, sc_Inv n (fun _ => 0) O D w AW CL UC UL UR US R M R' M' → post (fl, fp, fc, ff, fz, R, M, LT, O, D, A, B, AW, CL, UC, UL, UR, US)) :
    ∀ e i : Nat, i + e = 8 → ∀ R M AW CL : Nat → Int32, sc_Inv n (fun _ => e) O D w AW CL UC UL UR US R M R' M' → wX_drain_2 post (e + 1) (nI i) fl fp fc ff fz R M LT O D A B AW CL UC UL UR US := by
  intro e
  induction e with
  | zero =>
    intro i hi R M AW CL I
    have h : (8 : Int32) ≤ nI i := nI_le (a := 8) (by omega) (by omega)
    exact br_t h (hp R M AW CL I)
  | succ e ih =>
    intro i hi R M AW CL I
    have h : ¬ (8 : Int32) ≤ nI i := nI_ge (b := 8) (by omega) (by decide)
    refine br_f h (sc_pass _ hn I (fun R M AW CL I' => ?_))
    exact nm_r (nI_1 i) (ih (i + 1) (by omega) R M AW CL I')
theorem sc_drain (post : SX → Prop) {n : Nat} {w : Nat → Nat} {R' M' : Nat → Int32} {fl fp fc ff fz : Int32} {R M LT O D A B AW CL UC UL UR US : Nat → Int32} (hn : n ≤ 32) (I : sc_Inv n (fun _ => 8) O D w AW CL UC UL UR US R M R' M') (hp : ∀ R M AW CL : Nat → Int32, sc_Inv n (fun _ => 0) O D w AW CL UC UL UR US R M R' M' → post (fl, fp, fc, ff, fz, R, M, LT, O, D, A, B, AW, CL, UC, UL, UR, US)) : wpX_drain post (fl, fp, fc, ff, fz, R, M, LT, O, D, A, B, AW, CL, UC, UL, UR, US) :=
  ⟨9, sc_drain2 post hn hp 8 0 rfl R M AW CL I⟩
/-- nothing holds the instruction back -/
def sc_Rdy (o a d : Nat) (bv : Int32) (AW CL : Nat → Int32) : Prop := AW a = 0 ∧ (¬ (o = 3 ∨ o = 8 ∨ o = 9) → AW bv.toNatClampNeg = 0) ∧ (o < 10 → AW d = 0 ∧ CL (sc_u o) = 0)
theorem sc_must (post : Int32 → Prop) {fl fp fc ff fz : Int32} {R M LT O D A B AW CL UC UL UR US : Nat → Int32} {p o a d : Nat} (hp : p < 32) (hc : sc_Cell O D A B p o a d) (hz : ∀ u, u < 4 → CL u ≤ 0 → CL u = 0) (h0 : sc_Rdy o a d (B p) AW CL → post 0) (h1 : post 1) : wpX_mustWait post (fl, fp, fc, ff, fz, R, M, LT, O, D, A, B, AW, CL, UC, UL, UR, US) (nI p) := by
  obtain ⟨hO, ho1, ho12, hA, ha, hD, hd, hd8, hB⟩ := hc
  have cp : (nI p).toNatClampNeg = p := nI_clamp (by omega)
  have ca : (A (nI p).toNatClampNeg).toNatClampNeg = a := by rw [cp, hA, nI_clamp (by omega)]
  have ip : vp_in (nI p) 32 := vp_in_nI hp (by decide)
  have ia : vp_in (A (nI p).toNatClampNeg) 8 := by rw [cp, hA]; exact vp_in_nI ha (by decide)
  have cd : (D (nI p).toNatClampNeg).toNatClampNeg = d := by rw [cp, hD, nI_clamp (by omega)]
  have k44 : AW a = 0 → (¬ (o = 3 ∨ o = 8 ∨ o = 9) → AW (B p).toNatClampNeg = 0) → wX_mustWait_44 post (nI p) (nI o) fl fp fc ff fz R M LT O D A B AW CL UC UL UR US := by
    intro qa qb
    refine sc_ibr _ o ho12 (fun ho => br_t rfl ?_) (fun ho => br_f sc_10 (h0 ⟨qa, qb, fun z => by omega⟩))
    have i8 : vp_in (D (nI p).toNatClampNeg) 8 := by rw [cp, hD]; exact vp_in_nI (hd8 ho) (by decide)
    have cu : (nI (sc_u o)).toNatClampNeg = sc_u o := nI_clamp (by have := sc_u4 o; omega)
    refine sc_unit _ o ho1 (by omega) ⟨ip, i8, ?_⟩
    rw [cd]
    refine br_c (fun zd => ⟨vp_in_nI (sc_u4 o) (by decide), ?_⟩) (fun _ => h1)
    rw [cu]
    exact br_c (fun q => h0 ⟨qa, qb, fun _ => ⟨zd, hz _ (sc_u4 o) q⟩⟩) (fun _ => h1)
  unfold wpX_mustWait
  try dsimp only
  refine ⟨ip, nm_r (e' := nI o) (by rw [cp]; exact hO) ⟨ip, ia, ?_⟩⟩
  rw [ca]
  refine br_c (fun qa => ?_) (fun _ => h1)
  refine sc_nrb _ o ho12 (fun z => br_t rfl (k44 qa (fun y => absurd z y))) (fun z => br_f sc_10 ⟨ip, ?_, ?_⟩)
  · rw [cp]
    obtain ⟨b, hb, e⟩ := hB (by omega) (by omega) (by omega)
    rw [e]
    exact vp_in_nI hb (by decide)
  · rw [cp]
    exact br_c (fun qb => k44 qa (fun _ => qb)) (fun _ => h1)
theorem sc_z {n : Nat} {bd : Nat → Nat} {O D : Nat → Int32} {w : Nat → Nat} {AW CL UC UL UR US R M R' M' : Nat → Int32} (I : sc_Inv n bd O D w AW CL UC UL UR US R M R' M') : ∀ u, u < 4 → CL u ≤ 0 → CL u = 0 := by
  intro u hu h
  rcases I.1 u hu with z | z
  · exact z
  · exact absurd h (sc_pos z).2
theorem sc_wait2 (post : SX → Prop) {n p o a d : Nat} {w : Nat → Nat} {R' M' : Nat → Int32} {fl fp fc ff fz : Int32} {LT O D A B UC UL UR US : Nat → Int32} (hn : n ≤ 32) (hp : p < 32) (hc : sc_Cell O D A B p o a d) (h : ∀ R M AW CL : Nat → Int32, sc_Inv n (fun _ => 8) O D w AW CL UC UL UR US R M R' M' → sc_Rdy o a d (B p) AW CL → post (fl, fp, fc, ff, fz, R, M, LT, O, D, A, B, AW, CL, UC, UL, UR, US)) :
    ∀ e i : Nat, i + e = 8 → ∀ R M AW CL : Nat → Int32, sc_Inv n (fun _ => e) O D w AW CL UC UL UR US R M R' M' → wX_waitToStart_2 post (nI p) (e + 1) (nI i) fl fp fc ff fz R M LT O D A B AW CL UC UL UR US := by
  intro e
  induction e with
  | zero =>
    intro i hi R M AW CL I
    have h8 : (8 : Int32) ≤ nI i := nI_le (a := 8) (by omega) (by omega)
    obtain ⟨fC, fA, _, _⟩ := sc_free I (fun _ _ => rfl)
    exact br_t h8 (h R M AW CL (sc_mono I (fun _ _ => Nat.zero_le _)) ⟨fA _, fun _ => fA _, fun _ => ⟨fA _, fC _ (sc_u4 o)⟩⟩)
  | succ e ih =>
    intro i hi R M AW CL I
    have h8 : ¬ (8 : Int32) ≤ nI i := nI_ge (b := 8) (by omega) (by decide)
    refine br_f h8 (sc_must _ hp hc (sc_z I) (fun rdy => br_t rfl (h R M AW CL (sc_mono I (fun _ _ => by omega)) rdy)) (br_f sc_10 (sc_pass _ hn I (fun R M AW CL I' => ?_))))
    exact nm_r (nI_1 i) (ih (i + 1) (by omega) R M AW CL I')
theorem sc_wait (post : SX → Prop) {n p o a d : Nat} {w : Nat → Nat} {R' M' : Nat → Int32} {fl fp fc ff fz : Int32} {R M LT O D A B AW CL UC UL UR US : Nat → Int32} (hn : n ≤ 32) (hp : p < 32) (hc : sc_Cell O D A B p o a d) (I : sc_Inv n (fun _ => 8) O D w AW CL UC UL UR US R M R' M') (h : ∀ R M AW CL : Nat → Int32, sc_Inv n (fun _ => 8) O D w AW CL UC UL UR US R M R' M' → sc_Rdy o a d (B p) AW CL → post (fl, fp, fc, ff, fz, R, M, LT, O, D, A, B, AW, CL, UC, UL, UR, US)) : wpX_waitToStart post (fl, fp, fc, ff, fz, R, M, LT, O, D, A, B, AW, CL, UC, UL, UR, US) (nI p) :=
  ⟨9, sc_wait2 post hn hp hc h 8 0 rfl R M AW CL I⟩
