/-! occupyUnit, start, stopped -/
theorem sc_occ (post : SX → Prop) {fl fp fc ff fz : Int32} {R M LT O D A B AW CL UC UL UR US : Nat → Int32} {p o d : Nat} {l r : Int32} (hp : p < 32) (ho1 : 1 ≤ o) (ho9 : o ≤ 9) (hO : O p = nI o) (hd : d < 8) (hD : D p = nI d) (h : post (fl, fp, fc, ff, fz, R, M, LT, O, D, A, B, upd AW d (if o = 9 then 0 else 1), upd CL (sc_u o) (LT (sc_u o)), upd UC (sc_u o) (nI p), upd UL (sc_u o) l, upd UR (sc_u o) r, upd US (sc_u o) (R d))) : wpX_occupyUnit post (fl, fp, fc, ff, fz, R, M, LT, O, D, A, B, AW, CL, UC, UL, UR, US) (nI p) l r := by
  have cp : (nI p).toNatClampNeg = p := nI_clamp (by omega)
  have cd : (D (nI p).toNatClampNeg).toNatClampNeg = d := by rw [cp, hD, nI_clamp (by omega)]
  have ip : vp_in (nI p) 32 := vp_in_nI hp (by decide)
  have i8 : vp_in (D (nI p).toNatClampNeg) 8 := by rw [cp, hD]; exact vp_in_nI hd (by decide)
  have i4 : vp_in (nI (sc_u o)) 4 := vp_in_nI (sc_u4 o) (by decide)
  have cu : (nI (sc_u o)).toNatClampNeg = sc_u o := nI_clamp (by have := sc_u4 o; omega)
  unfold wpX_occupyUnit
  try dsimp only
  refine ⟨ip, nm_r (e' := nI o) (by rw [cp]; exact hO) (sc_unit _ o ho1 ho9 ?_)⟩
  refine ⟨i4, i4, nm_r (e' := upd CL (sc_u o) (LT (sc_u o))) (by rw [cu]) ⟨i4, nm_r (e' := upd UC (sc_u o) (nI p)) (by rw [cu]) ⟨i4, nm_r (e' := upd UL (sc_u o) l) (by rw [cu]) ⟨i4, nm_r (e' := upd UR (sc_u o) r) (by rw [cu]) ⟨ip, i8, i4, nm_r (e' := upd US (sc_u o) (R d)) (by rw [cu, cd]) ⟨ip, ?_⟩⟩⟩⟩⟩⟩
  refine pk_eq o 9 (fun e => ⟨i8, nm_r (e' := upd AW d 0) (by rw [cd, sc_b0]) ?_⟩) (fun e => ⟨i8, nm_r (e' := upd AW d 1) (by rw [cd, sc_b1]) ?_⟩)
  · rw [if_pos e] at h
    exact h
  · rw [if_neg e] at h
    exact h
theorem sc_st46 (post : SX → Prop) {fl fp fc ff fz : Int32} {R M LT O D A B AW CL UC UL UR US : Nat → Int32} {p o d : Nat} {l r : Int32} (hp : p < 32) (ho1 : 1 ≤ o) (ho12 : o ≤ 12) (hO : O p = nI o) (hd : o < 10 → d < 8) (hD : D p = nI d)
    (hN : o < 10 → post (fl, nI (p + 1), sc_nc (sc_fk o l r) fc, sc_nf (sc_fk o l r) (nI p) ff, sc_nl (sc_fk o l r) (nI p) fz, R, M, LT, O, D, A, B, upd AW d (if o = 9 then 0 else 1), upd CL (sc_u o) (LT (sc_u o)), upd UC (sc_u o) (nI p), upd UL (sc_u o) l, upd UR (sc_u o) r, upd US (sc_u o) (R d)))
    (hT : 10 ≤ o → sc_tk o l r → post (fl, nI d, fc, ff, fz, R, M, LT, O, D, A, B, AW, CL, UC, UL, UR, US)) (hF : 10 ≤ o → ¬ sc_tk o l r → post (fl, nI (p + 1), fc, ff, fz, R, M, LT, O, D, A, B, AW, CL, UC, UL, UR, US)) : wX_start_46 post (nI p) (nI o) l r fl fp fc ff fz R M LT O D A B AW CL UC UL UR US := by
  have cp : (nI p).toNatClampNeg = p := nI_clamp (by omega)
  have ip : vp_in (nI p) 32 := vp_in_nI hp (by decide)
  refine sc_ibr _ o ho12 (fun ho => br_t rfl ?_) (fun ho => br_f sc_10 ?_)
  · refine sc_fault _ o l r ho1 (by omega) ?_
    refine sc_note _ (sc_fk o l r) (nI p) ?_
    refine sc_occ _ hp ho1 (by omega) hO (hd ho) hD ?_
    exact nm_r (nI_1 p) (hN ho)
  · refine sc_taken _ o l r ho ho12 (fun t => br_f sc_10 ⟨ip, nm_r (e' := nI d) (by rw [cp]; exact hD) (hT ho t)⟩) (fun t => br_t rfl (nm_r (nI_1 p) (hF ho t)))
theorem sc_start (post : SX → Prop) {fl fp fc ff fz : Int32} {R M LT O D A B AW CL UC UL UR US : Nat → Int32} {p o a d : Nat} (hp : p < 32) (hc : sc_Cell O D A B p o a d)
    (hN : o < 10 → post (fl, nI (p + 1), sc_nc (sc_fk o (R a) (sc_rt o (B p) R)) fc, sc_nf (sc_fk o (R a) (sc_rt o (B p) R)) (nI p) ff, sc_nl (sc_fk o (R a) (sc_rt o (B p) R)) (nI p) fz, R, M, LT, O, D, A, B, upd AW d (if o = 9 then 0 else 1), upd CL (sc_u o) (LT (sc_u o)), upd UC (sc_u o) (nI p), upd UL (sc_u o) (R a), upd UR (sc_u o) (sc_rt o (B p) R), upd US (sc_u o) (R d)))
    (hT : 10 ≤ o → sc_tk o (R a) (sc_rt o (B p) R) → post (fl, nI d, fc, ff, fz, R, M, LT, O, D, A, B, AW, CL, UC, UL, UR, US)) (hF : 10 ≤ o → ¬ sc_tk o (R a) (sc_rt o (B p) R) → post (fl, nI (p + 1), fc, ff, fz, R, M, LT, O, D, A, B, AW, CL, UC, UL, UR, US)) : wpX_start post (fl, fp, fc, ff, fz, R, M, LT, O, D, A, B, AW, CL, UC, UL, UR, US) (nI p) := by
  obtain ⟨hO, ho1, ho12, hA, ha, hD, hd, hd8, hB⟩ := hc
  have cp : (nI p).toNatClampNeg = p := nI_clamp (by omega)
  have ca : (A (nI p).toNatClampNeg).toNatClampNeg = a := by rw [cp, hA, nI_clamp (by omega)]
  have ip : vp_in (nI p) 32 := vp_in_nI hp (by decide)
  have ia : vp_in (A (nI p).toNatClampNeg) 8 := by rw [cp, hA]; exact vp_in_nI ha (by decide)
  unfold wpX_start
  try dsimp only
  refine ⟨ip, nm_r (e' := nI o) (by rw [cp]; exact hO) ⟨ip, ia, nm_r (e' := R a) (by rw [ca]) ?_⟩⟩
  refine sc_nrb _ o ho12 (fun z => br_t rfl ⟨ip, ?_⟩) (fun z => br_f sc_10 ⟨ip, ?_, ?_⟩)
  · have e : sc_rt o (B p) R = B p := if_pos z
    rw [e] at hN hT hF
    rw [cp]
    exact sc_st46 post hp ho1 ho12 hO hd8 hD hN hT hF
  · rw [cp]
    obtain ⟨b, hb, e⟩ := hB (by omega) (by omega) (by omega)
    rw [e]
    exact vp_in_nI hb (by decide)
  · have e : sc_rt o (B p) R = R (B p).toNatClampNeg := if_neg z
    rw [e] at hN hT hF
    rw [cp]
    exact sc_st46 post hp ho1 ho12 hO hd8 hD hN hT hF
theorem sc_xs1 (post : Int32 → Prop) {n p : Nat} {fc ff fz : Int32} {R M LT O D A B AW CL UC UL UR US : Nat → Int32} (hn : n ≤ 32) (hp : p ≤ 32) (h : n ≤ p ∨ O p = 0) (h1 : post 1) : wpX_stopped post (nI n, nI p, fc, ff, fz, R, M, LT, O, D, A, B, AW, CL, UC, UL, UR, US) := by
  refine pk_le n p (fun _ => h1) (fun e => ⟨vp_in_nI (by omega) (by decide), ?_⟩)
  rw [nI_clamp (by omega)]
  rcases h with z | z
  · omega
  · exact br_t z h1
theorem sc_xs0 (post : Int32 → Prop) {n p : Nat} {fc ff fz : Int32} {R M LT O D A B AW CL UC UL UR US : Nat → Int32} (hn : n ≤ 32) (hp : p < n) (h : ¬ O p = 0) (h0 : post 0) : wpX_stopped post (nI n, nI p, fc, ff, fz, R, M, LT, O, D, A, B, AW, CL, UC, UL, UR, US) := by
  refine pk_le n p (fun e => by omega) (fun e => ⟨vp_in_nI (by omega) (by decide), ?_⟩)
  rw [nI_clamp (by omega)]
  exact br_f h h0
theorem sc_ys1 (post : Int32 → Prop) {n p : Nat} {fc ff fz : Int32} {R M O D A B LT : Nat → Int32} (hn : n ≤ 32) (hp : p ≤ 32) (h : n ≤ p ∨ O p = 0) (h1 : post 1) : wpY_stopped post (nI n, nI p, fc, ff, fz, R, M, O, D, A, B, LT) := by
  refine br_f (nI_pos (by omega)) (pk_le 32 p (fun _ => h1) (fun e => pk_lt p n (fun e2 => ⟨vp_in_nI (by omega) (by decide), ?_⟩) (fun _ => h1)))
  rw [nI_clamp (by omega)]
  rcases h with z | z
  · omega
  · exact br_t z h1
theorem sc_ys0 (post : Int32 → Prop) {n p : Nat} {fc ff fz : Int32} {R M O D A B LT : Nat → Int32} (hn : n ≤ 32) (hp : p < n) (h : ¬ O p = 0) (h0 : post 0) : wpY_stopped post (nI n, nI p, fc, ff, fz, R, M, O, D, A, B, LT) := by
  refine br_f (nI_pos (by omega)) (pk_le 32 p (fun e => by omega) (fun e => pk_lt p n (fun e2 => ⟨vp_in_nI (by omega) (by decide), ?_⟩) (fun e => by omega)))
  rw [nI_clamp (by omega)]
  exact br_f h h0
