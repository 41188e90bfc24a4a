/-! run: both loops side by side -/
theorem sc_loop {k cnt : Nat} (h64 : cnt ≤ 64) {v0 : SY} {n : Nat} {LT O D A B : Nat → Int32} (hn : n ≤ 32) (hL : sc_Lat LT) (hW : sc_Wf n O D A B) :
    ∀ e i : Nat, i + e = cnt → ∀ (w : Nat → Nat) (p : Nat) (fc ff fz : Int32) (R M AW CL UC UL UR US R' M' : Nat → Int32), p ≤ 32 → sc_Inv n (fun _ => 8) O D w AW CL UC UL UR US R M R' M' →
      (∀ postY : Int32 → SY → Prop, (∃ m, wY_run_15 postY (nI cnt) m (nI i) (nI n) (nI p) fc ff fz R' M' O D A B LT) → wpY_run postY v0 (nI cnt)) →
      wX_run_15 (fun r u' => wpY_run (fun r' v' => r' = r ∧ i_Rel (k + 5) u' v') v0 (nI cnt)) (nI cnt) (e + 1) (nI i) (nI n) (nI p) fc ff fz R M LT O D A B AW CL UC UL UR US := by
  intro e
  induction e with
  | zero =>
    intro i hi w p fc ff fz R M AW CL UC UL UR US R' M' hp I hY
    obtain rfl : i = cnt := by omega
    have hle : nI i ≤ nI i := nI_le (Nat.le_refl i) (by omega)
    refine br_t hle (sc_drain _ hn I (fun R M AW CL I0 => ?_))
    obtain ⟨fC, fA, rfl, rfl⟩ := sc_free I0 (fun _ _ => rfl)
    exact hY _ ⟨1, br_t hle ⟨rfl, sc_mk hn hp hL hW fA fC⟩⟩
  | succ e ih =>
    intro i hi w p fc ff fz R M AW CL UC UL UR US R' M' hp I hY
    have hlt : ¬ nI cnt ≤ nI i := nI_ge (by omega) (by omega)
    have h6 : ¬ (64 : Int32) ≤ nI i := nI_ge (b := 64) (by omega) (by decide)
    refine br_f hlt ?_
    by_cases hs : n ≤ p ∨ O p = 0
    · refine sc_xs1 _ hn hp hs (br_f sc_10 (sc_drain _ hn I (fun R M AW CL I0 => ?_)))
      obtain ⟨fC, fA, rfl, rfl⟩ := sc_free I0 (fun _ _ => rfl)
      exact hY _ ⟨1, br_f hlt (br_f h6 (sc_ys1 _ hn hp hs (br_f sc_10 ⟨rfl, sc_mk hn hp hL hW fA fC⟩)))⟩
    · have hpn : p < n := by
        have : ¬ n ≤ p := fun z => hs (Or.inl z)
        omega
      have hO0 : ¬ O p = 0 := fun z => hs (Or.inr z)
      obtain ⟨o, a, d, hc⟩ : ∃ o a d : Nat, sc_Cell O D A B p o a d := by
        rcases hW p hpn with z | z
        · exact absurd z hO0
        · exact z
      refine sc_xs0 _ hn hpn hO0 (br_t rfl (sc_wait _ hn (by omega) hc I (fun R M AW CL I rdy => ?_)))
      obtain ⟨r1, r2, r3⟩ := rdy
      have hc' := hc
      obtain ⟨hO, ho1, ho12, hA, ha, hD, hd, hd8, hB⟩ := hc'
      have rr : ∀ x, AW x = 0 → R x = R' x := by
        intro x hx
        rcases I.2.1 x with z | z
        · exact z.2
        · rw [hx] at z
          exact absurd z.1 sc_01
      have ea : R a = R' a := rr a r1
      have eb : sc_rt o (B p) R = sc_rt o (B p) R' := by
        unfold sc_rt
        by_cases z : o = 3 ∨ o = 8 ∨ o = 9
        · rw [if_pos z, if_pos z]
        · rw [if_neg z, if_neg z]
          exact rr _ (r2 z)
      refine sc_start _ (by omega) hc (fun ho => ?_) (fun ho ht => ?_) (fun ho ht => ?_)
      · obtain ⟨q1, q2⟩ := r3 ho
        obtain ⟨c, hc1, hc8, hcl⟩ := hL (sc_u o) (sc_u4 o)
        rw [ea, eb, hcl]
        have hyy : ∀ postY : Int32 → SY → Prop, (∃ m, wY_run_15 postY (nI cnt) m (nI (i + 1)) (nI n) (nI (p + 1)) (sc_nc (sc_fk o (R' a) (sc_rt o (B p) R')) fc) (sc_nf (sc_fk o (R' a) (sc_rt o (B p) R')) (nI p) ff) (sc_nl (sc_fk o (R' a) (sc_rt o (B p) R')) (nI p) fz) (sc_nr o d (R' a) (sc_rt o (B p) R') R' M') (sc_nm o d (R' a) (sc_rt o (B p) R') R' M') O D A B LT) → wpY_run postY v0 (nI cnt) := by
          intro postY hm
          obtain ⟨m, hm⟩ := hm
          exact hY postY ⟨m + 1, br_f hlt (br_f h6 (sc_ys0 _ hn hpn hO0 (br_t rfl (sc_ystepN _ (by omega) hc ho (nm_r (nI_1 i) hm)))))⟩
        by_cases e9 : o = 9
        · subst e9
          have I2 := sc_goS (l := R' a) (r := sc_rt 9 (B p) R') hn I hpn hO (hd8 ho) hD q1 q2 hc1 hc8
          exact sc_pass _ hn I2 (fun R M AW CL I3 => nm_r (nI_1 i) (ih (i + 1) (by omega) w (p + 1) _ _ _ R M AW CL _ _ _ _ _ _ (by omega) (sc_mono I3 (fun _ _ => by decide)) hyy))
        · have e1 : (if o = 9 then (0 : Int32) else 1) = 1 := if_neg e9
          rw [e1]
          have I2 := sc_goA (l := R' a) (r := sc_rt o (B p) R') (s := R d) hn I hpn ho1 (by omega) e9 hO (hd8 ho) hD q1 rfl q2 hc1 hc8
          have e2 : sc_nr o d (R' a) (sc_rt o (B p) R') R' M' = upd R' d (sc_res o (R' a) (sc_rt o (B p) R') M') := if_neg e9
          have e3 : sc_nm o d (R' a) (sc_rt o (B p) R') R' M' = M' := if_neg e9
          rw [e2, e3] at hyy
          exact sc_pass _ hn I2 (fun R M AW CL I3 => nm_r (nI_1 i) (ih (i + 1) (by omega) _ (p + 1) _ _ _ R M AW CL _ _ _ _ _ _ (by omega) (sc_mono I3 (fun _ _ => by decide)) hyy))
      · rw [ea, eb] at ht
        refine sc_pass _ hn I (fun R M AW CL I3 => nm_r (nI_1 i) (ih (i + 1) (by omega) w d fc ff fz R M AW CL UC UL UR US R' M' (by omega) (sc_mono I3 (fun _ _ => by decide)) ?_))
        intro postY hm
        obtain ⟨m, hm⟩ := hm
        exact hY postY ⟨m + 1, br_f hlt (br_f h6 (sc_ys0 _ hn hpn hO0 (br_t rfl (sc_ystepT _ (by omega) hc ho ht (nm_r (nI_1 i) hm)))))⟩
      · rw [ea, eb] at ht
        refine sc_pass _ hn I (fun R M AW CL I3 => nm_r (nI_1 i) (ih (i + 1) (by omega) w (p + 1) fc ff fz R M AW CL UC UL UR US R' M' (by omega) (sc_mono I3 (fun _ _ => by decide)) ?_))
        intro postY hm
        obtain ⟨m, hm⟩ := hm
        exact hY postY ⟨m + 1, br_f hlt (br_f h6 (sc_ys0 _ hn hpn hO0 (br_t rfl (sc_ystepF _ (by omega) hc ho ht (nm_r (nI_1 i) hm)))))⟩
