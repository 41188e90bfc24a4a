/-! the invariant's own lemmas: no printed predicate here -/
theorem sc_mono {n : Nat} {bd bd' : Nat → Nat} {O D : Nat → Int32} {w : Nat → Nat} {AW CL UC UL UR US R M R' M' : Nat → Int32} (I : sc_Inv n bd O D w AW CL UC UL UR US R M R' M') (h : ∀ u, u < 4 → bd u ≤ bd' u) : sc_Inv n bd' O D w AW CL UC UL UR US R M R' M' := by
  obtain ⟨J, G, H⟩ := I
  refine ⟨fun u hu => ?_, G, H⟩
  rcases J u hu with z | ⟨c, j, o, d, h1, h2, h3⟩
  · exact Or.inl z
  · exact Or.inr ⟨c, j, o, d, h1, Nat.le_trans h2 (h u hu), h3⟩
theorem sc_init {n : Nat} {bd : Nat → Nat} {O D : Nat → Int32} {w : Nat → Nat} {AW CL UC UL UR US R M : Nat → Int32} (hA : ∀ x, AW x = 0) (hC : ∀ u, u < 4 → CL u = 0) : sc_Inv n bd O D w AW CL UC UL UR US R M R M :=
  ⟨fun u hu => Or.inl (hC u hu), fun x => Or.inl ⟨hA x, rfl⟩, Or.inr ⟨Or.inl (hC 3 (by decide)), rfl⟩⟩
theorem sc_free {n : Nat} {bd : Nat → Nat} {O D : Nat → Int32} {w : Nat → Nat} {AW CL UC UL UR US R M R' M' : Nat → Int32} (I : sc_Inv n bd O D w AW CL UC UL UR US R M R' M') (hb : ∀ u, u < 4 → bd u = 0) : (∀ u, u < 4 → CL u = 0) ∧ (∀ x, AW x = 0) ∧ R = R' ∧ M = M' := by
  obtain ⟨J, G, H⟩ := I
  have hC : ∀ u, u < 4 → CL u = 0 := by
    intro u hu
    rcases J u hu with z | ⟨c, j, o, d, h1, h2, _⟩
    · exact z
    · have := hb u hu
      omega
  have hG : ∀ x, AW x = 0 ∧ R x = R' x := by
    intro x
    rcases G x with a | ⟨_, a, b, _⟩
    · exact a
    · exact absurd (hC _ a) b
  refine ⟨hC, fun x => (hG x).1, funext fun x => (hG x).2, ?_⟩
  rcases H with ⟨a, _⟩ | ⟨_, a⟩
  · exact absurd (hC 3 (by decide)) a
  · exact a.symm
theorem sc_pos {n : Nat} {O D : Nat → Int32} {w : Nat → Nat} {AW R' M' : Nat → Int32} {m u : Nat} {cl uc ul ur : Int32} (h : sc_Job n O D w AW R' M' m u cl uc ul ur) : ¬ cl = 0 ∧ ¬ cl ≤ 0 := by
  obtain ⟨c, j, o, d, h1, _, h8, e, _⟩ := h
  subst e
  exact ⟨nI_ne0 (by omega) (by omega), nI_nle (by omega) (by omega)⟩
/-- a cycle that doesn't end the unit's work -/
theorem sc_tick {n : Nat} {bd : Nat → Nat} {O D : Nat → Int32} {w : Nat → Nat} {AW CL UC UL UR US R M R' M' : Nat → Int32} {u : Nat} (I : sc_Inv n bd O D w AW CL UC UL UR US R M R' M') (hu : u < 4) (h : ¬ CL u ≤ 0) (h1 : ¬ CL u - 1 = 0) : sc_Inv n (fun v => if v = u then bd u - 1 else bd v) O D w AW (upd CL u (CL u - 1)) UC UL UR US R M R' M' := by
  obtain ⟨J, G, H⟩ := I
  have h0 : ¬ CL u = 0 := fun e => h (by rw [e]; decide)
  have hz : ∀ v, upd CL u (CL u - 1) v = 0 ↔ CL v = 0 := by
    intro v
    by_cases e : v = u
    · rw [e, pk_us]
      exact ⟨fun z => absurd z h1, fun z => absurd z h0⟩
    · rw [pk_un e]
  refine ⟨fun v hv => ?_, fun x => ?_, ?_⟩
  · show upd CL u (CL u - 1) v = 0 ∨ sc_Job n O D w AW R' M' (if v = u then bd u - 1 else bd v) v (upd CL u (CL u - 1) v) (UC v) (UL v) (UR v)
    by_cases e : v = u
    · rw [if_pos e, e, pk_us]
      rcases J u hu with z | ⟨c, j, o, d, hc1, hcm, hc8, hcl, hr⟩
      · exact absurd z h0
      · obtain ⟨q, rfl⟩ : ∃ q, c = q + 1 := ⟨c - 1, by omega⟩
        rw [hcl, nI_pred] at h1
        have hq : q ≠ 0 := by
          intro z
          subst z
          exact h1 rfl
        refine Or.inr ⟨q, j, o, d, by omega, by omega, by omega, ?_, hr⟩
        rw [hcl, nI_pred]
    · rw [if_neg e, pk_un e]
      exact J v hv
  · rcases G x with a | ⟨a1, a2, a3, a4⟩
    · exact Or.inl a
    · exact Or.inr ⟨a1, a2, fun z => a3 ((hz _).mp z), a4⟩
  · rcases H with ⟨a, b⟩ | ⟨a, b⟩
    · exact Or.inl ⟨fun z => a ((hz _).mp z), b⟩
    · exact Or.inr ⟨a.imp (hz 3).mpr id, b⟩
/-- the cycle that ends the unit's work -/
theorem sc_fin {n : Nat} {bd : Nat → Nat} {O D : Nat → Int32} {w : Nat → Nat} {AW CL UC UL UR US R M R' M' : Nat → Int32} {u : Nat} (hn : n ≤ 32) (I : sc_Inv n bd O D w AW CL UC UL UR US R M R' M') (hu : u < 4) (h : ¬ CL u ≤ 0) (h1 : CL u - 1 = 0) :
    ∃ j o d : Nat, j < n ∧ UC u = nI j ∧ 1 ≤ o ∧ o ≤ 9 ∧ O j = nI o ∧ d < 8 ∧ D j = nI d ∧
      (o ≠ 9 → sc_Inv n (fun v => if v = u then bd u - 1 else bd v) O D w (upd AW d 0) (upd CL u (CL u - 1)) UC UL UR US (upd R d (sc_res o (UL u) (UR u) M)) M R' M') ∧
      (o = 9 → sc_Inv n (fun v => if v = u then bd u - 1 else bd v) O D w AW (upd CL u (CL u - 1)) UC UL UR US R (sc_st (UL u + UR u) (US u) M) R' M') := by
  obtain ⟨J, G, H⟩ := I
  have h0 : ¬ CL u = 0 := fun e => h (by rw [e]; decide)
  rcases J u hu with z | ⟨c, j, o, d, hc1, hcm, hc8, hcl, hj, huc, ho1, ho9, hO, hou, hd, hD, hk⟩
  · exact absurd z h0
  have hOu : O (UC u).toNatClampNeg = nI o := by rw [huc, nI_clamp (by omega), hO]
  have hDu : (D (UC u).toNatClampNeg).toNatClampNeg = d := by rw [huc, nI_clamp (by omega), hD, nI_clamp (by omega)]
  have h9 : o ≠ 9 → ¬ nI o = 9 := by
    intro e z
    rw [← sc_n9, nI_eq (by omega) (by omega)] at z
    exact e z
  have hself : upd CL u (CL u - 1) u = 0 := by rw [pk_us]; exact h1
  refine ⟨j, o, d, hj, huc, ho1, ho9, hO, hd, hD, fun ne => ?_, fun e9 => ?_⟩
  · obtain ⟨hw, hA, hR⟩ := hk ne
    have hres : sc_res o (UL u) (UR u) M = R' d := by
      rw [hR]
      rcases H with ⟨_, b, _⟩ | ⟨_, b⟩
      · have hu3 : u ≠ 3 := by
          intro e
          rw [← e, hOu] at b
          exact h9 ne b
        exact sc_resM (sc_u8 (by rw [hou]; exact hu3))
      · rw [b]
    refine ⟨fun v hv => ?_, fun x => ?_, ?_⟩
    · show upd CL u (CL u - 1) v = 0 ∨ sc_Job n O D w (upd AW d 0) R' M' (if v = u then bd u - 1 else bd v) v (upd CL u (CL u - 1) v) (UC v) (UL v) (UR v)
      by_cases e : v = u
      · rw [e]
        exact Or.inl hself
      · rw [if_neg e, pk_un e]
        rcases J v hv with z | ⟨c', j', o', d', g1, g2, g3, g4, g5, g6, g7, g8, g9, g10, g11, g12, g13⟩
        · exact Or.inl z
        · refine Or.inr ⟨c', j', o', d', g1, g2, g3, g4, g5, g6, g7, g8, g9, g10, g11, g12, fun ne' => ?_⟩
          obtain ⟨k1, k2, k3⟩ := g13 ne'
          refine ⟨k1, ?_, k3⟩
          have hdd : d' ≠ d := by
            intro z
            rw [z, hw] at k1
            exact e k1.symm
          rw [pk_un hdd]
          exact k2
    · by_cases e : x = d
      · subst e
        exact Or.inl ⟨pk_us, by rw [pk_us]; exact hres⟩
      · unfold sc_Reg
        rw [pk_un e, pk_un e]
        rcases G x with a | ⟨a1, a2, a3, a4, a5⟩
        · exact Or.inl a
        · have hwu : w x ≠ u := by
            intro z
            rw [z, hDu] at a5
            exact e a5.symm
          exact Or.inr ⟨a1, a2, by rw [pk_un hwu]; exact a3, a4, a5⟩
    · unfold sc_Mem
      by_cases e : (3 : Nat) = u
      · rcases H with ⟨_, b, _⟩ | ⟨_, b⟩
        · rw [e, hOu] at b
          exact absurd b (h9 ne)
        · exact Or.inr ⟨Or.inl (by rw [e]; exact hself), b⟩
      · rw [pk_un e]
        exact H
  · subst e9
    have hu3 : u = 3 := hou.symm
    subst hu3
    have hM : M' = sc_st (UL 3 + UR 3) (US 3) M := by
      rcases H with ⟨_, _, b⟩ | ⟨a, _⟩
      · exact b
      · rcases a with a | a
        · exact absurd a h0
        · exact absurd (hOu.trans sc_n9) a
    refine ⟨fun v hv => ?_, fun x => ?_, ?_⟩
    · show upd CL 3 (CL 3 - 1) v = 0 ∨ sc_Job n O D w AW R' M' (if v = 3 then bd 3 - 1 else bd v) v (upd CL 3 (CL 3 - 1) v) (UC v) (UL v) (UR v)
      by_cases e : v = 3
      · rw [e]
        exact Or.inl hself
      · rw [if_neg e, pk_un e]
        exact J v hv
    · rcases G x with a | ⟨a1, a2, a3, a4, a5⟩
      · exact Or.inl a
      · have hwu : w x ≠ 3 := by
          intro z
          rw [z] at a4
          exact a4 (hOu.trans sc_n9)
        exact Or.inr ⟨a1, a2, by rw [pk_un hwu]; exact a3, a4, a5⟩
    · exact Or.inr ⟨Or.inl hself, hM⟩
/-- an instruction that writes a register starts -/
theorem sc_goA {n : Nat} {bd : Nat → Nat} {O D : Nat → Int32} {w : Nat → Nat} {AW CL UC UL UR US R M R' M' : Nat → Int32} {p o d c u : Nat} {l r s : Int32} (hn : n ≤ 32) (I : sc_Inv n bd O D w AW CL UC UL UR US R M R' M') (hp : p < n) (ho1 : 1 ≤ o) (ho9 : o ≤ 9) (ne : o ≠ 9) (hO : O p = nI o) (hd : d < 8) (hD : D p = nI d) (hA : AW d = 0) (hou : sc_u o = u) (hC : CL u = 0) (hc1 : 1 ≤ c) (hc8 : c ≤ 8) :
    sc_Inv n (fun _ => 8) O D (fun x => if x = d then u else w x) (upd AW d 1) (upd CL u (nI c)) (upd UC u (nI p)) (upd UL u l) (upd UR u r) (upd US u s) R M (upd R' d (sc_res o l r M')) M' := by
  obtain ⟨J, G, H⟩ := I
  have hu : u < 4 := hou ▸ sc_u4 o
  have hc0 : ¬ nI c = 0 := nI_ne0 (by omega) (by omega)
  have h9 : ¬ nI o = 9 := by
    intro z
    rw [← sc_n9, nI_eq (by omega) (by omega)] at z
    exact ne z
  have hOu : O (upd UC u (nI p) u).toNatClampNeg = nI o := by rw [pk_us, nI_clamp (by omega), hO]
  have hDu : (D (upd UC u (nI p) u).toNatClampNeg).toNatClampNeg = d := by rw [pk_us, nI_clamp (by omega), hD, nI_clamp (by omega)]
  refine ⟨fun v hv => ?_, fun x => ?_, ?_⟩
  · by_cases e : v = u
    · rw [e, pk_us, pk_us, pk_us, pk_us]
      exact Or.inr ⟨c, p, o, d, hc1, hc8, hc8, rfl, hp, rfl, ho1, ho9, hO, hou, hd, hD, fun _ => ⟨if_pos rfl, pk_us, pk_us⟩⟩
    · rw [pk_un e, pk_un e, pk_un e, pk_un e]
      rcases J v hv with z | ⟨c', j', o', d', g1, g2, g3, g4, g5, g6, g7, g8, g9, g10, g11, g12, g13⟩
      · exact Or.inl z
      · refine Or.inr ⟨c', j', o', d', g1, g3, g3, g4, g5, g6, g7, g8, g9, g10, g11, g12, fun ne' => ?_⟩
        obtain ⟨k1, k2, k3⟩ := g13 ne'
        have hdd : d' ≠ d := by
          intro z
          rw [z, hA] at k2
          exact sc_01 k2
        exact ⟨(if_neg hdd).trans k1, (pk_un hdd).trans k2, (pk_un hdd).trans k3⟩
  · by_cases e : x = d
    · refine Or.inr ?_
      rw [e]
      show upd AW d 1 d = 1 ∧ (if d = d then u else w d) < 4 ∧ upd CL u (nI c) (if d = d then u else w d) ≠ 0 ∧ O (upd UC u (nI p) (if d = d then u else w d)).toNatClampNeg ≠ 9 ∧ (D (upd UC u (nI p) (if d = d then u else w d)).toNatClampNeg).toNatClampNeg = d
      rw [if_pos rfl]
      exact ⟨pk_us, hu, by rw [pk_us]; exact hc0, by rw [hOu]; exact h9, hDu⟩
    · show (upd AW d 1 x = 0 ∧ R x = upd R' d (sc_res o l r M') x) ∨ (upd AW d 1 x = 1 ∧ (if x = d then u else w x) < 4 ∧ upd CL u (nI c) (if x = d then u else w x) ≠ 0 ∧ O (upd UC u (nI p) (if x = d then u else w x)).toNatClampNeg ≠ 9 ∧ (D (upd UC u (nI p) (if x = d then u else w x)).toNatClampNeg).toNatClampNeg = x)
      rw [if_neg e, pk_un e, pk_un e]
      rcases G x with a | ⟨a1, a2, a3, a4, a5⟩
      · exact Or.inl a
      · have hwu : w x ≠ u := by
          intro z
          rw [z] at a3
          exact a3 hC
        rw [pk_un hwu, pk_un hwu]
        exact Or.inr ⟨a1, a2, a3, a4, a5⟩
  · unfold sc_Mem
    by_cases e : (3 : Nat) = u
    · have hM : M' = M := by
        rcases H with ⟨b, _⟩ | ⟨_, b⟩
        · rw [e] at b
          exact absurd hC b
        · exact b
      refine Or.inr ⟨Or.inr ?_, hM⟩
      rw [e, hOu]
      exact h9
    · rw [pk_un e, pk_un e, pk_un e, pk_un e, pk_un e]
      exact H
/-- a STORE starts -/
theorem sc_goS {n : Nat} {bd : Nat → Nat} {O D : Nat → Int32} {w : Nat → Nat} {AW CL UC UL UR US R M R' M' : Nat → Int32} {p d c : Nat} {l r : Int32} (hn : n ≤ 32) (I : sc_Inv n bd O D w AW CL UC UL UR US R M R' M') (hp : p < n) (hO : O p = nI 9) (hd : d < 8) (hD : D p = nI d) (hA : AW d = 0) (hC : CL 3 = 0) (hc1 : 1 ≤ c) (hc8 : c ≤ 8) :
    sc_Inv n (fun _ => 8) O D w (upd AW d 0) (upd CL 3 (nI c)) (upd UC 3 (nI p)) (upd UL 3 l) (upd UR 3 r) (upd US 3 (R d)) R M R' (sc_st (l + r) (R' d) M') := by
  obtain ⟨J, G, H⟩ := I
  have hAW : upd AW d 0 = AW := by
    funext x
    by_cases e : x = d
    · rw [e, pk_us, hA]
    · rw [pk_un e]
  have hc0 : ¬ nI c = 0 := nI_ne0 (by omega) (by omega)
  have hRd : R d = R' d := by
    rcases G d with ⟨_, a⟩ | ⟨a, _⟩
    · exact a
    · rw [hA] at a
      exact absurd a sc_01
  have hM : M' = M := by
    rcases H with ⟨b, _⟩ | ⟨_, b⟩
    · exact absurd hC b
    · exact b
  rw [hAW]
  refine ⟨fun v hv => ?_, fun x => ?_, ?_⟩
  · by_cases e : v = 3
    · rw [e, pk_us, pk_us, pk_us, pk_us]
      exact Or.inr ⟨c, p, 9, d, hc1, hc8, hc8, rfl, hp, rfl, by decide, by decide, hO, rfl, hd, hD, fun z => absurd rfl z⟩
    · rw [pk_un e, pk_un e, pk_un e, pk_un e]
      rcases J v hv with z | ⟨c', j', o', d', g1, g2, g3, g4, g5, g6, g7, g8, g9, g10, g11, g12, g13⟩
      · exact Or.inl z
      · refine Or.inr ⟨c', j', o', d', g1, g3, g3, g4, g5, g6, g7, g8, g9, g10, g11, g12, fun ne' => ?_⟩
        obtain ⟨k1, k2, k3⟩ := g13 ne'
        exact ⟨k1, k2, k3.trans (sc_resM (sc_u8 (by rw [g10]; exact e)))⟩
  · rcases G x with a | ⟨a1, a2, a3, a4, a5⟩
    · exact Or.inl a
    · have hwu : w x ≠ 3 := by
        intro z
        rw [z] at a3
        exact a3 hC
      exact Or.inr ⟨a1, a2, by rw [pk_un hwu]; exact a3, by rw [pk_un hwu]; exact a4, by rw [pk_un hwu]; exact a5⟩
  · refine Or.inl ⟨by rw [pk_us]; exact hc0, by rw [pk_us, nI_clamp (by omega), hO]; exact sc_n9, ?_⟩
    rw [pk_us, pk_us, pk_us, hRd, hM]
