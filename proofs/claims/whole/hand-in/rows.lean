section
/-! pure rows: numbers, the machine's pure functions, the scoreboard's invariant (pk_ rows are the kit's, pasted) -/
theorem pk_us {f : Nat → Int32} {k : Nat} {x : Int32} : upd f k x k = x := if_pos rfl
theorem pk_un {f : Nat → Int32} {k j : Nat} {x : Int32} (h : j ≠ k) : upd f k x j = f j := if_neg h
theorem pk_ix (x : Int32) {n : Nat} (hn : n < 2 ^ 31) : x < 0 ∨ nI n ≤ x ∨ ∃ j : Nat, j < n ∧ x = nI j := by
  by_cases h : x < 0
  · exact Or.inl h
  · obtain ⟨j, hj, rfl⟩ := nI_of h
    by_cases h2 : j < n
    · exact Or.inr (Or.inr ⟨j, h2, rfl⟩)
    · exact Or.inr (Or.inl (nI_le (by omega) hj))
theorem pk_le {x y : Int32} {A B : Prop} (a b : Nat) (f : a ≤ b → A) (g : b < a → B) (hx : x = nI a := by rfl) (hy : y = nI b := by rfl) (ha : a < 2 ^ 31 := by omega) (hb : b < 2 ^ 31 := by omega) : (x ≤ y → A) ∧ (¬ x ≤ y → B) := by
  subst hx hy
  rw [nI_leI ha hb]
  exact ⟨f, fun z => g (by omega)⟩
theorem pk_lt {x y : Int32} {A B : Prop} (a b : Nat) (f : a < b → A) (g : b ≤ a → B) (hx : x = nI a := by rfl) (hy : y = nI b := by rfl) (ha : a < 2 ^ 31 := by omega) (hb : b < 2 ^ 31 := by omega) : (x < y → A) ∧ (¬ x < y → B) := by
  subst hx hy
  rw [nI_ltI ha hb]
  exact ⟨f, fun z => g (by omega)⟩
theorem pk_eq {x y : Int32} {A B : Prop} (a b : Nat) (f : a = b → A) (g : a ≠ b → B) (hx : x = nI a := by rfl) (hy : y = nI b := by rfl) (ha : a < 2 ^ 31 := by omega) (hb : b < 2 ^ 31 := by omega) : (x = y → A) ∧ (¬ x = y → B) := by
  subst hx hy
  rw [nI_eq ha hb]
  exact ⟨f, g⟩
theorem pk_in {x : Int32} (n N : Nat) (h : n < N) (hx : x = nI n := by rfl) (hN : N < 2 ^ 31 := by omega) : vp_in x N := by
  subst hx
  exact vp_in_nI h hN
theorem pk_cl {x : Int32} (n : Nat) (hx : x = nI n := by rfl) (h : n < 2 ^ 31 := by omega) : x.toNatClampNeg = n := by
  subst hx
  exact nI_clamp h
theorem sc_nine {o : Nat} (h1 : 1 ≤ o) (h9 : o ≤ 9) : o = 1 ∨ o = 2 ∨ o = 3 ∨ o = 4 ∨ o = 5 ∨ o = 6 ∨ o = 7 ∨ o = 8 ∨ o = 9 := by omega
theorem sc_three {o : Nat} (h1 : 10 ≤ o) (h9 : o ≤ 12) : o = 10 ∨ o = 11 ∨ o = 12 := by omega
theorem sc_four {u : Nat} (h : u < 4) : u = 0 ∨ u = 1 ∨ u = 2 ∨ u = 3 := by omega
theorem sc_at {P : Int32 → Prop} {x y : Int32} (e : x = y) (h : P x) : P y := e ▸ h
theorem sc_g32 {j : Nat} (hj : j < 32) : ¬ (32 : Int32) ≤ nI j := nI_ge (b := 32) hj (by decide)
theorem sc_n9 : nI 9 = 9 := by decide +kernel
theorem sc_10 : ¬ (1 : Int32) = 0 := by decide +kernel
theorem sc_01 : ¬ (0 : Int32) = 1 := by decide +kernel
/-- the unit of an opcode -/
def sc_u (o : Nat) : Nat := if o = 5 then 1 else if o = 6 then 2 else if o = 7 then 2 else if o = 8 then 3 else if o = 9 then 3 else 0
theorem sc_u4 (o : Nat) : sc_u o < 4 := by
  unfold sc_u
  repeat' split
  all_goals decide
theorem sc_u8 {o : Nat} (h : sc_u o ≠ 3) : o ≠ 8 := by
  intro e
  subst e
  exact h rfl
theorem sc_u9 {o : Nat} (h : sc_u o ≠ 3) : o ≠ 9 := by
  intro e
  subst e
  exact h rfl
/-- the value that an instruction writes -/
def sc_res (o : Nat) (l r : Int32) (M : Nat → Int32) : Int32 :=
  if o = 2 then l - r else if o = 4 then (if r ≤ l then 0 else 1) else if o = 5 then l * r else
  if o = 6 then (if r = 0 then 0 else l / r) else if o = 7 then (if r = 0 then l else l - l / r * r) else
  if o = 8 then (if l + r < 0 then 0 else if 32 ≤ l + r then 0 else M (l + r).toNatClampNeg) else l + r
theorem sc_resM {o : Nat} {l r : Int32} {M N : Nat → Int32} (h : o ≠ 8) : sc_res o l r M = sc_res o l r N := by
  unfold sc_res
  rw [if_neg h, if_neg h]
theorem sc_res1 {l r : Int32} {M : Nat → Int32} : sc_res 1 l r M = l + r := rfl
theorem sc_res2 {l r : Int32} {M : Nat → Int32} : sc_res 2 l r M = l - r := rfl
theorem sc_res3 {l r : Int32} {M : Nat → Int32} : sc_res 3 l r M = l + r := rfl
theorem sc_res4 {l r : Int32} {M : Nat → Int32} : sc_res 4 l r M = if r ≤ l then 0 else 1 := rfl
theorem sc_res5 {l r : Int32} {M : Nat → Int32} : sc_res 5 l r M = l * r := rfl
theorem sc_res6 {l r : Int32} {M : Nat → Int32} : sc_res 6 l r M = if r = 0 then 0 else l / r := rfl
theorem sc_res7 {l r : Int32} {M : Nat → Int32} : sc_res 7 l r M = if r = 0 then l else l - l / r * r := rfl
theorem sc_res8 {l r : Int32} {M : Nat → Int32} : sc_res 8 l r M = if l + r < 0 then 0 else if 32 ≤ l + r then 0 else M (l + r).toNatClampNeg := rfl
theorem sc_res8o {l r : Int32} {M : Nat → Int32} (h : l + r < 0 ∨ nI 32 ≤ l + r) : sc_res 8 l r M = 0 := by
  rw [sc_res8]
  by_cases h0 : l + r < 0
  · rw [if_pos h0]
  · rw [if_neg h0]
    rcases h with h | h
    · exact absurd h h0
    · exact if_pos h
theorem sc_res8i {l r : Int32} {M : Nat → Int32} {j : Nat} (hj : j < 32) (h : l + r = nI j) : sc_res 8 l r M = M j := by
  rw [sc_res8, h, if_neg (nI_pos (by omega)), if_neg (sc_g32 hj), nI_clamp (by omega)]
/-- memory after a store -/
def sc_st (x v : Int32) (M : Nat → Int32) : Nat → Int32 := if x < 0 then M else if 32 ≤ x then M else upd M x.toNatClampNeg v
theorem sc_sto {x v : Int32} {M : Nat → Int32} (h : x < 0 ∨ nI 32 ≤ x) : sc_st x v M = M := by
  unfold sc_st
  by_cases h0 : x < 0
  · rw [if_pos h0]
  · rw [if_neg h0]
    rcases h with h | h
    · exact absurd h h0
    · exact if_pos h
theorem sc_sti {v : Int32} {M : Nat → Int32} {j : Nat} (hj : j < 32) : sc_st (nI j) v M = upd M j v := by
  unfold sc_st
  rw [if_neg (nI_pos (by omega)), if_neg (sc_g32 hj), nI_clamp (by omega)]
/-- the kind of fault, -1 for none -/
def sc_fk (o : Nat) (l r : Int32) : Int32 :=
  if o = 6 then (if r = 0 then 1 else -1) else if o = 7 then (if r = 0 then 1 else -1) else
  if o = 8 then (if l + r < 0 then 2 else if 32 ≤ l + r then 2 else -1) else
  if o = 9 then (if l + r < 0 then 3 else if 32 ≤ l + r then 3 else -1) else -1
theorem sc_fk6 {l r : Int32} : sc_fk 6 l r = if r = 0 then 1 else -1 := rfl
theorem sc_fk7 {l r : Int32} : sc_fk 7 l r = if r = 0 then 1 else -1 := rfl
theorem sc_fk8 {l r : Int32} : sc_fk 8 l r = if l + r < 0 then 2 else if 32 ≤ l + r then 2 else -1 := rfl
theorem sc_fk9 {l r : Int32} : sc_fk 9 l r = if l + r < 0 then 3 else if 32 ≤ l + r then 3 else -1 := rfl
theorem sc_fk8o {l r : Int32} (h : l + r < 0 ∨ nI 32 ≤ l + r) : sc_fk 8 l r = 2 := by
  rw [sc_fk8]
  by_cases h0 : l + r < 0
  · rw [if_pos h0]
  · rw [if_neg h0]
    rcases h with h | h
    · exact absurd h h0
    · exact if_pos h
theorem sc_fk9o {l r : Int32} (h : l + r < 0 ∨ nI 32 ≤ l + r) : sc_fk 9 l r = 3 := by
  rw [sc_fk9]
  by_cases h0 : l + r < 0
  · rw [if_pos h0]
  · rw [if_neg h0]
    rcases h with h | h
    · exact absurd h h0
    · exact if_pos h
theorem sc_fk8i {l r : Int32} {j : Nat} (hj : j < 32) (h : l + r = nI j) : sc_fk 8 l r = -1 := by
  rw [sc_fk8, h, if_neg (nI_pos (by omega)), if_neg (sc_g32 hj)]
theorem sc_fk9i {l r : Int32} {j : Nat} (hj : j < 32) (h : l + r = nI j) : sc_fk 9 l r = -1 := by
  rw [sc_fk9, h, if_neg (nI_pos (by omega)), if_neg (sc_g32 hj)]
/-- the fault numbers after a kind k at cell p -/
def sc_nc (k c : Int32) : Int32 := if k = -1 then c else c + 1
def sc_nf (k p f : Int32) : Int32 := if k = -1 then f else if f = -1 then k * 32 + p else f
def sc_nl (k p z : Int32) : Int32 := if k = -1 then z else k * 32 + p
/-- a branch is taken -/
def sc_tk (o : Nat) (l r : Int32) : Prop := if o = 10 then l = r else if o = 11 then ¬ l = r else ¬ r ≤ l
/-- the right operand -/
def sc_rt (o : Nat) (bv : Int32) (R : Nat → Int32) : Int32 := if o = 3 ∨ o = 8 ∨ o = 9 then bv else R bv.toNatClampNeg
/-- registers and memory after an instruction that is no branch -/
def sc_nr (o d : Nat) (l r : Int32) (R M : Nat → Int32) : Nat → Int32 := if o = 9 then R else upd R d (sc_res o l r M)
def sc_nm (o d : Nat) (l r : Int32) (R M : Nat → Int32) : Nat → Int32 := if o = 9 then sc_st (l + r) (R d) M else M
/-- cell p holds an instruction o with fields a, b, d -/
def sc_Cell (O D A B : Nat → Int32) (p o a d : Nat) : Prop :=
  O p = nI o ∧ 1 ≤ o ∧ o ≤ 12 ∧ A p = nI a ∧ a < 8 ∧ D p = nI d ∧ d < 32 ∧ (o < 10 → d < 8) ∧ (o ≠ 3 → o ≠ 8 → o ≠ 9 → ∃ b : Nat, b < 8 ∧ B p = nI b)
/-- the first n cells are well formed -/
def sc_Wf (n : Nat) (O D A B : Nat → Int32) : Prop := ∀ j, j < n → O j = 0 ∨ ∃ o a d : Nat, sc_Cell O D A B j o a d
/-- a unit at work -/
def sc_Job (n : Nat) (O D : Nat → Int32) (w : Nat → Nat) (AW R' M' : Nat → Int32) (m u : Nat) (cl uc ul ur : Int32) : Prop :=
  ∃ c j o d : Nat, 1 ≤ c ∧ c ≤ m ∧ c ≤ 8 ∧ cl = nI c ∧ j < n ∧ uc = nI j ∧ 1 ≤ o ∧ o ≤ 9 ∧ O j = nI o ∧ sc_u o = u ∧ d < 8 ∧ D j = nI d ∧ (o ≠ 9 → w d = u ∧ AW d = 1 ∧ R' d = sc_res o ul ur M')
def sc_Reg (O D : Nat → Int32) (w : Nat → Nat) (AW CL UC R R' : Nat → Int32) (x : Nat) : Prop :=
  (AW x = 0 ∧ R x = R' x) ∨ (AW x = 1 ∧ w x < 4 ∧ CL (w x) ≠ 0 ∧ O (UC (w x)).toNatClampNeg ≠ 9 ∧ (D (UC (w x)).toNatClampNeg).toNatClampNeg = x)
def sc_Mem (O CL UC UL UR US M M' : Nat → Int32) : Prop :=
  (CL 3 ≠ 0 ∧ O (UC 3).toNatClampNeg = 9 ∧ M' = sc_st (UL 3 + UR 3) (US 3) M) ∨ ((CL 3 = 0 ∨ O (UC 3).toNatClampNeg ≠ 9) ∧ M' = M)
/-- the component's state within run (AW .. M) against the reference's registers and memory (R', M'); w: who writes a register; bd: cycles left at most -/
def sc_Inv (n : Nat) (bd : Nat → Nat) (O D : Nat → Int32) (w : Nat → Nat) (AW CL UC UL UR US R M R' M' : Nat → Int32) : Prop :=
  (∀ u, u < 4 → CL u = 0 ∨ sc_Job n O D w AW R' M' (bd u) u (CL u) (UC u) (UL u) (UR u)) ∧
  (∀ x, sc_Reg O D w AW CL UC R R' x) ∧ sc_Mem O CL UC UL UR US M M'
end
section
/-! the invariant's own lemmas: no printed predicate here -/
theorem sc_mono {n : Nat} {bd bd' : Nat → Nat} {O D : Nat → Int32} {w : Nat → Nat} {AW CL UC UL UR US R M R' M' : Nat → Int32} (I : sc_Inv n bd O D w AW CL UC UL UR US R M R' M') (h : ∀ u, u < 4 → bd u ≤ bd' u) : sc_Inv n bd' O D w AW CL UC UL UR US R M R' M' := by
  obtain ⟨J, G, H⟩ := I
  refine ⟨fun u hu => ?_, G, H⟩
  rcases J u hu with z | ⟨c, j, o, d, h1, h2, h3⟩
  · exact Or.inl z
  · exact Or.inr ⟨c, j, o, d, h1, Nat.le_trans h2 (h u hu), h3⟩
theorem sc_init {n : Nat} {bd : Nat → Nat} {O D : Nat → Int32} {w : Nat → Nat} {AW CL UC UL UR US R M : Nat → Int32} (hA : ∀ x, AW x = 0) (hC : ∀ u, u < 4 → CL u = 0) : sc_Inv n bd O D w AW CL UC UL UR US R M R M :=
  ⟨fun u hu => Or.inl (hC u hu), fun x => Or.inl ⟨hA x, rfl⟩, Or.inr ⟨Or.inl (hC 3 (by decide)), rfl⟩⟩
theorem sc_free {n : Nat} {bd : Nat → Nat} {O D : Nat → Int32} {w : Nat → Nat} {AW CL UC UL UR US R M R' M' : Nat → Int32} (I : sc_Inv n bd O D w AW CL UC UL UR US R M R' M') (hb : ∀ u, u < 4 → bd u = 0) : (∀ u, u < 4 → CL u = 0) ∧ (∀ x, AW x = 0) ∧ R = R' ∧ M = M' := by
  obtain ⟨J, G, H⟩ := I
  have hC : ∀ u, u < 4 → CL u = 0 := by
    intro u hu
    rcases J u hu with z | ⟨c, j, o, d, h1, h2, _⟩
    · exact z
    · have := hb u hu
      omega
  have hG : ∀ x, AW x = 0 ∧ R x = R' x := by
    intro x
    rcases G x with a | ⟨_, a, b, _⟩
    · exact a
    · exact absurd (hC _ a) b
  refine ⟨hC, fun x => (hG x).1, funext fun x => (hG x).2, ?_⟩
  rcases H with ⟨a, _⟩ | ⟨_, a⟩
  · exact absurd (hC 3 (by decide)) a
  · exact a.symm
theorem sc_pos {n : Nat} {O D : Nat → Int32} {w : Nat → Nat} {AW R' M' : Nat → Int32} {m u : Nat} {cl uc ul ur : Int32} (h : sc_Job n O D w AW R' M' m u cl uc ul ur) : ¬ cl = 0 ∧ ¬ cl ≤ 0 := by
  obtain ⟨c, j, o, d, h1, _, h8, e, _⟩ := h
  subst e
  exact ⟨nI_ne0 (by omega) (by omega), nI_nle (by omega) (by omega)⟩
/-- a cycle that doesn't end the unit's work -/
theorem sc_tick {n : Nat} {bd : Nat → Nat} {O D : Nat → Int32} {w : Nat → Nat} {AW CL UC UL UR US R M R' M' : Nat → Int32} {u : Nat} (I : sc_Inv n bd O D w AW CL UC UL UR US R M R' M') (hu : u < 4) (h : ¬ CL u ≤ 0) (h1 : ¬ CL u - 1 = 0) : sc_Inv n (fun v => if v = u then bd u - 1 else bd v) O D w AW (upd CL u (CL u - 1)) UC UL UR US R M R' M' := by
  obtain ⟨J, G, H⟩ := I
  have h0 : ¬ CL u = 0 := fun e => h (by rw [e]; decide)
  have hz : ∀ v, upd CL u (CL u - 1) v = 0 ↔ CL v = 0 := by
    intro v
    by_cases e : v = u
    · rw [e, pk_us]
      exact ⟨fun z => absurd z h1, fun z => absurd z h0⟩
    · rw [pk_un e]
  refine ⟨fun v hv => ?_, fun x => ?_, ?_⟩
  · show upd CL u (CL u - 1) v = 0 ∨ sc_Job n O D w AW R' M' (if v = u then bd u - 1 else bd v) v (upd CL u (CL u - 1) v) (UC v) (UL v) (UR v)
    by_cases e : v = u
    · rw [if_pos e, e, pk_us]
      rcases J u hu with z | ⟨c, j, o, d, hc1, hcm, hc8, hcl, hr⟩
      · exact absurd z h0
      · obtain ⟨q, rfl⟩ : ∃ q, c = q + 1 := ⟨c - 1, by omega⟩
        rw [hcl, nI_pred] at h1
        have hq : q ≠ 0 := by
          intro z
          subst z
          exact h1 rfl
        refine Or.inr ⟨q, j, o, d, by omega, by omega, by omega, ?_, hr⟩
        rw [hcl, nI_pred]
    · rw [if_neg e, pk_un e]
      exact J v hv
  · rcases G x with a | ⟨a1, a2, a3, a4⟩
    · exact Or.inl a
    · exact Or.inr ⟨a1, a2, fun z => a3 ((hz _).mp z), a4⟩
  · rcases H with ⟨a, b⟩ | ⟨a, b⟩
    · exact Or.inl ⟨fun z => a ((hz _).mp z), b⟩
    · exact Or.inr ⟨a.imp (hz 3).mpr id, b⟩
/-- the cycle that ends the unit's work -/
theorem sc_fin {n : Nat} {bd : Nat → Nat} {O D : Nat → Int32} {w : Nat → Nat} {AW CL UC UL UR US R M R' M' : Nat → Int32} {u : Nat} (hn : n ≤ 32) (I : sc_Inv n bd O D w AW CL UC UL UR US R M R' M') (hu : u < 4) (h : ¬ CL u ≤ 0) (h1 : CL u - 1 = 0) :
    ∃ j o d : Nat, j < n ∧ UC u = nI j ∧ 1 ≤ o ∧ o ≤ 9 ∧ O j = nI o ∧ d < 8 ∧ D j = nI d ∧
      (o ≠ 9 → sc_Inv n (fun v => if v = u then bd u - 1 else bd v) O D w (upd AW d 0) (upd CL u (CL u - 1)) UC UL UR US (upd R d (sc_res o (UL u) (UR u) M)) M R' M') ∧
      (o = 9 → sc_Inv n (fun v => if v = u then bd u - 1 else bd v) O D w AW (upd CL u (CL u - 1)) UC UL UR US R (sc_st (UL u + UR u) (US u) M) R' M') := by
  obtain ⟨J, G, H⟩ := I
  have h0 : ¬ CL u = 0 := fun e => h (by rw [e]; decide)
  rcases J u hu with z | ⟨c, j, o, d, hc1, hcm, hc8, hcl, hj, huc, ho1, ho9, hO, hou, hd, hD, hk⟩
  · exact absurd z h0
  have hOu : O (UC u).toNatClampNeg = nI o := by rw [huc, nI_clamp (by omega), hO]
  have hDu : (D (UC u).toNatClampNeg).toNatClampNeg = d := by rw [huc, nI_clamp (by omega), hD, nI_clamp (by omega)]
  have h9 : o ≠ 9 → ¬ nI o = 9 := by
    intro e z
    rw [← sc_n9, nI_eq (by omega) (by omega)] at z
    exact e z
  have hself : upd CL u (CL u - 1) u = 0 := by rw [pk_us]; exact h1
  refine ⟨j, o, d, hj, huc, ho1, ho9, hO, hd, hD, fun ne => ?_, fun e9 => ?_⟩
  · obtain ⟨hw, hA, hR⟩ := hk ne
    have hres : sc_res o (UL u) (UR u) M = R' d := by
      rw [hR]
      rcases H with ⟨_, b, _⟩ | ⟨_, b⟩
      · have hu3 : u ≠ 3 := by
          intro e
          rw [← e, hOu] at b
          exact h9 ne b
        exact sc_resM (sc_u8 (by rw [hou]; exact hu3))
      · rw [b]
    refine ⟨fun v hv => ?_, fun x => ?_, ?_⟩
    · show upd CL u (CL u - 1) v = 0 ∨ sc_Job n O D w (upd AW d 0) R' M' (if v = u then bd u - 1 else bd v) v (upd CL u (CL u - 1) v) (UC v) (UL v) (UR v)
      by_cases e : v = u
      · rw [e]
        exact Or.inl hself
      · rw [if_neg e, pk_un e]
        rcases J v hv with z | ⟨c', j', o', d', g1, g2, g3, g4, g5, g6, g7, g8, g9, g10, g11, g12, g13⟩
        · exact Or.inl z
        · refine Or.inr ⟨c', j', o', d', g1, g2, g3, g4, g5, g6, g7, g8, g9, g10, g11, g12, fun ne' => ?_⟩
          obtain ⟨k1, k2, k3⟩ := g13 ne'
          refine ⟨k1, ?_, k3⟩
          have hdd : d' ≠ d := by
            intro z
            rw [z, hw] at k1
            exact e k1.symm
          rw [pk_un hdd]
          exact k2
    · by_cases e : x = d
      · subst e
        exact Or.inl ⟨pk_us, by rw [pk_us]; exact hres⟩
      · unfold sc_Reg
        rw [pk_un e, pk_un e]
        rcases G x with a | ⟨a1, a2, a3, a4, a5⟩
        · exact Or.inl a
        · have hwu : w x ≠ u := by
            intro z
            rw [z, hDu] at a5
            exact e a5.symm
          exact Or.inr ⟨a1, a2, by rw [pk_un hwu]; exact a3, a4, a5⟩
    · unfold sc_Mem
      by_cases e : (3 : Nat) = u
      · rcases H with ⟨_, b, _⟩ | ⟨_, b⟩
        · rw [e, hOu] at b
          exact absurd b (h9 ne)
        · exact Or.inr ⟨Or.inl (by rw [e]; exact hself), b⟩
      · rw [pk_un e]
        exact H
  · subst e9
    have hu3 : u = 3 := hou.symm
    subst hu3
    have hM : M' = sc_st (UL 3 + UR 3) (US 3) M := by
      rcases H with ⟨_, _, b⟩ | ⟨a, _⟩
      · exact b
      · rcases a with a | a
        · exact absurd a h0
        · exact absurd (hOu.trans sc_n9) a
    refine ⟨fun v hv => ?_, fun x => ?_, ?_⟩
    · show upd CL 3 (CL 3 - 1) v = 0 ∨ sc_Job n O D w AW R' M' (if v = 3 then bd 3 - 1 else bd v) v (upd CL 3 (CL 3 - 1) v) (UC v) (UL v) (UR v)
      by_cases e : v = 3
      · rw [e]
        exact Or.inl hself
      · rw [if_neg e, pk_un e]
        exact J v hv
    · rcases G x with a | ⟨a1, a2, a3, a4, a5⟩
      · exact Or.inl a
      · have hwu : w x ≠ 3 := by
          intro z
          rw [z] at a4
          exact a4 (hOu.trans sc_n9)
        exact Or.inr ⟨a1, a2, by rw [pk_un hwu]; exact a3, a4, a5⟩
    · exact Or.inr ⟨Or.inl hself, hM⟩
/-- an instruction that writes a register starts -/
theorem sc_goA {n : Nat} {bd : Nat → Nat} {O D : Nat → Int32} {w : Nat → Nat} {AW CL UC UL UR US R M R' M' : Nat → Int32} {p o d c u : Nat} {l r s : Int32} (hn : n ≤ 32) (I : sc_Inv n bd O D w AW CL UC UL UR US R M R' M') (hp : p < n) (ho1 : 1 ≤ o) (ho9 : o ≤ 9) (ne : o ≠ 9) (hO : O p = nI o) (hd : d < 8) (hD : D p = nI d) (hA : AW d = 0) (hou : sc_u o = u) (hC : CL u = 0) (hc1 : 1 ≤ c) (hc8 : c ≤ 8) :
    sc_Inv n (fun _ => 8) O D (fun x => if x = d then u else w x) (upd AW d 1) (upd CL u (nI c)) (upd UC u (nI p)) (upd UL u l) (upd UR u r) (upd US u s) R M (upd R' d (sc_res o l r M')) M' := by
  obtain ⟨J, G, H⟩ := I
  have hu : u < 4 := hou ▸ sc_u4 o
  have hc0 : ¬ nI c = 0 := nI_ne0 (by omega) (by omega)
  have h9 : ¬ nI o = 9 := by
    intro z
    rw [← sc_n9, nI_eq (by omega) (by omega)] at z
    exact ne z
  have hOu : O (upd UC u (nI p) u).toNatClampNeg = nI o := by rw [pk_us, nI_clamp (by omega), hO]
  have hDu : (D (upd UC u (nI p) u).toNatClampNeg).toNatClampNeg = d := by rw [pk_us, nI_clamp (by omega), hD, nI_clamp (by omega)]
  refine ⟨fun v hv => ?_, fun x => ?_, ?_⟩
  · by_cases e : v = u
    · rw [e, pk_us, pk_us, pk_us, pk_us]
      exact Or.inr ⟨c, p, o, d, hc1, hc8, hc8, rfl, hp, rfl, ho1, ho9, hO, hou, hd, hD, fun _ => ⟨if_pos rfl, pk_us, pk_us⟩⟩
    · rw [pk_un e, pk_un e, pk_un e, pk_un e]
      rcases J v hv with z | ⟨c', j', o', d', g1, g2, g3, g4, g5, g6, g7, g8, g9, g10, g11, g12, g13⟩
      · exact Or.inl z
      · refine Or.inr ⟨c', j', o', d', g1, g3, g3, g4, g5, g6, g7, g8, g9, g10, g11, g12, fun ne' => ?_⟩
        obtain ⟨k1, k2, k3⟩ := g13 ne'
        have hdd : d' ≠ d := by
          intro z
          rw [z, hA] at k2
          exact sc_01 k2
        exact ⟨(if_neg hdd).trans k1, (pk_un hdd).trans k2, (pk_un hdd).trans k3⟩
  · by_cases e : x = d
    · refine Or.inr ?_
      rw [e]
      show upd AW d 1 d = 1 ∧ (if d = d then u else w d) < 4 ∧ upd CL u (nI c) (if d = d then u else w d) ≠ 0 ∧ O (upd UC u (nI p) (if d = d then u else w d)).toNatClampNeg ≠ 9 ∧ (D (upd UC u (nI p) (if d = d then u else w d)).toNatClampNeg).toNatClampNeg = d
      rw [if_pos rfl]
      exact ⟨pk_us, hu, by rw [pk_us]; exact hc0, by rw [hOu]; exact h9, hDu⟩
    · show (upd AW d 1 x = 0 ∧ R x = upd R' d (sc_res o l r M') x) ∨ (upd AW d 1 x = 1 ∧ (if x = d then u else w x) < 4 ∧ upd CL u (nI c) (if x = d then u else w x) ≠ 0 ∧ O (upd UC u (nI p) (if x = d then u else w x)).toNatClampNeg ≠ 9 ∧ (D (upd UC u (nI p) (if x = d then u else w x)).toNatClampNeg).toNatClampNeg = x)
      rw [if_neg e, pk_un e, pk_un e]
      rcases G x with a | ⟨a1, a2, a3, a4, a5⟩
      · exact Or.inl a
      · have hwu : w x ≠ u := by
          intro z
          rw [z] at a3
          exact a3 hC
        rw [pk_un hwu, pk_un hwu]
        exact Or.inr ⟨a1, a2, a3, a4, a5⟩
  · unfold sc_Mem
    by_cases e : (3 : Nat) = u
    · have hM : M' = M := by
        rcases H with ⟨b, _⟩ | ⟨_, b⟩
        · rw [e] at b
          exact absurd hC b
        · exact b
      refine Or.inr ⟨Or.inr ?_, hM⟩
      rw [e, hOu]
      exact h9
    · rw [pk_un e, pk_un e, pk_un e, pk_un e, pk_un e]
      exact H
/-- a STORE starts -/
theorem sc_goS {n : Nat} {bd : Nat → Nat} {O D : Nat → Int32} {w : Nat → Nat} {AW CL UC UL UR US R M R' M' : Nat → Int32} {p d c : Nat} {l r : Int32} (hn : n ≤ 32) (I : sc_Inv n bd O D w AW CL UC UL UR US R M R' M') (hp : p < n) (hO : O p = nI 9) (hd : d < 8) (hD : D p = nI d) (hA : AW d = 0) (hC : CL 3 = 0) (hc1 : 1 ≤ c) (hc8 : c ≤ 8) :
    sc_Inv n (fun _ => 8) O D w (upd AW d 0) (upd CL 3 (nI c)) (upd UC 3 (nI p)) (upd UL 3 l) (upd UR 3 r) (upd US 3 (R d)) R M R' (sc_st (l + r) (R' d) M') := by
  obtain ⟨J, G, H⟩ := I
  have hAW : upd AW d 0 = AW := by
    funext x
    by_cases e : x = d
    · rw [e, pk_us, hA]
    · rw [pk_un e]
  have hc0 : ¬ nI c = 0 := nI_ne0 (by omega) (by omega)
  have hRd : R d = R' d := by
    rcases G d with ⟨_, a⟩ | ⟨a, _⟩
    · exact a
    · rw [hA] at a
      exact absurd a sc_01
  have hM : M' = M := by
    rcases H with ⟨b, _⟩ | ⟨_, b⟩
    · exact absurd hC b
    · exact b
  rw [hAW]
  refine ⟨fun v hv => ?_, fun x => ?_, ?_⟩
  · by_cases e : v = 3
    · rw [e, pk_us, pk_us, pk_us, pk_us]
      exact Or.inr ⟨c, p, 9, d, hc1, hc8, hc8, rfl, hp, rfl, by decide, by decide, hO, rfl, hd, hD, fun z => absurd rfl z⟩
    · rw [pk_un e, pk_un e, pk_un e, pk_un e]
      rcases J v hv with z | ⟨c', j', o', d', g1, g2, g3, g4, g5, g6, g7, g8, g9, g10, g11, g12, g13⟩
      · exact Or.inl z
      · refine Or.inr ⟨c', j', o', d', g1, g3, g3, g4, g5, g6, g7, g8, g9, g10, g11, g12, fun ne' => ?_⟩
        obtain ⟨k1, k2, k3⟩ := g13 ne'
        exact ⟨k1, k2, k3.trans (sc_resM (sc_u8 (by rw [g10]; exact e)))⟩
  · rcases G x with a | ⟨a1, a2, a3, a4, a5⟩
    · exact Or.inl a
    · have hwu : w x ≠ 3 := by
        intro z
        rw [z] at a3
        exact a3 hC
      exact Or.inr ⟨a1, a2, by rw [pk_un hwu]; exact a3, by rw [pk_un hwu]; exact a4, by rw [pk_un hwu]; exact a5⟩
  · refine Or.inl ⟨by rw [pk_us]; exact hc0, by rw [pk_us, nI_clamp (by omega), hO]; exact sc_n9, ?_⟩
    rw [pk_us, pk_us, pk_us, hRd, hM]
end
section
/-! the component's small methods, each with a general post -/
theorem sc_big {x : Int32} {n : Nat} (hn : n < 2 ^ 31) (h : nI n ≤ x) : ¬ x < 0 ∧ ¬ x < nI n :=
  ⟨Int32.not_lt.mpr (Int32.le_trans (nI_pos' hn) h), Int32.not_lt.mpr h⟩
theorem sc_b0 : vp_nar .boolean 0 = 0 := by decide +kernel
theorem sc_b1 : vp_nar .boolean 1 = 1 := by decide +kernel
theorem sc_nb0 : narrow .boolean (.int 0) = .int 0 := lw_bz_n 0
theorem sc_nb1 : narrow .boolean (.int 1) = .int 1 := lw_bz_n 1
theorem sc_uu {f : Nat → Int32} {k : Nat} {x y : Int32} : upd (upd f k x) k y = upd f k y := by
  funext j
  by_cases e : j = k
  · rw [e, pk_us, pk_us]
  · rw [pk_un e, pk_un e, pk_un e]
theorem sc_below (post : Int32 → Prop) (x : Int32) (N : Nat) (hN : N < 2 ^ 31) (h0 : (x < 0 ∨ nI N ≤ x) → post 0) (h1 : ∀ j, j < N → x = nI j → post 1) : wpX_isBelow post x (nI N) := by
  rcases pk_ix x hN with h | h | ⟨j, hj, e⟩
  · exact br_t h (h0 (Or.inl h))
  · exact br_f (sc_big hN h).1 (br_t h (h0 (Or.inr h)))
  · subst e
    exact br_f (nI_pos (by omega)) (br_f (nI_ge hj hN) (h1 j hj rfl))
/-- a latency as it is kept -/
def sc_cl (x : Int32) : Int32 := if 1 ≤ x then (if x ≤ 8 then x else 8) else 1
theorem sc_clamp (post : Int32 → Prop) (x : Int32) (h : post (sc_cl x)) : wpX_clampedLatency post x := by
  unfold sc_cl at h
  by_cases h1 : 1 ≤ x
  · rw [if_pos h1] at h
    by_cases h8 : x ≤ 8
    · rw [if_pos h8] at h
      exact br_t h1 (br_t h8 h)
    · rw [if_neg h8] at h
      exact br_t h1 (br_f h8 h)
  · rw [if_neg h1] at h
    exact br_f h1 h
theorem sc_clin (x : Int32) : ∃ c : Nat, 1 ≤ c ∧ c ≤ 8 ∧ sc_cl x = nI c := by
  unfold sc_cl
  by_cases h1 : 1 ≤ x
  · rw [if_pos h1]
    by_cases h8 : x ≤ 8
    · rw [if_pos h8]
      have h0 : ¬ x < 0 := Int32.not_lt.mpr (Int32.le_trans (by decide) h1)
      obtain ⟨j, hj, rfl⟩ := nI_of h0
      have a : nI 1 ≤ nI j := h1
      have b : nI j ≤ nI 8 := h8
      rw [nI_leI (by omega) hj] at a
      rw [nI_leI hj (by omega)] at b
      exact ⟨j, a, b, rfl⟩
    · rw [if_neg h8]
      exact ⟨8, by decide, by decide, rfl⟩
  · rw [if_neg h1]
    exact ⟨1, by decide, by decide, rfl⟩
theorem sc_nrb (post : Int32 → Prop) (o : Nat) (ho : o ≤ 12) (h0 : (o = 3 ∨ o = 8 ∨ o = 9) → post 0) (h1 : ¬ (o = 3 ∨ o = 8 ∨ o = 9) → post 1) : wpX_namesRegisterInB post (nI o) :=
  pk_eq o 3 (fun e => h0 (Or.inl e)) (fun e3 => pk_eq o 8 (fun e => h0 (Or.inr (Or.inl e))) (fun e8 => pk_eq o 9 (fun e => h0 (Or.inr (Or.inr e))) (fun e9 => h1 (by omega))))
theorem sc_ibr (post : Int32 → Prop) (o : Nat) (ho : o ≤ 12) (h0 : o < 10 → post 0) (h1 : 10 ≤ o → post 1) : wpX_isBranch post (nI o) :=
  pk_eq o 10 (fun e => h1 (by omega)) (fun e3 => pk_eq o 11 (fun e => h1 (by omega)) (fun e8 => pk_eq o 12 (fun e => h1 (by omega)) (fun e9 => h0 (by omega))))
theorem sc_unit (post : Int32 → Prop) (o : Nat) (h1 : 1 ≤ o) (h9 : o ≤ 9) (h : post (nI (sc_u o))) : wpX_unitOf post (nI o) := by
  rcases sc_nine h1 h9 with rfl | rfl | rfl | rfl | rfl | rfl | rfl | rfl | rfl <;> unfold wpX_unitOf <;>
    (repeat (first | refine br_t (by decide +kernel) ?_ | refine br_f (by decide +kernel) ?_)) <;> exact h
theorem sc_taken (post : Int32 → Prop) (o : Nat) (l r : Int32) (h1 : 10 ≤ o) (h9 : o ≤ 12) (ht : sc_tk o l r → post 1) (hf : ¬ sc_tk o l r → post 0) : wpX_isTaken post (nI o) l r := by
  rcases sc_three h1 h9 with rfl | rfl | rfl
  · have e : sc_tk 10 l r = (l = r) := rfl
    rw [e] at ht hf
    unfold wpX_isTaken
    (repeat (first | refine br_t (by decide +kernel) ?_ | refine br_f (by decide +kernel) ?_))
    exact br_c ht hf
  · have e : sc_tk 11 l r = ¬ (l = r) := rfl
    rw [e] at ht hf
    unfold wpX_isTaken
    (repeat (first | refine br_t (by decide +kernel) ?_ | refine br_f (by decide +kernel) ?_))
    exact br_c (fun z => hf (fun y => y z)) ht
  · have e : sc_tk 12 l r = ¬ (r ≤ l) := rfl
    rw [e] at ht hf
    unfold wpX_isTaken
    (repeat (first | refine br_t (by decide +kernel) ?_ | refine br_f (by decide +kernel) ?_))
    exact br_c (fun z => hf (fun y => y z)) ht
theorem sc_fault (post : Int32 → Prop) (o : Nat) (l r : Int32) (h1 : 1 ≤ o) (h9 : o ≤ 9) (h : post (sc_fk o l r)) : wpX_faultKind post (nI o) l r := by
  rcases sc_nine h1 h9 with rfl | rfl | rfl | rfl | rfl | rfl | rfl | rfl | rfl
  iterate 5
    · unfold wpX_faultKind
      (repeat (first | refine br_t (by decide +kernel) ?_ | refine br_f (by decide +kernel) ?_))
      exact h
  iterate 2
    · unfold wpX_faultKind
      (repeat (first | refine br_t (by decide +kernel) ?_ | refine br_f (by decide +kernel) ?_))
      first | rw [sc_fk6] at h | rw [sc_fk7] at h
      by_cases hr : r = 0
      · rw [if_pos hr] at h
        exact br_t hr h
      · rw [if_neg hr] at h
        exact br_f hr h
  · unfold wpX_faultKind
    (repeat (first | refine br_t (by decide +kernel) ?_ | refine br_f (by decide +kernel) ?_))
    exact sc_below _ (l + r) 32 (by decide) (fun z => br_t rfl (sc_at (sc_fk8o z) h)) (fun j hj e => br_f sc_10 (sc_at (sc_fk8i hj e) h))
  · unfold wpX_faultKind
    (repeat (first | refine br_t (by decide +kernel) ?_ | refine br_f (by decide +kernel) ?_))
    exact sc_below _ (l + r) 32 (by decide) (fun z => br_t rfl (sc_at (sc_fk9o z) h)) (fun j hj e => br_f sc_10 (sc_at (sc_fk9i hj e) h))
theorem sc_result (post : Int32 → Prop) {fl fp fc ff fz : Int32} {R M LT O D A B AW CL UC UL UR US : Nat → Int32} (o : Nat) (l r : Int32) (h1 : 1 ≤ o) (h9 : o ≤ 8) (h : post (sc_res o l r M)) : wpX_result post (fl, fp, fc, ff, fz, R, M, LT, O, D, A, B, AW, CL, UC, UL, UR, US) (nI o) l r := by
  rcases sc_nine h1 (by omega : o ≤ 9) with rfl | rfl | rfl | rfl | rfl | rfl | rfl | rfl | rfl
  · unfold wpX_result
    try dsimp only
    (repeat (first | refine br_t (by decide +kernel) ?_ | refine br_f (by decide +kernel) ?_))
    exact h
  · unfold wpX_result
    try dsimp only
    (repeat (first | refine br_t (by decide +kernel) ?_ | refine br_f (by decide +kernel) ?_))
    exact h
  · unfold wpX_result
    try dsimp only
    (repeat (first | refine br_t (by decide +kernel) ?_ | refine br_f (by decide +kernel) ?_))
    exact h
  · unfold wpX_result
    try dsimp only
    (repeat (first | refine br_t (by decide +kernel) ?_ | refine br_f (by decide +kernel) ?_))
    rw [sc_res4] at h
    by_cases hr : r ≤ l
    · rw [if_pos hr] at h
      exact br_t hr h
    · rw [if_neg hr] at h
      exact br_f hr h
  · unfold wpX_result
    try dsimp only
    (repeat (first | refine br_t (by decide +kernel) ?_ | refine br_f (by decide +kernel) ?_))
    exact h
  · unfold wpX_result
    try dsimp only
    (repeat (first | refine br_t (by decide +kernel) ?_ | refine br_f (by decide +kernel) ?_))
    rw [sc_res6] at h
    by_cases hr : r = 0
    · rw [if_pos hr] at h
      exact br_t hr h
    · rw [if_neg hr] at h
      exact br_f hr ⟨hr, h⟩
  · unfold wpX_result
    try dsimp only
    (repeat (first | refine br_t (by decide +kernel) ?_ | refine br_f (by decide +kernel) ?_))
    rw [sc_res7] at h
    by_cases hr : r = 0
    · rw [if_pos hr] at h
      exact br_t hr h
    · rw [if_neg hr] at h
      exact br_f hr ⟨hr, h⟩
  · unfold wpX_result
    try dsimp only
    (repeat (first | refine br_t (by decide +kernel) ?_ | refine br_f (by decide +kernel) ?_))
    exact sc_below _ (l + r) 32 (by decide) (fun z => br_t rfl (sc_at (sc_res8o z) h)) (fun j hj e => br_f sc_10 ⟨pk_in j 32 hj e, by rw [e, nI_clamp (by omega)]; exact sc_at (sc_res8i hj e) h⟩)
  · omega
theorem sc_setM (post : Int32 → SX → Prop) {fl fp fc ff fz : Int32} {R M LT O D A B AW CL UC UL UR US : Nat → Int32} (x v : Int32) (h : ∀ r, post r (fl, fp, fc, ff, fz, R, sc_st x v M, LT, O, D, A, B, AW, CL, UC, UL, UR, US)) : wpX_setMemory post (fl, fp, fc, ff, fz, R, M, LT, O, D, A, B, AW, CL, UC, UL, UR, US) x v := by
  unfold wpX_setMemory
  try dsimp only
  refine sc_below _ x 32 (by decide) (fun z => br_t rfl ?_) (fun j hj e => br_f sc_10 ⟨pk_in j 32 hj e, nm_e ?_⟩)
  · have := h (-1)
    rw [sc_sto z] at this
    exact this
  · have := h 0
    rw [e, sc_sti hj] at this
    rw [e, nI_clamp (by omega)]
    exact this
theorem sc_note (post : SX → Prop) {fl fp fc ff fz : Int32} {R M LT O D A B AW CL UC UL UR US : Nat → Int32} (k p : Int32) (h : post (fl, fp, sc_nc k fc, sc_nf k p ff, sc_nl k p fz, R, M, LT, O, D, A, B, AW, CL, UC, UL, UR, US)) : wpX_noteFault post (fl, fp, fc, ff, fz, R, M, LT, O, D, A, B, AW, CL, UC, UL, UR, US) k p := by
  unfold sc_nc sc_nf sc_nl at h
  by_cases e : k = -1
  · rw [if_pos e, if_pos e, if_pos e] at h
    exact br_t e h
  · rw [if_neg e, if_neg e, if_neg e] at h
    refine br_f e (nm_e (nm_e ?_))
    by_cases g : ff = -1
    · rw [if_pos g] at h
      exact br_t g h
    · rw [if_neg g] at h
      exact br_f g h
end
section
/-! finish, passCycle, mustWait, waitToStart, drain -/
theorem sc_xfin (post : SX → Prop) {fl fp fc ff fz : Int32} {R M LT O D A B AW CL UC UL UR US : Nat → Int32} {u j o d : Nat} (hu : u < 4) (hj : j < 32) (hUC : UC u = nI j) (ho1 : 1 ≤ o) (ho9 : o ≤ 9) (hO : O j = nI o) (hd : d < 8) (hD : D j = nI d) (hA : o ≠ 9 → post (fl, fp, fc, ff, fz, upd R d (sc_res o (UL u) (UR u) M), M, LT, O, D, A, B, upd AW d 0, CL, UC, UL, UR, US)) (hS : o = 9 → post (fl, fp, fc, ff, fz, R, sc_st (UL u + UR u) (US u) M, LT, O, D, A, B, AW, CL, UC, UL, UR, US)) : wpX_finish post (fl, fp, fc, ff, fz, R, M, LT, O, D, A, B, AW, CL, UC, UL, UR, US) (nI u) := by
  have cu : (nI u).toNatClampNeg = u := nI_clamp (by omega)
  have cj : (nI j).toNatClampNeg = j := nI_clamp (by omega)
  have cd : (D (nI j).toNatClampNeg).toNatClampNeg = d := by rw [cj, hD, nI_clamp (by omega)]
  have iu : vp_in (nI u) 4 := vp_in_nI hu (by decide)
  have ij : vp_in (nI j) 32 := vp_in_nI hj (by decide)
  have id : vp_in (D (nI j).toNatClampNeg) 8 := by rw [cj, hD]; exact vp_in_nI hd (by decide)
  unfold wpX_finish
  try dsimp only
  refine ⟨iu, nm_r (e' := nI j) (by rw [cu]; exact hUC) ⟨ij, nm_r (e' := nI o) (by rw [cj]; exact hO) ⟨iu, nm_r (e' := UL u) (by rw [cu]) ⟨iu, nm_r (e' := UR u) (by rw [cu]) ?_⟩⟩⟩⟩
  refine pk_eq o 9 (fun e => ⟨iu, ?_⟩) (fun ne => ⟨ij, ?_⟩)
  · rw [cu]
    exact sc_setM _ _ _ (fun r => hS e)
  · refine sc_result _ o (UL u) (UR u) ho1 (by omega) ⟨id, nm_r (e' := upd R d (sc_res o (UL u) (UR u) M)) (by rw [cd]) ⟨ij, id, nm_r (e' := upd AW d 0) (by rw [cd, sc_b0]) (hA ne)⟩⟩
def sc_bd (m i : Nat) : Nat → Nat := fun v => if v < i then m - 1 else m
theorem sc_bds (m i : Nat) (u : Nat) : (if u = i then sc_bd m i i - 1 else sc_bd m i u) ≤ sc_bd m (i + 1) u := by
  unfold sc_bd
  by_cases e : u = i
  · subst e
    rw [if_pos rfl, if_neg (Nat.lt_irrefl u), if_pos (Nat.lt_succ_self u)]
    exact Nat.le_refl _
  · rw [if_neg e]
    by_cases h : u < i
    · rw [if_pos h, if_pos (Nat.lt_succ_of_lt h)]
      exact Nat.le_refl _
    · rw [if_neg h, if_neg (by omega)]
      exact Nat.le_refl _
theorem sc_skip {n : Nat} {bd : Nat → Nat} {O D : Nat → Int32} {w : Nat → Nat} {AW CL UC UL UR US R M R' M' : Nat → Int32} {u : Nat} (I : sc_Inv n bd O D w AW CL UC UL UR US R M R' M') (h : CL u ≤ 0) : sc_Inv n (fun v => if v = u then bd u - 1 else bd v) O D w AW CL UC UL UR US R M R' M' := by
  obtain ⟨J, G, H⟩ := I
  refine ⟨fun v hv => ?_, G, H⟩
  show CL v = 0 ∨ sc_Job n O D w AW R' M' (if v = u then bd u - 1 else bd v) v (CL v) (UC v) (UL v) (UR v)
  by_cases e : v = u
  · rcases J v hv with z | z
    · exact Or.inl z
    · rw [e] at z
      exact absurd h (sc_pos z).2
  · rw [if_neg e]
    exact J v hv
theorem sc_pass2 (post : SX → Prop) {n m : Nat} {w : Nat → Nat} {R' M' : Nat → Int32} {fl fp fc ff fz : Int32} {LT O D A B UC UL UR US : Nat → Int32} (hn : n ≤ 32) (hp : ∀ R M AW CL : Nat → Int32, sc_Inv n (fun _ => m - 1) O D w AW CL UC UL UR US R M R' M' → post (fl, fp, fc, ff, fz, R, M, LT, O, D, A, B, AW, CL, UC, UL, UR, US)) :
    ∀ e i : Nat, i + e = 4 → ∀ R M AW CL : Nat → Int32, sc_Inv n (sc_bd m i) O D w AW CL UC UL UR US R M R' M' → wX_passCycle_2 post (e + 1) (nI i) fl fp fc ff fz R M LT O D A B AW CL UC UL UR US := by
  intro e
  induction e with
  | zero =>
    intro i hi R M AW CL I
    have h : (4 : Int32) ≤ nI i := nI_le (a := 4) (by omega) (by omega)
    exact br_t h (hp R M AW CL (sc_mono I (fun u hu => by unfold sc_bd; rw [if_pos (by omega)]; exact Nat.le_refl _)))
  | succ e ih =>
    intro i hi R M AW CL I
    have h : ¬ (4 : Int32) ≤ nI i := nI_ge (b := 4) (by omega) (by decide)
    have hi4 : i < 4 := by omega
    have ci : (nI i).toNatClampNeg = i := nI_clamp (by omega)
    have iu : vp_in (nI i) 4 := vp_in_nI hi4 (by decide)
    refine br_f h ⟨iu, ?_⟩
    rw [ci]
    by_cases h0 : CL i ≤ 0
    · refine br_t h0 (nm_r (nI_1 i) (ih (i + 1) (by omega) R M AW CL (sc_mono (sc_skip I h0) (fun u _ => sc_bds m i u))))
    · refine br_f h0 ⟨iu, iu, nm_e ⟨iu, ?_⟩⟩
      by_cases h1 : CL i - 1 = 0
      · refine br_t (by rw [pk_us]; exact h1) ?_
        obtain ⟨j, o, d, hj, huc, ho1, ho9, hO, hd, hD, kA, kS⟩ := sc_fin hn I hi4 h0 h1
        refine sc_xfin _ hi4 (by omega) huc ho1 ho9 hO hd hD (fun ne => ?_) (fun e9 => ?_)
        · exact nm_r (nI_1 i) (ih (i + 1) (by omega) _ _ _ _ (sc_mono (kA ne) (fun u _ => sc_bds m i u)))
        · exact nm_r (nI_1 i) (ih (i + 1) (by omega) _ _ _ _ (sc_mono (kS e9) (fun u _ => sc_bds m i u)))
      · refine br_f (by rw [pk_us]; exact h1) ?_
        exact nm_r (nI_1 i) (ih (i + 1) (by omega) _ _ _ _ (sc_mono (sc_tick I hi4 h0 h1) (fun u _ => sc_bds m i u)))
theorem sc_pass (post : SX → Prop) {n m : Nat} {w : Nat → Nat} {R' M' : Nat → Int32} {fl fp fc ff fz : Int32} {R M LT O D A B AW CL UC UL UR US : Nat → Int32} (hn : n ≤ 32) (I : sc_Inv n (fun _ => m) O D w AW CL UC UL UR US R M R' M') (hp : ∀ R M AW CL : Nat → Int32, sc_Inv n (fun _ => m - 1) O D w AW CL UC UL UR US R M R' M' → post (fl, fp, fc, ff, fz, R, M, LT, O, D, A, B, AW, CL, UC, UL, UR, US)) : wpX_passCycle post (fl, fp, fc, ff, fz, R, M, LT, O, D, A, B, AW, CL, UC, UL, UR, US) :=
  ⟨5, sc_pass2 post hn hp 4 0 rfl R M AW CL (sc_mono I (fun u _ => by unfold sc_bd; rw [if_neg (Nat.not_lt_zero u)]; exact Nat.le_refl _))⟩
theorem sc_drain2 (post : SX → Prop) {n : Nat} {w : Nat → Nat} {R' M' : Nat → Int32} {fl fp fc ff fz : Int32} {LT O D A B UC UL UR US : Nat → Int32} (hn : n ≤ 32) (hp : ∀ R M AW CL : Nat → Int32, sc_Inv n (fun _ => 0) O D w AW CL UC UL UR US R M R' M' → post (fl, fp, fc, ff, fz, R, M, LT, O, D, A, B, AW, CL, UC, UL, UR, US)) :
    ∀ e i : Nat, i + e = 8 → ∀ R M AW CL : Nat → Int32, sc_Inv n (fun _ => e) O D w AW CL UC UL UR US R M R' M' → wX_drain_2 post (e + 1) (nI i) fl fp fc ff fz R M LT O D A B AW CL UC UL UR US := by
  intro e
  induction e with
  | zero =>
    intro i hi R M AW CL I
    have h : (8 : Int32) ≤ nI i := nI_le (a := 8) (by omega) (by omega)
    exact br_t h (hp R M AW CL I)
  | succ e ih =>
    intro i hi R M AW CL I
    have h : ¬ (8 : Int32) ≤ nI i := nI_ge (b := 8) (by omega) (by decide)
    refine br_f h (sc_pass _ hn I (fun R M AW CL I' => ?_))
    exact nm_r (nI_1 i) (ih (i + 1) (by omega) R M AW CL I')
theorem sc_drain (post : SX → Prop) {n : Nat} {w : Nat → Nat} {R' M' : Nat → Int32} {fl fp fc ff fz : Int32} {R M LT O D A B AW CL UC UL UR US : Nat → Int32} (hn : n ≤ 32) (I : sc_Inv n (fun _ => 8) O D w AW CL UC UL UR US R M R' M') (hp : ∀ R M AW CL : Nat → Int32, sc_Inv n (fun _ => 0) O D w AW CL UC UL UR US R M R' M' → post (fl, fp, fc, ff, fz, R, M, LT, O, D, A, B, AW, CL, UC, UL, UR, US)) : wpX_drain post (fl, fp, fc, ff, fz, R, M, LT, O, D, A, B, AW, CL, UC, UL, UR, US) :=
  ⟨9, sc_drain2 post hn hp 8 0 rfl R M AW CL I⟩
/-- nothing holds the instruction back -/
def sc_Rdy (o a d : Nat) (bv : Int32) (AW CL : Nat → Int32) : Prop := AW a = 0 ∧ (¬ (o = 3 ∨ o = 8 ∨ o = 9) → AW bv.toNatClampNeg = 0) ∧ (o < 10 → AW d = 0 ∧ CL (sc_u o) = 0)
theorem sc_must (post : Int32 → Prop) {fl fp fc ff fz : Int32} {R M LT O D A B AW CL UC UL UR US : Nat → Int32} {p o a d : Nat} (hp : p < 32) (hc : sc_Cell O D A B p o a d) (hz : ∀ u, u < 4 → CL u ≤ 0 → CL u = 0) (h0 : sc_Rdy o a d (B p) AW CL → post 0) (h1 : post 1) : wpX_mustWait post (fl, fp, fc, ff, fz, R, M, LT, O, D, A, B, AW, CL, UC, UL, UR, US) (nI p) := by
  obtain ⟨hO, ho1, ho12, hA, ha, hD, hd, hd8, hB⟩ := hc
  have cp : (nI p).toNatClampNeg = p := nI_clamp (by omega)
  have ca : (A (nI p).toNatClampNeg).toNatClampNeg = a := by rw [cp, hA, nI_clamp (by omega)]
  have ip : vp_in (nI p) 32 := vp_in_nI hp (by decide)
  have ia : vp_in (A (nI p).toNatClampNeg) 8 := by rw [cp, hA]; exact vp_in_nI ha (by decide)
  have cd : (D (nI p).toNatClampNeg).toNatClampNeg = d := by rw [cp, hD, nI_clamp (by omega)]
  have k44 : AW a = 0 → (¬ (o = 3 ∨ o = 8 ∨ o = 9) → AW (B p).toNatClampNeg = 0) → wX_mustWait_44 post (nI p) (nI o) fl fp fc ff fz R M LT O D A B AW CL UC UL UR US := by
    intro qa qb
    refine sc_ibr _ o ho12 (fun ho => br_t rfl ?_) (fun ho => br_f sc_10 (h0 ⟨qa, qb, fun z => by omega⟩))
    have i8 : vp_in (D (nI p).toNatClampNeg) 8 := by rw [cp, hD]; exact vp_in_nI (hd8 ho) (by decide)
    have cu : (nI (sc_u o)).toNatClampNeg = sc_u o := nI_clamp (by have := sc_u4 o; omega)
    refine sc_unit _ o ho1 (by omega) ⟨ip, i8, ?_⟩
    rw [cd]
    refine br_c (fun zd => ⟨vp_in_nI (sc_u4 o) (by decide), ?_⟩) (fun _ => h1)
    rw [cu]
    exact br_c (fun q => h0 ⟨qa, qb, fun _ => ⟨zd, hz _ (sc_u4 o) q⟩⟩) (fun _ => h1)
  unfold wpX_mustWait
  try dsimp only
  refine ⟨ip, nm_r (e' := nI o) (by rw [cp]; exact hO) ⟨ip, ia, ?_⟩⟩
  rw [ca]
  refine br_c (fun qa => ?_) (fun _ => h1)
  refine sc_nrb _ o ho12 (fun z => br_t rfl (k44 qa (fun y => absurd z y))) (fun z => br_f sc_10 ⟨ip, ?_, ?_⟩)
  · rw [cp]
    obtain ⟨b, hb, e⟩ := hB (by omega) (by omega) (by omega)
    rw [e]
    exact vp_in_nI hb (by decide)
  · rw [cp]
    exact br_c (fun qb => k44 qa (fun _ => qb)) (fun _ => h1)
theorem sc_z {n : Nat} {bd : Nat → Nat} {O D : Nat → Int32} {w : Nat → Nat} {AW CL UC UL UR US R M R' M' : Nat → Int32} (I : sc_Inv n bd O D w AW CL UC UL UR US R M R' M') : ∀ u, u < 4 → CL u ≤ 0 → CL u = 0 := by
  intro u hu h
  rcases I.1 u hu with z | z
  · exact z
  · exact absurd h (sc_pos z).2
theorem sc_wait2 (post : SX → Prop) {n p o a d : Nat} {w : Nat → Nat} {R' M' : Nat → Int32} {fl fp fc ff fz : Int32} {LT O D A B UC UL UR US : Nat → Int32} (hn : n ≤ 32) (hp : p < 32) (hc : sc_Cell O D A B p o a d) (h : ∀ R M AW CL : Nat → Int32, sc_Inv n (fun _ => 8) O D w AW CL UC UL UR US R M R' M' → sc_Rdy o a d (B p) AW CL → post (fl, fp, fc, ff, fz, R, M, LT, O, D, A, B, AW, CL, UC, UL, UR, US)) :
    ∀ e i : Nat, i + e = 8 → ∀ R M AW CL : Nat → Int32, sc_Inv n (fun _ => e) O D w AW CL UC UL UR US R M R' M' → wX_waitToStart_2 post (nI p) (e + 1) (nI i) fl fp fc ff fz R M LT O D A B AW CL UC UL UR US := by
  intro e
  induction e with
  | zero =>
    intro i hi R M AW CL I
    have h8 : (8 : Int32) ≤ nI i := nI_le (a := 8) (by omega) (by omega)
    obtain ⟨fC, fA, _, _⟩ := sc_free I (fun _ _ => rfl)
    exact br_t h8 (h R M AW CL (sc_mono I (fun _ _ => Nat.zero_le _)) ⟨fA _, fun _ => fA _, fun _ => ⟨fA _, fC _ (sc_u4 o)⟩⟩)
  | succ e ih =>
    intro i hi R M AW CL I
    have h8 : ¬ (8 : Int32) ≤ nI i := nI_ge (b := 8) (by omega) (by decide)
    refine br_f h8 (sc_must _ hp hc (sc_z I) (fun rdy => br_t rfl (h R M AW CL (sc_mono I (fun _ _ => by omega)) rdy)) (br_f sc_10 (sc_pass _ hn I (fun R M AW CL I' => ?_))))
    exact nm_r (nI_1 i) (ih (i + 1) (by omega) R M AW CL I')
theorem sc_wait (post : SX → Prop) {n p o a d : Nat} {w : Nat → Nat} {R' M' : Nat → Int32} {fl fp fc ff fz : Int32} {R M LT O D A B AW CL UC UL UR US : Nat → Int32} (hn : n ≤ 32) (hp : p < 32) (hc : sc_Cell O D A B p o a d) (I : sc_Inv n (fun _ => 8) O D w AW CL UC UL UR US R M R' M') (h : ∀ R M AW CL : Nat → Int32, sc_Inv n (fun _ => 8) O D w AW CL UC UL UR US R M R' M' → sc_Rdy o a d (B p) AW CL → post (fl, fp, fc, ff, fz, R, M, LT, O, D, A, B, AW, CL, UC, UL, UR, US)) : wpX_waitToStart post (fl, fp, fc, ff, fz, R, M, LT, O, D, A, B, AW, CL, UC, UL, UR, US) (nI p) :=
  ⟨9, sc_wait2 post hn hp hc h 8 0 rfl R M AW CL I⟩
end
section
/-! occupyUnit, start, stopped -/
theorem sc_occ (post : SX → Prop) {fl fp fc ff fz : Int32} {R M LT O D A B AW CL UC UL UR US : Nat → Int32} {p o d : Nat} {l r : Int32} (hp : p < 32) (ho1 : 1 ≤ o) (ho9 : o ≤ 9) (hO : O p = nI o) (hd : d < 8) (hD : D p = nI d) (h : post (fl, fp, fc, ff, fz, R, M, LT, O, D, A, B, upd AW d (if o = 9 then 0 else 1), upd CL (sc_u o) (LT (sc_u o)), upd UC (sc_u o) (nI p), upd UL (sc_u o) l, upd UR (sc_u o) r, upd US (sc_u o) (R d))) : wpX_occupyUnit post (fl, fp, fc, ff, fz, R, M, LT, O, D, A, B, AW, CL, UC, UL, UR, US) (nI p) l r := by
  have cp : (nI p).toNatClampNeg = p := nI_clamp (by omega)
  have cd : (D (nI p).toNatClampNeg).toNatClampNeg = d := by rw [cp, hD, nI_clamp (by omega)]
  have ip : vp_in (nI p) 32 := vp_in_nI hp (by decide)
  have i8 : vp_in (D (nI p).toNatClampNeg) 8 := by rw [cp, hD]; exact vp_in_nI hd (by decide)
  have i4 : vp_in (nI (sc_u o)) 4 := vp_in_nI (sc_u4 o) (by decide)
  have cu : (nI (sc_u o)).toNatClampNeg = sc_u o := nI_clamp (by have := sc_u4 o; omega)
  unfold wpX_occupyUnit
  try dsimp only
  refine ⟨ip, nm_r (e' := nI o) (by rw [cp]; exact hO) (sc_unit _ o ho1 ho9 ?_)⟩
  refine ⟨i4, i4, nm_r (e' := upd CL (sc_u o) (LT (sc_u o))) (by rw [cu]) ⟨i4, nm_r (e' := upd UC (sc_u o) (nI p)) (by rw [cu]) ⟨i4, nm_r (e' := upd UL (sc_u o) l) (by rw [cu]) ⟨i4, nm_r (e' := upd UR (sc_u o) r) (by rw [cu]) ⟨ip, i8, i4, nm_r (e' := upd US (sc_u o) (R d)) (by rw [cu, cd]) ⟨ip, ?_⟩⟩⟩⟩⟩⟩
  refine pk_eq o 9 (fun e => ⟨i8, nm_r (e' := upd AW d 0) (by rw [cd, sc_b0]) ?_⟩) (fun e => ⟨i8, nm_r (e' := upd AW d 1) (by rw [cd, sc_b1]) ?_⟩)
  · rw [if_pos e] at h
    exact h
  · rw [if_neg e] at h
    exact h
theorem sc_st46 (post : SX → Prop) {fl fp fc ff fz : Int32} {R M LT O D A B AW CL UC UL UR US : Nat → Int32} {p o d : Nat} {l r : Int32} (hp : p < 32) (ho1 : 1 ≤ o) (ho12 : o ≤ 12) (hO : O p = nI o) (hd : o < 10 → d < 8) (hD : D p = nI d)
    (hN : o < 10 → post (fl, nI (p + 1), sc_nc (sc_fk o l r) fc, sc_nf (sc_fk o l r) (nI p) ff, sc_nl (sc_fk o l r) (nI p) fz, R, M, LT, O, D, A, B, upd AW d (if o = 9 then 0 else 1), upd CL (sc_u o) (LT (sc_u o)), upd UC (sc_u o) (nI p), upd UL (sc_u o) l, upd UR (sc_u o) r, upd US (sc_u o) (R d)))
    (hT : 10 ≤ o → sc_tk o l r → post (fl, nI d, fc, ff, fz, R, M, LT, O, D, A, B, AW, CL, UC, UL, UR, US)) (hF : 10 ≤ o → ¬ sc_tk o l r → post (fl, nI (p + 1), fc, ff, fz, R, M, LT, O, D, A, B, AW, CL, UC, UL, UR, US)) : wX_start_46 post (nI p) (nI o) l r fl fp fc ff fz R M LT O D A B AW CL UC UL UR US := by
  have cp : (nI p).toNatClampNeg = p := nI_clamp (by omega)
  have ip : vp_in (nI p) 32 := vp_in_nI hp (by decide)
  refine sc_ibr _ o ho12 (fun ho => br_t rfl ?_) (fun ho => br_f sc_10 ?_)
  · refine sc_fault _ o l r ho1 (by omega) ?_
    refine sc_note _ (sc_fk o l r) (nI p) ?_
    refine sc_occ _ hp ho1 (by omega) hO (hd ho) hD ?_
    exact nm_r (nI_1 p) (hN ho)
  · refine sc_taken _ o l r ho ho12 (fun t => br_f sc_10 ⟨ip, nm_r (e' := nI d) (by rw [cp]; exact hD) (hT ho t)⟩) (fun t => br_t rfl (nm_r (nI_1 p) (hF ho t)))
theorem sc_start (post : SX → Prop) {fl fp fc ff fz : Int32} {R M LT O D A B AW CL UC UL UR US : Nat → Int32} {p o a d : Nat} (hp : p < 32) (hc : sc_Cell O D A B p o a d)
    (hN : o < 10 → post (fl, nI (p + 1), sc_nc (sc_fk o (R a) (sc_rt o (B p) R)) fc, sc_nf (sc_fk o (R a) (sc_rt o (B p) R)) (nI p) ff, sc_nl (sc_fk o (R a) (sc_rt o (B p) R)) (nI p) fz, R, M, LT, O, D, A, B, upd AW d (if o = 9 then 0 else 1), upd CL (sc_u o) (LT (sc_u o)), upd UC (sc_u o) (nI p), upd UL (sc_u o) (R a), upd UR (sc_u o) (sc_rt o (B p) R), upd US (sc_u o) (R d)))
    (hT : 10 ≤ o → sc_tk o (R a) (sc_rt o (B p) R) → post (fl, nI d, fc, ff, fz, R, M, LT, O, D, A, B, AW, CL, UC, UL, UR, US)) (hF : 10 ≤ o → ¬ sc_tk o (R a) (sc_rt o (B p) R) → post (fl, nI (p + 1), fc, ff, fz, R, M, LT, O, D, A, B, AW, CL, UC, UL, UR, US)) : wpX_start post (fl, fp, fc, ff, fz, R, M, LT, O, D, A, B, AW, CL, UC, UL, UR, US) (nI p) := by
  obtain ⟨hO, ho1, ho12, hA, ha, hD, hd, hd8, hB⟩ := hc
  have cp : (nI p).toNatClampNeg = p := nI_clamp (by omega)
  have ca : (A (nI p).toNatClampNeg).toNatClampNeg = a := by rw [cp, hA, nI_clamp (by omega)]
  have ip : vp_in (nI p) 32 := vp_in_nI hp (by decide)
  have ia : vp_in (A (nI p).toNatClampNeg) 8 := by rw [cp, hA]; exact vp_in_nI ha (by decide)
  unfold wpX_start
  try dsimp only
  refine ⟨ip, nm_r (e' := nI o) (by rw [cp]; exact hO) ⟨ip, ia, nm_r (e' := R a) (by rw [ca]) ?_⟩⟩
  refine sc_nrb _ o ho12 (fun z => br_t rfl ⟨ip, ?_⟩) (fun z => br_f sc_10 ⟨ip, ?_, ?_⟩)
  · have e : sc_rt o (B p) R = B p := if_pos z
    rw [e] at hN hT hF
    rw [cp]
    exact sc_st46 post hp ho1 ho12 hO hd8 hD hN hT hF
  · rw [cp]
    obtain ⟨b, hb, e⟩ := hB (by omega) (by omega) (by omega)
    rw [e]
    exact vp_in_nI hb (by decide)
  · have e : sc_rt o (B p) R = R (B p).toNatClampNeg := if_neg z
    rw [e] at hN hT hF
    rw [cp]
    exact sc_st46 post hp ho1 ho12 hO hd8 hD hN hT hF
theorem sc_xs1 (post : Int32 → Prop) {n p : Nat} {fc ff fz : Int32} {R M LT O D A B AW CL UC UL UR US : Nat → Int32} (hn : n ≤ 32) (hp : p ≤ 32) (h : n ≤ p ∨ O p = 0) (h1 : post 1) : wpX_stopped post (nI n, nI p, fc, ff, fz, R, M, LT, O, D, A, B, AW, CL, UC, UL, UR, US) := by
  refine pk_le n p (fun _ => h1) (fun e => ⟨vp_in_nI (by omega) (by decide), ?_⟩)
  rw [nI_clamp (by omega)]
  rcases h with z | z
  · omega
  · exact br_t z h1
theorem sc_xs0 (post : Int32 → Prop) {n p : Nat} {fc ff fz : Int32} {R M LT O D A B AW CL UC UL UR US : Nat → Int32} (hn : n ≤ 32) (hp : p < n) (h : ¬ O p = 0) (h0 : post 0) : wpX_stopped post (nI n, nI p, fc, ff, fz, R, M, LT, O, D, A, B, AW, CL, UC, UL, UR, US) := by
  refine pk_le n p (fun e => by omega) (fun e => ⟨vp_in_nI (by omega) (by decide), ?_⟩)
  rw [nI_clamp (by omega)]
  exact br_f h h0
theorem sc_ys1 (post : Int32 → Prop) {n p : Nat} {fc ff fz : Int32} {R M O D A B LT : Nat → Int32} (hn : n ≤ 32) (hp : p ≤ 32) (h : n ≤ p ∨ O p = 0) (h1 : post 1) : wpY_stopped post (nI n, nI p, fc, ff, fz, R, M, O, D, A, B, LT) := by
  refine br_f (nI_pos (by omega)) (pk_le 32 p (fun _ => h1) (fun e => pk_lt p n (fun e2 => ⟨vp_in_nI (by omega) (by decide), ?_⟩) (fun _ => h1)))
  rw [nI_clamp (by omega)]
  rcases h with z | z
  · omega
  · exact br_t z h1
theorem sc_ys0 (post : Int32 → Prop) {n p : Nat} {fc ff fz : Int32} {R M O D A B LT : Nat → Int32} (hn : n ≤ 32) (hp : p < n) (h : ¬ O p = 0) (h0 : post 0) : wpY_stopped post (nI n, nI p, fc, ff, fz, R, M, O, D, A, B, LT) := by
  refine br_f (nI_pos (by omega)) (pk_le 32 p (fun e => by omega) (fun e => pk_lt p n (fun e2 => ⟨vp_in_nI (by omega) (by decide), ?_⟩) (fun e => by omega)))
  rw [nI_clamp (by omega)]
  exact br_f h h0
end
section
/-! the reference's step -/
theorem sc_ncm {c : Int32} : sc_nc (-1) c = c := if_pos rfl
theorem sc_nfm {p f : Int32} : sc_nf (-1) p f = f := if_pos rfl
theorem sc_nlm {p z : Int32} : sc_nl (-1) p z = z := if_pos rfl
theorem sc_ncp {k c : Int32} (h : ¬ k = -1) : sc_nc k c = c + 1 := if_neg h
theorem sc_nlp {k p z : Int32} (h : ¬ k = -1) : sc_nl k p z = k * 32 + p := if_neg h
theorem sc_nfp {k p f : Int32} (h : ¬ k = -1) (hf : f = -1) : sc_nf k p f = k * 32 + p := (if_neg h).trans (if_pos hf)
theorem sc_nfq {k p f : Int32} (h : ¬ k = -1) (hf : ¬ f = -1) : sc_nf k p f = f := (if_neg h).trans (if_neg hf)
theorem sc_yr (post : Int32 → Prop) {fl fp fc ff fz : Int32} {R M O D A B LT : Nat → Int32} {a : Nat} (ha : a < 8) (h : post (R a)) : wpY_register post (fl, fp, fc, ff, fz, R, M, O, D, A, B, LT) (nI a) :=
  br_f (nI_pos (by omega)) (br_t (nI_lt (b := 8) ha (by decide)) ⟨vp_in_nI ha (by decide), by rw [nI_clamp (by omega)]; exact h⟩)
theorem sc_yrg (post : Int32 → Prop) {fl fp fc ff fz : Int32} {R M O D A B LT : Nat → Int32} (x : Int32) (h : ∀ v : Int32, (∀ b : Nat, b < 8 → x = nI b → v = R b) → post v) : wpY_register post (fl, fp, fc, ff, fz, R, M, O, D, A, B, LT) x := by
  rcases pk_ix x (n := 8) (by decide) with z | z | ⟨j, hj, e⟩
  · refine br_t z (h _ (fun b hb e => ?_))
    rw [e] at z
    exact absurd z (nI_pos (by omega))
  · refine br_f (sc_big (by decide) z).1 (br_f (sc_big (by decide) z).2 (h _ (fun b hb e => ?_)))
    rw [e] at z
    exact absurd z (nI_ge (b := 8) hb (by decide))
  · subst e
    refine sc_yr post hj (h _ (fun b hb e => ?_))
    rw [nI_eq (by omega) (by omega)] at e
    rw [e]
theorem sc_ysr (post : Int32 → SY → Prop) {fl fp fc ff fz : Int32} {R M O D A B LT : Nat → Int32} {d : Nat} (hd : d < 8) (v : Int32) (h : post 0 (fl, fp, fc, ff, fz, upd R d v, M, O, D, A, B, LT)) : wpY_setRegister post (fl, fp, fc, ff, fz, R, M, O, D, A, B, LT) (nI d) v :=
  br_f (nI_pos (by omega)) (br_t (nI_lt (b := 8) hd (by decide)) ⟨vp_in_nI hd (by decide), nm_r (e' := upd R d v) (by rw [nI_clamp (by omega)]) h⟩)
theorem sc_y1 (post : SY → Prop) {p d : Nat} {fl fc ff fz : Int32} {R M O D A B LT : Nat → Int32} (hd : d < 8) (x l y s x7 z : Int32)  (h : post (fl, nI (p + 1), sc_nc (sc_fk 1 l y) fc, sc_nf (sc_fk 1 l y) (nI p) ff, sc_nl (sc_fk 1 l y) (nI p) fz, sc_nr 1 d l y R M, sc_nm 1 d l y R M, O, D, A, B, LT)) : wY_step_99 post (nI 1) (nI d) x l y s x7 z fl (nI p) fc ff fz R M O D A B LT := by
  have hk : sc_fk 1 l y = -1 := rfl
  rw [hk, sc_ncm, sc_nfm, sc_nlm] at h
  (repeat (first | refine br_t (by decide +kernel) ?_ | refine br_f (by decide +kernel) ?_ | refine br_t (by assumption) ?_ | refine br_f (by assumption) ?_ | refine nm_r (nI_1 p) ?_ | refine nm_e ?_ | refine And.intro (by assumption) ?_))
  refine sc_ysr _ hd _ ?_
  (repeat (first | refine br_t (by decide +kernel) ?_ | refine br_f (by decide +kernel) ?_ | refine br_t (by assumption) ?_ | refine br_f (by assumption) ?_ | refine nm_r (nI_1 p) ?_ | refine nm_e ?_ | refine And.intro (by assumption) ?_))
  exact h
theorem sc_y2 (post : SY → Prop) {p d : Nat} {fl fc ff fz : Int32} {R M O D A B LT : Nat → Int32} (hd : d < 8) (x l y s x7 z : Int32)  (h : post (fl, nI (p + 1), sc_nc (sc_fk 2 l y) fc, sc_nf (sc_fk 2 l y) (nI p) ff, sc_nl (sc_fk 2 l y) (nI p) fz, sc_nr 2 d l y R M, sc_nm 2 d l y R M, O, D, A, B, LT)) : wY_step_99 post (nI 2) (nI d) x l y s x7 z fl (nI p) fc ff fz R M O D A B LT := by
  have hk : sc_fk 2 l y = -1 := rfl
  rw [hk, sc_ncm, sc_nfm, sc_nlm] at h
  (repeat (first | refine br_t (by decide +kernel) ?_ | refine br_f (by decide +kernel) ?_ | refine br_t (by assumption) ?_ | refine br_f (by assumption) ?_ | refine nm_r (nI_1 p) ?_ | refine nm_e ?_ | refine And.intro (by assumption) ?_))
  refine sc_ysr _ hd _ ?_
  (repeat (first | refine br_t (by decide +kernel) ?_ | refine br_f (by decide +kernel) ?_ | refine br_t (by assumption) ?_ | refine br_f (by assumption) ?_ | refine nm_r (nI_1 p) ?_ | refine nm_e ?_ | refine And.intro (by assumption) ?_))
  exact h
theorem sc_y5 (post : SY → Prop) {p d : Nat} {fl fc ff fz : Int32} {R M O D A B LT : Nat → Int32} (hd : d < 8) (x l y s x7 z : Int32)  (h : post (fl, nI (p + 1), sc_nc (sc_fk 5 l y) fc, sc_nf (sc_fk 5 l y) (nI p) ff, sc_nl (sc_fk 5 l y) (nI p) fz, sc_nr 5 d l y R M, sc_nm 5 d l y R M, O, D, A, B, LT)) : wY_step_99 post (nI 5) (nI d) x l y s x7 z fl (nI p) fc ff fz R M O D A B LT := by
  have hk : sc_fk 5 l y = -1 := rfl
  rw [hk, sc_ncm, sc_nfm, sc_nlm] at h
  (repeat (first | refine br_t (by decide +kernel) ?_ | refine br_f (by decide +kernel) ?_ | refine br_t (by assumption) ?_ | refine br_f (by assumption) ?_ | refine nm_r (nI_1 p) ?_ | refine nm_e ?_ | refine And.intro (by assumption) ?_))
  refine sc_ysr _ hd _ ?_
  (repeat (first | refine br_t (by decide +kernel) ?_ | refine br_f (by decide +kernel) ?_ | refine br_t (by assumption) ?_ | refine br_f (by assumption) ?_ | refine nm_r (nI_1 p) ?_ | refine nm_e ?_ | refine And.intro (by assumption) ?_))
  exact h
theorem sc_y3 (post : SY → Prop) {p d : Nat} {fl fc ff fz : Int32} {R M O D A B LT : Nat → Int32} (hd : d < 8) (x l y s x7 z : Int32)  (h : post (fl, nI (p + 1), sc_nc (sc_fk 3 l x) fc, sc_nf (sc_fk 3 l x) (nI p) ff, sc_nl (sc_fk 3 l x) (nI p) fz, sc_nr 3 d l x R M, sc_nm 3 d l x R M, O, D, A, B, LT)) : wY_step_99 post (nI 3) (nI d) x l y s x7 z fl (nI p) fc ff fz R M O D A B LT := by
  have hk : sc_fk 3 l x = -1 := rfl
  rw [hk, sc_ncm, sc_nfm, sc_nlm] at h
  (repeat (first | refine br_t (by decide +kernel) ?_ | refine br_f (by decide +kernel) ?_ | refine br_t (by assumption) ?_ | refine br_f (by assumption) ?_ | refine nm_r (nI_1 p) ?_ | refine nm_e ?_ | refine And.intro (by assumption) ?_))
  refine sc_ysr _ hd _ ?_
  (repeat (first | refine br_t (by decide +kernel) ?_ | refine br_f (by decide +kernel) ?_ | refine br_t (by assumption) ?_ | refine br_f (by assumption) ?_ | refine nm_r (nI_1 p) ?_ | refine nm_e ?_ | refine And.intro (by assumption) ?_))
  exact h
theorem sc_y4 (post : SY → Prop) {p d : Nat} {fl fc ff fz : Int32} {R M O D A B LT : Nat → Int32} (hd : d < 8) (x l y s x7 z : Int32)  (h : post (fl, nI (p + 1), sc_nc (sc_fk 4 l y) fc, sc_nf (sc_fk 4 l y) (nI p) ff, sc_nl (sc_fk 4 l y) (nI p) fz, sc_nr 4 d l y R M, sc_nm 4 d l y R M, O, D, A, B, LT)) : wY_step_99 post (nI 4) (nI d) x l y s x7 z fl (nI p) fc ff fz R M O D A B LT := by
  have hk : sc_fk 4 l y = -1 := rfl
  have hr : sc_nr 4 d l y R M = upd R d (sc_res 4 l y M) := rfl
  rw [hk, sc_ncm, sc_nfm, sc_nlm, hr, sc_res4] at h
  by_cases hy : y ≤ l
  · rw [if_pos hy] at h
    (repeat (first | refine br_t (by decide +kernel) ?_ | refine br_f (by decide +kernel) ?_ | refine br_t (by assumption) ?_ | refine br_f (by assumption) ?_ | refine nm_r (nI_1 p) ?_ | refine nm_e ?_ | refine And.intro (by assumption) ?_))
    refine sc_ysr _ hd _ ?_
    (repeat (first | refine br_t (by decide +kernel) ?_ | refine br_f (by decide +kernel) ?_ | refine br_t (by assumption) ?_ | refine br_f (by assumption) ?_ | refine nm_r (nI_1 p) ?_ | refine nm_e ?_ | refine And.intro (by assumption) ?_))
    exact h
  · rw [if_neg hy] at h
    (repeat (first | refine br_t (by decide +kernel) ?_ | refine br_f (by decide +kernel) ?_ | refine br_t (by assumption) ?_ | refine br_f (by assumption) ?_ | refine nm_r (nI_1 p) ?_ | refine nm_e ?_ | refine And.intro (by assumption) ?_))
    refine sc_ysr _ hd _ ?_
    (repeat (first | refine br_t (by decide +kernel) ?_ | refine br_f (by decide +kernel) ?_ | refine br_t (by assumption) ?_ | refine br_f (by assumption) ?_ | refine nm_r (nI_1 p) ?_ | refine nm_e ?_ | refine And.intro (by assumption) ?_))
    exact h
theorem sc_y6 (post : SY → Prop) {p d : Nat} {fl fc ff fz : Int32} {R M O D A B LT : Nat → Int32} (hd : d < 8) (x l y s x7 z : Int32)  (h : post (fl, nI (p + 1), sc_nc (sc_fk 6 l y) fc, sc_nf (sc_fk 6 l y) (nI p) ff, sc_nl (sc_fk 6 l y) (nI p) fz, sc_nr 6 d l y R M, sc_nm 6 d l y R M, O, D, A, B, LT)) : wY_step_99 post (nI 6) (nI d) x l y s x7 z fl (nI p) fc ff fz R M O D A B LT := by
  have hr : sc_nr 6 d l y R M = upd R d (sc_res 6 l y M) := rfl
  rw [hr, sc_res6, sc_fk6] at h
  by_cases hy : y = 0
  · rw [if_pos hy, if_pos hy, sc_ncp (by decide +kernel), sc_nlp (by decide +kernel)] at h
    by_cases hf : ff = -1
    · rw [sc_nfp (by decide +kernel) hf] at h
      (repeat (first | refine br_t (by decide +kernel) ?_ | refine br_f (by decide +kernel) ?_ | refine br_t (by assumption) ?_ | refine br_f (by assumption) ?_ | refine nm_r (nI_1 p) ?_ | refine nm_e ?_ | refine And.intro (by assumption) ?_))
      refine sc_ysr _ hd _ ?_
      (repeat (first | refine br_t (by decide +kernel) ?_ | refine br_f (by decide +kernel) ?_ | refine br_t (by assumption) ?_ | refine br_f (by assumption) ?_ | refine nm_r (nI_1 p) ?_ | refine nm_e ?_ | refine And.intro (by assumption) ?_))
      exact h
    · rw [sc_nfq (by decide +kernel) hf] at h
      (repeat (first | refine br_t (by decide +kernel) ?_ | refine br_f (by decide +kernel) ?_ | refine br_t (by assumption) ?_ | refine br_f (by assumption) ?_ | refine nm_r (nI_1 p) ?_ | refine nm_e ?_ | refine And.intro (by assumption) ?_))
      refine sc_ysr _ hd _ ?_
      (repeat (first | refine br_t (by decide +kernel) ?_ | refine br_f (by decide +kernel) ?_ | refine br_t (by assumption) ?_ | refine br_f (by assumption) ?_ | refine nm_r (nI_1 p) ?_ | refine nm_e ?_ | refine And.intro (by assumption) ?_))
      exact h
  · rw [if_neg hy, if_neg hy, sc_ncm, sc_nfm, sc_nlm] at h
    (repeat (first | refine br_t (by decide +kernel) ?_ | refine br_f (by decide +kernel) ?_ | refine br_t (by assumption) ?_ | refine br_f (by assumption) ?_ | refine nm_r (nI_1 p) ?_ | refine nm_e ?_ | refine And.intro (by assumption) ?_))
    refine sc_ysr _ hd _ ?_
    (repeat (first | refine br_t (by decide +kernel) ?_ | refine br_f (by decide +kernel) ?_ | refine br_t (by assumption) ?_ | refine br_f (by assumption) ?_ | refine nm_r (nI_1 p) ?_ | refine nm_e ?_ | refine And.intro (by assumption) ?_))
    exact h
theorem sc_y7 (post : SY → Prop) {p d : Nat} {fl fc ff fz : Int32} {R M O D A B LT : Nat → Int32} (hd : d < 8) (x l y s x7 z : Int32)  (h : post (fl, nI (p + 1), sc_nc (sc_fk 7 l y) fc, sc_nf (sc_fk 7 l y) (nI p) ff, sc_nl (sc_fk 7 l y) (nI p) fz, sc_nr 7 d l y R M, sc_nm 7 d l y R M, O, D, A, B, LT)) : wY_step_99 post (nI 7) (nI d) x l y s x7 z fl (nI p) fc ff fz R M O D A B LT := by
  have hr : sc_nr 7 d l y R M = upd R d (sc_res 7 l y M) := rfl
  rw [hr, sc_res7, sc_fk7] at h
  by_cases hy : y = 0
  · rw [if_pos hy, if_pos hy, sc_ncp (by decide +kernel), sc_nlp (by decide +kernel)] at h
    by_cases hf : ff = -1
    · rw [sc_nfp (by decide +kernel) hf] at h
      (repeat (first | refine br_t (by decide +kernel) ?_ | refine br_f (by decide +kernel) ?_ | refine br_t (by assumption) ?_ | refine br_f (by assumption) ?_ | refine nm_r (nI_1 p) ?_ | refine nm_e ?_ | refine And.intro (by assumption) ?_))
      refine sc_ysr _ hd _ ?_
      (repeat (first | refine br_t (by decide +kernel) ?_ | refine br_f (by decide +kernel) ?_ | refine br_t (by assumption) ?_ | refine br_f (by assumption) ?_ | refine nm_r (nI_1 p) ?_ | refine nm_e ?_ | refine And.intro (by assumption) ?_))
      exact h
    · rw [sc_nfq (by decide +kernel) hf] at h
      (repeat (first | refine br_t (by decide +kernel) ?_ | refine br_f (by decide +kernel) ?_ | refine br_t (by assumption) ?_ | refine br_f (by assumption) ?_ | refine nm_r (nI_1 p) ?_ | refine nm_e ?_ | refine And.intro (by assumption) ?_))
      refine sc_ysr _ hd _ ?_
      (repeat (first | refine br_t (by decide +kernel) ?_ | refine br_f (by decide +kernel) ?_ | refine br_t (by assumption) ?_ | refine br_f (by assumption) ?_ | refine nm_r (nI_1 p) ?_ | refine nm_e ?_ | refine And.intro (by assumption) ?_))
      exact h
  · rw [if_neg hy, if_neg hy, sc_ncm, sc_nfm, sc_nlm] at h
    (repeat (first | refine br_t (by decide +kernel) ?_ | refine br_f (by decide +kernel) ?_ | refine br_t (by assumption) ?_ | refine br_f (by assumption) ?_ | refine nm_r (nI_1 p) ?_ | refine nm_e ?_ | refine And.intro (by assumption) ?_))
    refine sc_ysr _ hd _ ?_
    (repeat (first | refine br_t (by decide +kernel) ?_ | refine br_f (by decide +kernel) ?_ | refine br_t (by assumption) ?_ | refine br_f (by assumption) ?_ | refine nm_r (nI_1 p) ?_ | refine nm_e ?_ | refine And.intro (by assumption) ?_))
    exact h
theorem sc_y8o (post : SY → Prop) {p d : Nat} {fl fc ff fz : Int32} {R M O D A B LT : Nat → Int32} (hd : d < 8) (x l y s x7 z : Int32) (ho : l + x < 0 ∨ nI 32 ≤ l + x) (h : post (fl, nI (p + 1), sc_nc (sc_fk 8 l x) fc, sc_nf (sc_fk 8 l x) (nI p) ff, sc_nl (sc_fk 8 l x) (nI p) fz, sc_nr 8 d l x R M, sc_nm 8 d l x R M, O, D, A, B, LT)) : wY_step_99 post (nI 8) (nI d) x l y s (l + x) 0 fl (nI p) fc ff fz R M O D A B LT := by
  have hr : sc_nr 8 d l x R M = upd R d (sc_res 8 l x M) := rfl
  rw [hr, sc_res8o ho, sc_fk8o ho, sc_ncp (by decide +kernel), sc_nlp (by decide +kernel)] at h
  clear ho
  by_cases hf : ff = -1
  · rw [sc_nfp (by decide +kernel) hf] at h
    (repeat (first | refine br_t (by decide +kernel) ?_ | refine br_f (by decide +kernel) ?_ | refine br_t (by assumption) ?_ | refine br_f (by assumption) ?_ | refine nm_r (nI_1 p) ?_ | refine nm_e ?_ | refine And.intro (by assumption) ?_))
    refine sc_ysr _ hd _ ?_
    (repeat (first | refine br_t (by decide +kernel) ?_ | refine br_f (by decide +kernel) ?_ | refine br_t (by assumption) ?_ | refine br_f (by assumption) ?_ | refine nm_r (nI_1 p) ?_ | refine nm_e ?_ | refine And.intro (by assumption) ?_))
    exact h
  · rw [sc_nfq (by decide +kernel) hf] at h
    (repeat (first | refine br_t (by decide +kernel) ?_ | refine br_f (by decide +kernel) ?_ | refine br_t (by assumption) ?_ | refine br_f (by assumption) ?_ | refine nm_r (nI_1 p) ?_ | refine nm_e ?_ | refine And.intro (by assumption) ?_))
    refine sc_ysr _ hd _ ?_
    (repeat (first | refine br_t (by decide +kernel) ?_ | refine br_f (by decide +kernel) ?_ | refine br_t (by assumption) ?_ | refine br_f (by assumption) ?_ | refine nm_r (nI_1 p) ?_ | refine nm_e ?_ | refine And.intro (by assumption) ?_))
    exact h
theorem sc_y8i (post : SY → Prop) {p d : Nat} {fl fc ff fz : Int32} {R M O D A B LT : Nat → Int32} (hd : d < 8) (x l y s x7 z : Int32) {j : Nat} (hj : j < 32) (e : l + x = nI j) (h : post (fl, nI (p + 1), sc_nc (sc_fk 8 l x) fc, sc_nf (sc_fk 8 l x) (nI p) ff, sc_nl (sc_fk 8 l x) (nI p) fz, sc_nr 8 d l x R M, sc_nm 8 d l x R M, O, D, A, B, LT)) : wY_step_99 post (nI 8) (nI d) x l y s (l + x) 1 fl (nI p) fc ff fz R M O D A B LT := by
  have hr : sc_nr 8 d l x R M = upd R d (sc_res 8 l x M) := rfl
  have iv : vp_in (l + x) 32 := by rw [e]; exact vp_in_nI hj (by decide)
  rw [hr, sc_res8i hj e, sc_fk8i hj e, sc_ncm, sc_nfm, sc_nlm] at h
  (repeat (first | refine br_t (by decide +kernel) ?_ | refine br_f (by decide +kernel) ?_ | refine br_t (by assumption) ?_ | refine br_f (by assumption) ?_ | refine nm_r (nI_1 p) ?_ | refine nm_e ?_ | refine And.intro (by assumption) ?_))
  refine sc_ysr _ hd _ ?_
  (repeat (first | refine br_t (by decide +kernel) ?_ | refine br_f (by decide +kernel) ?_ | refine br_t (by assumption) ?_ | refine br_f (by assumption) ?_ | refine nm_r (nI_1 p) ?_ | refine nm_e ?_ | refine And.intro (by assumption) ?_))
  rw [e, nI_clamp (by omega)]
  exact h
theorem sc_y9o (post : SY → Prop) {p d : Nat} {fl fc ff fz : Int32} {R M O D A B LT : Nat → Int32} (hd : d < 8) (x l y s x7 z : Int32) (ho : l + x < 0 ∨ nI 32 ≤ l + x) (h : post (fl, nI (p + 1), sc_nc (sc_fk 9 l x) fc, sc_nf (sc_fk 9 l x) (nI p) ff, sc_nl (sc_fk 9 l x) (nI p) fz, sc_nr 9 d l x R M, sc_nm 9 d l x R M, O, D, A, B, LT)) : wY_step_99 post (nI 9) (nI d) x l y s (l + x) 0 fl (nI p) fc ff fz R M O D A B LT := by
  have hm : sc_nm 9 d l x R M = sc_st (l + x) (R d) M := rfl
  rw [hm, sc_sto ho, sc_fk9o ho, sc_ncp (by decide +kernel), sc_nlp (by decide +kernel)] at h
  clear ho
  by_cases hf : ff = -1
  · rw [sc_nfp (by decide +kernel) hf] at h
    (repeat (first | refine br_t (by decide +kernel) ?_ | refine br_f (by decide +kernel) ?_ | refine br_t (by assumption) ?_ | refine br_f (by assumption) ?_ | refine nm_r (nI_1 p) ?_ | refine nm_e ?_ | refine And.intro (by assumption) ?_))
    exact h
  · rw [sc_nfq (by decide +kernel) hf] at h
    (repeat (first | refine br_t (by decide +kernel) ?_ | refine br_f (by decide +kernel) ?_ | refine br_t (by assumption) ?_ | refine br_f (by assumption) ?_ | refine nm_r (nI_1 p) ?_ | refine nm_e ?_ | refine And.intro (by assumption) ?_))
    exact h
theorem sc_y9i (post : SY → Prop) {p d : Nat} {fl fc ff fz : Int32} {R M O D A B LT : Nat → Int32} (hd : d < 8) (x l y s x7 z : Int32) {j : Nat} (hj : j < 32) (e : l + x = nI j) (h : post (fl, nI (p + 1), sc_nc (sc_fk 9 l x) fc, sc_nf (sc_fk 9 l x) (nI p) ff, sc_nl (sc_fk 9 l x) (nI p) fz, sc_nr 9 d l x R M, sc_nm 9 d l x R M, O, D, A, B, LT)) : wY_step_99 post (nI 9) (nI d) x l y (R d) (l + x) 1 fl (nI p) fc ff fz R M O D A B LT := by
  have hm : sc_nm 9 d l x R M = sc_st (l + x) (R d) M := rfl
  have iv : vp_in (l + x) 32 := by rw [e]; exact vp_in_nI hj (by decide)
  rw [hm, sc_fk9i hj e, sc_ncm, sc_nfm, sc_nlm, e, sc_sti hj] at h
  (repeat (first | refine br_t (by decide +kernel) ?_ | refine br_f (by decide +kernel) ?_ | refine br_t (by assumption) ?_ | refine br_f (by assumption) ?_ | refine nm_r (nI_1 p) ?_ | refine nm_e ?_ | refine And.intro (by assumption) ?_))
  rw [e, nI_clamp (by omega)]
  exact h
theorem sc_yb10T (post : SY → Prop) {p d : Nat} {fl fc ff fz : Int32} {R M O D A B LT : Nat → Int32} (x l y s x7 z : Int32) (hc : l = y) (h : post (fl, nI d, fc, ff, fz, R, M, O, D, A, B, LT)) : wY_step_99 post (nI 10) (nI d) x l y s x7 z fl (nI p) fc ff fz R M O D A B LT := by
  (repeat (first | refine br_t (by decide +kernel) ?_ | refine br_f (by decide +kernel) ?_ | refine br_t (by assumption) ?_ | refine br_f (by assumption) ?_ | refine nm_r (nI_1 p) ?_ | refine nm_e ?_ | refine And.intro (by assumption) ?_))
  exact h
theorem sc_yb10F (post : SY → Prop) {p d : Nat} {fl fc ff fz : Int32} {R M O D A B LT : Nat → Int32} (x l y s x7 z : Int32) (hc : ¬ l = y) (h : post (fl, nI (p + 1), fc, ff, fz, R, M, O, D, A, B, LT)) : wY_step_99 post (nI 10) (nI d) x l y s x7 z fl (nI p) fc ff fz R M O D A B LT := by
  (repeat (first | refine br_t (by decide +kernel) ?_ | refine br_f (by decide +kernel) ?_ | refine br_t (by assumption) ?_ | refine br_f (by assumption) ?_ | refine nm_r (nI_1 p) ?_ | refine nm_e ?_ | refine And.intro (by assumption) ?_))
  exact h
theorem sc_yb11T (post : SY → Prop) {p d : Nat} {fl fc ff fz : Int32} {R M O D A B LT : Nat → Int32} (x l y s x7 z : Int32) (hc : ¬ l = y) (h : post (fl, nI d, fc, ff, fz, R, M, O, D, A, B, LT)) : wY_step_99 post (nI 11) (nI d) x l y s x7 z fl (nI p) fc ff fz R M O D A B LT := by
  (repeat (first | refine br_t (by decide +kernel) ?_ | refine br_f (by decide +kernel) ?_ | refine br_t (by assumption) ?_ | refine br_f (by assumption) ?_ | refine nm_r (nI_1 p) ?_ | refine nm_e ?_ | refine And.intro (by assumption) ?_))
  exact h
theorem sc_yb11F (post : SY → Prop) {p d : Nat} {fl fc ff fz : Int32} {R M O D A B LT : Nat → Int32} (x l y s x7 z : Int32) (hc : l = y) (h : post (fl, nI (p + 1), fc, ff, fz, R, M, O, D, A, B, LT)) : wY_step_99 post (nI 11) (nI d) x l y s x7 z fl (nI p) fc ff fz R M O D A B LT := by
  (repeat (first | refine br_t (by decide +kernel) ?_ | refine br_f (by decide +kernel) ?_ | refine br_t (by assumption) ?_ | refine br_f (by assumption) ?_ | refine nm_r (nI_1 p) ?_ | refine nm_e ?_ | refine And.intro (by assumption) ?_))
  exact h
theorem sc_yb12T (post : SY → Prop) {p d : Nat} {fl fc ff fz : Int32} {R M O D A B LT : Nat → Int32} (x l y s x7 z : Int32) (hc : ¬ y ≤ l) (h : post (fl, nI d, fc, ff, fz, R, M, O, D, A, B, LT)) : wY_step_99 post (nI 12) (nI d) x l y s x7 z fl (nI p) fc ff fz R M O D A B LT := by
  (repeat (first | refine br_t (by decide +kernel) ?_ | refine br_f (by decide +kernel) ?_ | refine br_t (by assumption) ?_ | refine br_f (by assumption) ?_ | refine nm_r (nI_1 p) ?_ | refine nm_e ?_ | refine And.intro (by assumption) ?_))
  exact h
theorem sc_yb12F (post : SY → Prop) {p d : Nat} {fl fc ff fz : Int32} {R M O D A B LT : Nat → Int32} (x l y s x7 z : Int32) (hc : y ≤ l) (h : post (fl, nI (p + 1), fc, ff, fz, R, M, O, D, A, B, LT)) : wY_step_99 post (nI 12) (nI d) x l y s x7 z fl (nI p) fc ff fz R M O D A B LT := by
  (repeat (first | refine br_t (by decide +kernel) ?_ | refine br_f (by decide +kernel) ?_ | refine br_t (by assumption) ?_ | refine br_f (by assumption) ?_ | refine nm_r (nI_1 p) ?_ | refine nm_e ?_ | refine And.intro (by assumption) ?_))
  exact h
theorem sc_yhead (post : SY → Prop) {p o a d : Nat} {fl fc ff fz : Int32} {R M O D A B LT : Nat → Int32} (hp : p < 32) (hc : sc_Cell O D A B p o a d) (h : ∀ y s : Int32, (¬ (o = 3 ∨ o = 8 ∨ o = 9) → y = R (B p).toNatClampNeg) → (o < 10 → s = R d) → ((R a + B p < 0 ∨ nI 32 ≤ R a + B p) → wY_step_99 post (nI o) (nI d) (B p) (R a) y s (R a + B p) 0 fl (nI p) fc ff fz R M O D A B LT) ∧ (∀ j : Nat, j < 32 → R a + B p = nI j → wY_step_99 post (nI o) (nI d) (B p) (R a) y s (R a + B p) 1 fl (nI p) fc ff fz R M O D A B LT)) : wpY_step post (fl, nI p, fc, ff, fz, R, M, O, D, A, B, LT) := by
  obtain ⟨hO, ho1, ho12, hA, ha, hD, hd, hd8, hB⟩ := hc
  have cp : (nI p).toNatClampNeg = p := nI_clamp (by omega)
  have ip : vp_in (nI p) 32 := vp_in_nI hp (by decide)
  unfold wpY_step
  try dsimp only
  refine br_f (nI_pos (by omega)) (br_t (nI_lt (b := 32) hp (by decide)) ⟨ip, nm_r (e' := nI o) (by rw [cp]; exact hO) ⟨ip, nm_r (e' := nI d) (by rw [cp]; exact hD) ⟨ip, nm_r (e' := B p) (by rw [cp]) ⟨ip, ?_⟩⟩⟩⟩)
  rw [cp, hA]
  refine sc_yr _ ha ?_
  refine sc_yrg _ (B p) (fun y hy => ?_)
  refine sc_yrg _ (nI d) (fun s hs => nm_e ?_)
  obtain ⟨k0, k1⟩ := h y s (fun z => by
    obtain ⟨b, hb, e⟩ := hB (by omega) (by omega) (by omega)
    rw [e, nI_clamp (by omega)]
    exact hy b hb e) (fun z => hs d (hd8 z) rfl)
  rcases pk_ix (R a + B p) (n := 32) (by decide) with z | z | ⟨j, hj, e⟩
  · exact br_t z (k0 (Or.inl z))
  · exact br_f (sc_big (by decide) z).1 (br_t z (k0 (Or.inr z)))
  · exact br_f (by rw [e]; exact nI_pos (by omega)) (br_f (by rw [e]; exact sc_g32 hj) (k1 j hj e))
theorem sc_ystepN (post : SY → Prop) {p o a d : Nat} {fl fc ff fz : Int32} {R M O D A B LT : Nat → Int32} (hp : p < 32) (hc : sc_Cell O D A B p o a d) (ho : o < 10) (h : post (fl, nI (p + 1), sc_nc (sc_fk o (R a) (sc_rt o (B p) R)) fc, sc_nf (sc_fk o (R a) (sc_rt o (B p) R)) (nI p) ff, sc_nl (sc_fk o (R a) (sc_rt o (B p) R)) (nI p) fz, sc_nr o d (R a) (sc_rt o (B p) R) R M, sc_nm o d (R a) (sc_rt o (B p) R) R M, O, D, A, B, LT)) : wpY_step post (fl, nI p, fc, ff, fz, R, M, O, D, A, B, LT) := by
  refine sc_yhead post hp hc (fun y s hy hs => ?_)
  obtain ⟨hO, ho1, ho12, hA, ha, hD, hd, hd8, hB⟩ := hc
  have hd' := hd8 ho
  rcases sc_nine ho1 (by omega) with rfl | rfl | rfl | rfl | rfl | rfl | rfl | rfl | rfl
  · have e : sc_rt 1 (B p) R = y := (if_neg (by decide)).trans (hy (by decide)).symm
    rw [e] at h
    exact ⟨fun _ => sc_y1 post hd' _ _ _ _ _ _ h, fun _ _ _ => sc_y1 post hd' _ _ _ _ _ _ h⟩
  · have e : sc_rt 2 (B p) R = y := (if_neg (by decide)).trans (hy (by decide)).symm
    rw [e] at h
    exact ⟨fun _ => sc_y2 post hd' _ _ _ _ _ _ h, fun _ _ _ => sc_y2 post hd' _ _ _ _ _ _ h⟩
  · have e : sc_rt 3 (B p) R = B p := if_pos (by decide)
    rw [e] at h
    exact ⟨fun _ => sc_y3 post hd' _ _ _ _ _ _ h, fun _ _ _ => sc_y3 post hd' _ _ _ _ _ _ h⟩
  · have e : sc_rt 4 (B p) R = y := (if_neg (by decide)).trans (hy (by decide)).symm
    rw [e] at h
    exact ⟨fun _ => sc_y4 post hd' _ _ _ _ _ _ h, fun _ _ _ => sc_y4 post hd' _ _ _ _ _ _ h⟩
  · have e : sc_rt 5 (B p) R = y := (if_neg (by decide)).trans (hy (by decide)).symm
    rw [e] at h
    exact ⟨fun _ => sc_y5 post hd' _ _ _ _ _ _ h, fun _ _ _ => sc_y5 post hd' _ _ _ _ _ _ h⟩
  · have e : sc_rt 6 (B p) R = y := (if_neg (by decide)).trans (hy (by decide)).symm
    rw [e] at h
    exact ⟨fun _ => sc_y6 post hd' _ _ _ _ _ _ h, fun _ _ _ => sc_y6 post hd' _ _ _ _ _ _ h⟩
  · have e : sc_rt 7 (B p) R = y := (if_neg (by decide)).trans (hy (by decide)).symm
    rw [e] at h
    exact ⟨fun _ => sc_y7 post hd' _ _ _ _ _ _ h, fun _ _ _ => sc_y7 post hd' _ _ _ _ _ _ h⟩
  · have e : sc_rt 8 (B p) R = B p := if_pos (by decide)
    rw [e] at h
    exact ⟨fun z => sc_y8o post hd' _ _ y s (R a + B p) 0 z h, fun j hj z => sc_y8i post hd' _ _ y s (R a + B p) 1 hj z h⟩
  · have e : sc_rt 9 (B p) R = B p := if_pos (by decide)
    rw [e] at h
    have es := hs (by decide)
    subst es
    exact ⟨fun z => sc_y9o post hd' _ _ y (R d) (R a + B p) 0 z h, fun j hj z => sc_y9i post hd' _ _ y (R d) (R a + B p) 1 hj z h⟩
theorem sc_ystepT (post : SY → Prop) {p o a d : Nat} {fl fc ff fz : Int32} {R M O D A B LT : Nat → Int32} (hp : p < 32) (hc : sc_Cell O D A B p o a d) (ho : 10 ≤ o) (ht : sc_tk o (R a) (sc_rt o (B p) R)) (h : post (fl, nI d, fc, ff, fz, R, M, O, D, A, B, LT)) : wpY_step post (fl, nI p, fc, ff, fz, R, M, O, D, A, B, LT) := by
  refine sc_yhead post hp hc (fun y s hy hs => ?_)
  obtain ⟨hO, ho1, ho12, hA, ha, hD, hd, hd8, hB⟩ := hc
  rcases sc_three ho ho12 with rfl | rfl | rfl
  · have e : sc_rt 10 (B p) R = y := (if_neg (by decide)).trans (hy (by decide)).symm
    have e2 : sc_tk 10 (R a) y = (R a = y) := rfl
    rw [e, e2] at ht
    exact ⟨fun _ => sc_yb10T post _ _ _ _ _ _ (ht) h, fun _ _ _ => sc_yb10T post _ _ _ _ _ _ (ht) h⟩
  · have e : sc_rt 11 (B p) R = y := (if_neg (by decide)).trans (hy (by decide)).symm
    have e2 : sc_tk 11 (R a) y = (¬ R a = y) := rfl
    rw [e, e2] at ht
    exact ⟨fun _ => sc_yb11T post _ _ _ _ _ _ (ht) h, fun _ _ _ => sc_yb11T post _ _ _ _ _ _ (ht) h⟩
  · have e : sc_rt 12 (B p) R = y := (if_neg (by decide)).trans (hy (by decide)).symm
    have e2 : sc_tk 12 (R a) y = (¬ y ≤ R a) := rfl
    rw [e, e2] at ht
    exact ⟨fun _ => sc_yb12T post _ _ _ _ _ _ (ht) h, fun _ _ _ => sc_yb12T post _ _ _ _ _ _ (ht) h⟩
theorem sc_ystepF (post : SY → Prop) {p o a d : Nat} {fl fc ff fz : Int32} {R M O D A B LT : Nat → Int32} (hp : p < 32) (hc : sc_Cell O D A B p o a d) (ho : 10 ≤ o) (ht : ¬ sc_tk o (R a) (sc_rt o (B p) R)) (h : post (fl, nI (p + 1), fc, ff, fz, R, M, O, D, A, B, LT)) : wpY_step post (fl, nI p, fc, ff, fz, R, M, O, D, A, B, LT) := by
  refine sc_yhead post hp hc (fun y s hy hs => ?_)
  obtain ⟨hO, ho1, ho12, hA, ha, hD, hd, hd8, hB⟩ := hc
  rcases sc_three ho ho12 with rfl | rfl | rfl
  · have e : sc_rt 10 (B p) R = y := (if_neg (by decide)).trans (hy (by decide)).symm
    have e2 : sc_tk 10 (R a) y = (R a = y) := rfl
    rw [e, e2] at ht
    exact ⟨fun _ => sc_yb10F post _ _ _ _ _ _ (ht) h, fun _ _ _ => sc_yb10F post _ _ _ _ _ _ (ht) h⟩
  · have e : sc_rt 11 (B p) R = y := (if_neg (by decide)).trans (hy (by decide)).symm
    have e2 : sc_tk 11 (R a) y = (¬ R a = y) := rfl
    rw [e, e2] at ht
    exact ⟨fun _ => sc_yb11F post _ _ _ _ _ _ (Classical.not_not.mp ht) h, fun _ _ _ => sc_yb11F post _ _ _ _ _ _ (Classical.not_not.mp ht) h⟩
  · have e : sc_rt 12 (B p) R = y := (if_neg (by decide)).trans (hy (by decide)).symm
    have e2 : sc_tk 12 (R a) y = (¬ y ≤ R a) := rfl
    rw [e, e2] at ht
    exact ⟨fun _ => sc_yb12F post _ _ _ _ _ _ (Classical.not_not.mp ht) h, fun _ _ _ => sc_yb12F post _ _ _ _ _ _ (Classical.not_not.mp ht) h⟩
end
section
/-! the relation, the constructors, the methods of one field -/
def sc_Lat (LT : Nat → Int32) : Prop := ∀ u, u < 4 → ∃ c : Nat, 1 ≤ c ∧ c ≤ 8 ∧ LT u = nI c
/-- the same program, registers, memory, latencies, counters; no unit at work and no register awaited -/
def i_Rel (k : Nat) (u : SX) (v : SY) : Prop :=
  ∃ (n p : Nat) (fc ff fz : Int32) (R M LT O D A B AW CL UC UL UR US : Nat → Int32), u = (nI n, nI p, fc, ff, fz, R, M, LT, O, D, A, B, AW, CL, UC, UL, UR, US) ∧ v = (nI n, nI p, fc, ff, fz, R, M, O, D, A, B, LT) ∧ n ≤ 32 ∧ p ≤ 32 ∧ sc_Lat LT ∧ sc_Wf n O D A B ∧ (∀ x, AW x = 0) ∧ (∀ u, u < 4 → CL u = 0)
theorem sc_mk {k n p : Nat} {fc ff fz : Int32} {R M LT O D A B AW CL UC UL UR US : Nat → Int32} (hn : n ≤ 32) (hp : p ≤ 32) (hL : sc_Lat LT) (hW : sc_Wf n O D A B) (hA : ∀ x, AW x = 0) (hC : ∀ u, u < 4 → CL u = 0) : i_Rel k (nI n, nI p, fc, ff, fz, R, M, LT, O, D, A, B, AW, CL, UC, UL, UR, US) (nI n, nI p, fc, ff, fz, R, M, O, D, A, B, LT) :=
  ⟨n, p, fc, ff, fz, R, M, LT, O, D, A, B, AW, CL, UC, UL, UR, US, rfl, rfl, hn, hp, hL, hW, hA, hC⟩
theorem i_up {k : Nat} {u : SX} {v : SY} (h : i_Rel k u v) : i_Rel (k + 5) u v := h
theorem sc_latU {LT : Nat → Int32} (h : sc_Lat LT) (k : Nat) (x : Int32) : sc_Lat (upd LT k (sc_cl x)) := by
  intro u hu
  by_cases e : u = k
  · rw [e, pk_us]
    exact sc_clin x
  · rw [pk_un e]
    exact h u hu
theorem sc_ysl (post : Int32 → SY → Prop) {fl fp fc ff fz : Int32} {R M O D A B LT : Nat → Int32} (j : Nat) (hj : j < 4) (x : Int32) (h : post 0 (fl, fp, fc, ff, fz, R, M, O, D, A, B, upd LT j (sc_cl x))) : wpY_setLatency post (fl, fp, fc, ff, fz, R, M, O, D, A, B, LT) (nI j) x := by
  have cj : (nI j).toNatClampNeg = j := nI_clamp (by omega)
  have ij : vp_in (nI j) 4 := vp_in_nI hj (by decide)
  refine br_f (nI_pos (by omega)) (br_t (nI_lt (b := 4) hj (by decide)) ⟨ij, nm_r (e' := upd LT j x) (by rw [cj]) ?_⟩)
  unfold sc_cl at h
  by_cases h1 : 1 ≤ x
  · rw [if_pos h1] at h
    refine br_t h1 ?_
    by_cases h8 : x ≤ 8
    · rw [if_pos h8] at h
      exact br_t h8 h
    · rw [if_neg h8] at h
      exact br_f h8 ⟨ij, nm_r (e' := upd LT j 8) (by rw [cj, sc_uu]) h⟩
  · rw [if_neg h1] at h
    have h8 : x ≤ 8 := by
      rw [Int32.le_iff_toInt_le] at h1 ⊢
      have e1 : (1 : Int32).toInt = 1 := by decide +kernel
      have e8 : (8 : Int32).toInt = 8 := by decide +kernel
      omega
    exact br_f h1 ⟨ij, nm_r (e' := upd LT j 1) (by rw [cj, sc_uu]) (br_t h8 h)⟩
theorem i_vc0 (k0 : Int32) (k1 : Int32) (k2 : Int32) (k3 : Int32) : wpX_init (fun u => wpY_init (fun v => i_Rel 4 u v) k0 k1 k2 k3) k0 k1 k2 k3 := by
  unfold wpX_init
  refine sc_clamp _ k0 (nm_e ?_)
  refine sc_clamp _ k1 (nm_e ?_)
  refine sc_clamp _ k2 (nm_e ?_)
  refine sc_clamp _ k3 (nm_e ?_)
  unfold wpY_init
  refine sc_ysl _ 0 (by decide) k0 ?_
  refine sc_ysl _ 1 (by decide) k1 ?_
  refine sc_ysl _ 2 (by decide) k2 ?_
  refine sc_ysl _ 3 (by decide) k3 ?_
  refine sc_mk (n := 0) (p := 0) (by decide) (by decide) ?_ (fun j hj => absurd hj (Nat.not_lt_zero j)) (fun _ => rfl) (fun _ _ => rfl)
  intro u hu
  by_cases e3 : u = 3
  · rw [e3, pk_us]
    exact sc_clin k3
  · rw [pk_un e3]
    by_cases e2 : u = 2
    · rw [e2, pk_us]
      exact sc_clin k2
    · rw [pk_un e2]
      by_cases e1 : u = 1
      · rw [e1, pk_us]
        exact sc_clin k1
      · rw [pk_un e1]
        have e0 : u = 0 := by omega
        rw [e0, pk_us]
        exact sc_clin k0
theorem i_vc_setLatency {k : Nat} {u : SX} {v : SY} (I : i_Rel k u v) (hk : k + 5 ≤ 2564) (v1 : Int32) (v2 : Int32) : wpX_setLatency (fun r u' => wpY_setLatency (fun r' v' => r' = r ∧ i_Rel (k + 5) u' v') v v1 v2) u v1 v2 := by
  obtain ⟨n, p, fc, ff, fz, R, M, LT, O, D, A, B, AW, CL, UC, UL, UR, US, rfl, rfl, hn, hp, hL, hW, hA, hC⟩ := I
  unfold wpX_setLatency
  try dsimp only
  refine sc_below _ v1 4 (by decide) (fun z => br_t rfl ?_) (fun j hj e => br_f sc_10 ?_)
  · rcases z with z | z
    · exact br_t z ⟨rfl, sc_mk hn hp hL hW hA hC⟩
    · exact br_f (sc_big (by decide) z).1 (br_f (sc_big (by decide) z).2 ⟨rfl, sc_mk hn hp hL hW hA hC⟩)
  · subst e
    refine sc_clamp _ v2 ⟨vp_in_nI hj (by decide), nm_r (e' := upd LT j (sc_cl v2)) (by rw [nI_clamp (by omega)]) ?_⟩
    exact sc_ysl _ j hj v2 ⟨rfl, sc_mk hn hp (sc_latU hL j v2) hW hA hC⟩
theorem i_vc_latency {k : Nat} {u : SX} {v : SY} (I : i_Rel k u v) (hk : k + 5 ≤ 2564) (v1 : Int32) : wpX_latency (fun r => wpY_latency (fun r' => r' = r ∧ i_Rel (k + 5) u v) v v1) u v1 := by
  have I' : i_Rel (k + 5) u v := I
  obtain ⟨n, p, fc, ff, fz, R, M, LT, O, D, A, B, AW, CL, UC, UL, UR, US, rfl, rfl, hn, hp, hL, hW, hA, hC⟩ := I
  unfold wpX_latency
  try dsimp only
  refine sc_below _ v1 4 (by decide) (fun z => br_t rfl ?_) (fun j hj e => br_f sc_10 ?_)
  · rcases z with z | z
    · exact br_t z ⟨rfl, I'⟩
    · exact br_f (sc_big (by decide) z).1 (br_f (sc_big (by decide) z).2 ⟨rfl, I'⟩)
  · subst e
    have ij : vp_in (nI j) 4 := vp_in_nI hj (by decide)
    exact ⟨ij, br_f (nI_pos (by omega)) (br_t (nI_lt (b := 4) hj (by decide)) ⟨ij, rfl, I'⟩)⟩
theorem i_vc_register {k : Nat} {u : SX} {v : SY} (I : i_Rel k u v) (hk : k + 5 ≤ 2564) (v1 : Int32) : wpX_register (fun r => wpY_register (fun r' => r' = r ∧ i_Rel (k + 5) u v) v v1) u v1 := by
  have I' : i_Rel (k + 5) u v := I
  obtain ⟨n, p, fc, ff, fz, R, M, LT, O, D, A, B, AW, CL, UC, UL, UR, US, rfl, rfl, hn, hp, hL, hW, hA, hC⟩ := I
  unfold wpX_register
  try dsimp only
  refine sc_below _ v1 8 (by decide) (fun z => br_t rfl ?_) (fun j hj e => br_f sc_10 ?_)
  · rcases z with z | z
    · exact br_t z ⟨rfl, I'⟩
    · exact br_f (sc_big (by decide) z).1 (br_f (sc_big (by decide) z).2 ⟨rfl, I'⟩)
  · subst e
    have ij : vp_in (nI j) 8 := vp_in_nI hj (by decide)
    exact ⟨ij, br_f (nI_pos (by omega)) (br_t (nI_lt (b := 8) hj (by decide)) ⟨ij, rfl, I'⟩)⟩
theorem i_vc_memory {k : Nat} {u : SX} {v : SY} (I : i_Rel k u v) (hk : k + 5 ≤ 2564) (v1 : Int32) : wpX_memory (fun r => wpY_memory (fun r' => r' = r ∧ i_Rel (k + 5) u v) v v1) u v1 := by
  have I' : i_Rel (k + 5) u v := I
  obtain ⟨n, p, fc, ff, fz, R, M, LT, O, D, A, B, AW, CL, UC, UL, UR, US, rfl, rfl, hn, hp, hL, hW, hA, hC⟩ := I
  unfold wpX_memory
  try dsimp only
  refine sc_below _ v1 32 (by decide) (fun z => br_t rfl ?_) (fun j hj e => br_f sc_10 ?_)
  · rcases z with z | z
    · exact br_t z ⟨rfl, I'⟩
    · exact br_f (sc_big (by decide) z).1 (br_f (sc_big (by decide) z).2 ⟨rfl, I'⟩)
  · subst e
    have ij : vp_in (nI j) 32 := vp_in_nI hj (by decide)
    exact ⟨ij, br_f (nI_pos (by omega)) (br_t (nI_lt (b := 32) hj (by decide)) ⟨ij, rfl, I'⟩)⟩
theorem i_vc_setRegister {k : Nat} {u : SX} {v : SY} (I : i_Rel k u v) (hk : k + 5 ≤ 2564) (v1 : Int32) (v2 : Int32) : wpX_setRegister (fun r u' => wpY_setRegister (fun r' v' => r' = r ∧ i_Rel (k + 5) u' v') v v1 v2) u v1 v2 := by
  obtain ⟨n, p, fc, ff, fz, R, M, LT, O, D, A, B, AW, CL, UC, UL, UR, US, rfl, rfl, hn, hp, hL, hW, hA, hC⟩ := I
  unfold wpX_setRegister
  try dsimp only
  refine sc_below _ v1 8 (by decide) (fun z => br_t rfl ?_) (fun j hj e => br_f sc_10 ?_)
  · rcases z with z | z
    · exact br_t z ⟨rfl, sc_mk hn hp hL hW hA hC⟩
    · exact br_f (sc_big (by decide) z).1 (br_f (sc_big (by decide) z).2 ⟨rfl, sc_mk hn hp hL hW hA hC⟩)
  · subst e
    have ij : vp_in (nI j) 8 := vp_in_nI hj (by decide)
    exact ⟨ij, nm_e (br_f (nI_pos (by omega)) (br_t (nI_lt (b := 8) hj (by decide)) ⟨ij, nm_e ⟨rfl, sc_mk hn hp hL hW hA hC⟩⟩))⟩
theorem i_vc_setMemory {k : Nat} {u : SX} {v : SY} (I : i_Rel k u v) (hk : k + 5 ≤ 2564) (v1 : Int32) (v2 : Int32) : wpX_setMemory (fun r u' => wpY_setMemory (fun r' v' => r' = r ∧ i_Rel (k + 5) u' v') v v1 v2) u v1 v2 := by
  obtain ⟨n, p, fc, ff, fz, R, M, LT, O, D, A, B, AW, CL, UC, UL, UR, US, rfl, rfl, hn, hp, hL, hW, hA, hC⟩ := I
  unfold wpX_setMemory
  try dsimp only
  refine sc_below _ v1 32 (by decide) (fun z => br_t rfl ?_) (fun j hj e => br_f sc_10 ?_)
  · rcases z with z | z
    · exact br_t z ⟨rfl, sc_mk hn hp hL hW hA hC⟩
    · exact br_f (sc_big (by decide) z).1 (br_f (sc_big (by decide) z).2 ⟨rfl, sc_mk hn hp hL hW hA hC⟩)
  · subst e
    have ij : vp_in (nI j) 32 := vp_in_nI hj (by decide)
    exact ⟨ij, nm_e (br_f (nI_pos (by omega)) (br_t (nI_lt (b := 32) hj (by decide)) ⟨ij, nm_e ⟨rfl, sc_mk hn hp hL hW hA hC⟩⟩))⟩
theorem i_vc_jump {k : Nat} {u : SX} {v : SY} (I : i_Rel k u v) (hk : k + 5 ≤ 2564) (v1 : Int32) : wpX_jump (fun r u' => wpY_jump (fun r' v' => r' = r ∧ i_Rel (k + 5) u' v') v v1) u v1 := by
  obtain ⟨n, p, fc, ff, fz, R, M, LT, O, D, A, B, AW, CL, UC, UL, UR, US, rfl, rfl, hn, hp, hL, hW, hA, hC⟩ := I
  unfold wpX_jump
  try dsimp only
  refine sc_below _ v1 32 (by decide) (fun z => br_t rfl ?_) (fun j hj e => br_f sc_10 ?_)
  · rcases z with z | z
    · exact br_t z ⟨rfl, sc_mk hn hp hL hW hA hC⟩
    · exact br_f (sc_big (by decide) z).1 (br_f (sc_big (by decide) z).2 ⟨rfl, sc_mk hn hp hL hW hA hC⟩)
  · subst e
    exact br_f (nI_pos (by omega)) (br_t (nI_lt (b := 32) hj (by decide)) ⟨rfl, sc_mk hn (by omega) hL hW hA hC⟩)
theorem i_vc_length {k : Nat} {u : SX} {v : SY} (I : i_Rel k u v) (hk : k + 5 ≤ 2564) : wpX_length (fun r => wpY_length (fun r' => r' = r ∧ i_Rel (k + 5) u v) v) u := by
  have I' : i_Rel (k + 5) u v := I
  obtain ⟨n, p, fc, ff, fz, R, M, LT, O, D, A, B, AW, CL, UC, UL, UR, US, rfl, rfl, hn, hp, hL, hW, hA, hC⟩ := I
  exact ⟨rfl, I'⟩
theorem i_vc_pc {k : Nat} {u : SX} {v : SY} (I : i_Rel k u v) (hk : k + 5 ≤ 2564) : wpX_pc (fun r => wpY_pc (fun r' => r' = r ∧ i_Rel (k + 5) u v) v) u := by
  have I' : i_Rel (k + 5) u v := I
  obtain ⟨n, p, fc, ff, fz, R, M, LT, O, D, A, B, AW, CL, UC, UL, UR, US, rfl, rfl, hn, hp, hL, hW, hA, hC⟩ := I
  exact ⟨rfl, I'⟩
theorem i_vc_faultCount {k : Nat} {u : SX} {v : SY} (I : i_Rel k u v) (hk : k + 5 ≤ 2564) : wpX_faultCount (fun r => wpY_faultCount (fun r' => r' = r ∧ i_Rel (k + 5) u v) v) u := by
  have I' : i_Rel (k + 5) u v := I
  obtain ⟨n, p, fc, ff, fz, R, M, LT, O, D, A, B, AW, CL, UC, UL, UR, US, rfl, rfl, hn, hp, hL, hW, hA, hC⟩ := I
  exact ⟨rfl, I'⟩
theorem i_vc_firstFault {k : Nat} {u : SX} {v : SY} (I : i_Rel k u v) (hk : k + 5 ≤ 2564) : wpX_firstFault (fun r => wpY_firstFault (fun r' => r' = r ∧ i_Rel (k + 5) u v) v) u := by
  have I' : i_Rel (k + 5) u v := I
  obtain ⟨n, p, fc, ff, fz, R, M, LT, O, D, A, B, AW, CL, UC, UL, UR, US, rfl, rfl, hn, hp, hL, hW, hA, hC⟩ := I
  exact ⟨rfl, I'⟩
theorem i_vc_lastFault {k : Nat} {u : SX} {v : SY} (I : i_Rel k u v) (hk : k + 5 ≤ 2564) : wpX_lastFault (fun r => wpY_lastFault (fun r' => r' = r ∧ i_Rel (k + 5) u v) v) u := by
  have I' : i_Rel (k + 5) u v := I
  obtain ⟨n, p, fc, ff, fz, R, M, LT, O, D, A, B, AW, CL, UC, UL, UR, US, rfl, rfl, hn, hp, hL, hW, hA, hC⟩ := I
  exact ⟨rfl, I'⟩
theorem i_vc_stopped {k : Nat} {u : SX} {v : SY} (I : i_Rel k u v) (hk : k + 5 ≤ 2564) : wpX_stopped (fun r => wpY_stopped (fun r' => r' = r ∧ i_Rel (k + 5) u v) v) u := by
  have I' : i_Rel (k + 5) u v := I
  obtain ⟨n, p, fc, ff, fz, R, M, LT, O, D, A, B, AW, CL, UC, UL, UR, US, rfl, rfl, hn, hp, hL, hW, hA, hC⟩ := I
  by_cases h : n ≤ p ∨ O p = 0
  · exact sc_xs1 _ hn hp h (sc_ys1 _ hn hp h ⟨rfl, I'⟩)
  · have h1 : p < n := by
      have : ¬ n ≤ p := fun z => h (Or.inl z)
      omega
    have h2 : ¬ O p = 0 := fun z => h (Or.inr z)
    exact sc_xs0 _ hn h1 h2 (sc_ys0 _ hn h1 h2 ⟨rfl, I'⟩)
theorem i_vc_reset {k : Nat} {u : SX} {v : SY} (I : i_Rel k u v) (hk : k + 5 ≤ 2564) : wpX_reset (fun u' => wpY_reset (fun v' => i_Rel (k + 5) u' v') v) u := by
  obtain ⟨n, p, fc, ff, fz, R, M, LT, O, D, A, B, AW, CL, UC, UL, UR, US, rfl, rfl, hn, hp, hL, hW, hA, hC⟩ := I
  exact sc_mk (k := k + 5) (n := 0) (p := 0) (by decide) (by decide) hL (fun j hj => absurd hj (Nat.not_lt_zero j)) hA hC
end
section
/-! emit -/
/-- what may stand in a cell -/
def sc_Ok (o : Nat) (d a b : Int32) : Prop := o = 0 ∨ (o ≤ 12 ∧ vp_in a 8 ∧ (o < 10 → vp_in d 8) ∧ vp_in d 32 ∧ (¬ (o = 3 ∨ o = 8 ∨ o = 9) → vp_in b 8))
theorem sc_vin {x : Int32} {N : Nat} (hN : N < 2 ^ 31) (h : nI N ≤ x) : ¬ vp_in x N := by
  intro z
  obtain ⟨j, hj, e⟩ := vp_in_of z hN
  rw [e] at h
  exact nI_ge hj hN h
theorem sc_belowV (post : Int32 → Prop) (x : Int32) (N : Nat) (hN : N < 2 ^ 31) (h1 : vp_in x N → post 1) (h0 : ¬ vp_in x N → post 0) : wpX_isBelow post x (nI N) :=
  sc_below post x N hN (fun z => h0 (by
    rcases z with z | z
    · exact fun y => y (Or.inl z)
    · exact sc_vin hN z)) (fun j hj e => h1 (by rw [e]; exact vp_in_nI hj hN))
theorem sc_v832 {x : Int32} (h : vp_in x 8) : vp_in x 32 := by
  rw [vp_in_iff] at h ⊢
  omega
theorem sc_i45 (post : Int32 → Prop) (o : Nat) (ho : o ≤ 12) (d a b : Int32) (ha : vp_in a 8) (hb : ¬ (o = 3 ∨ o = 8 ∨ o = 9) → vp_in b 8) (e0 : o ≠ 0) (h1 : sc_Ok o d a b → post 1) (h0 : ¬ sc_Ok o d a b → post 0) : wX_isInstruction_45 post (nI o) d := by
  refine sc_ibr _ o ho (fun h => br_t rfl (sc_belowV _ d 8 (by decide) (fun z => ⟨sc_nb1, h1 ?_⟩) (fun z => ⟨sc_nb0, h0 ?_⟩))) (fun h => br_f sc_10 (sc_belowV _ d 32 (by decide) (fun z => ⟨sc_nb1, h1 ?_⟩) (fun z => ⟨sc_nb0, h0 ?_⟩)))
  · exact Or.inr ⟨ho, ha, fun _ => z, sc_v832 z, hb⟩
  · intro y
    rcases y with y | ⟨_, _, y, _⟩
    · exact e0 y
    · exact z (y h)
  · exact Or.inr ⟨ho, ha, fun y => absurd y (by omega), z, hb⟩
  · intro y
    rcases y with y | ⟨_, _, _, y, _⟩
    · exact e0 y
    · exact z y
theorem sc_isI (post : Int32 → Prop) (j : Nat) (hj : j < 2 ^ 31) (d a b : Int32) (h1 : sc_Ok j d a b → post 1) (h0 : ¬ sc_Ok j d a b → post 0) : wpX_isInstruction post (nI j) d a b := by
  refine pk_eq j 0 (fun e => h1 (Or.inl e)) (fun e0 => br_f (nI_pos hj) (pk_lt 12 j (fun e => h0 ?_) (fun e12 => ?_)))
  · intro y
    rcases y with y | ⟨y, _⟩ <;> omega
  · refine sc_belowV _ a 8 (by decide) (fun ha => br_f sc_10 ?_) (fun ha => br_t rfl (h0 ?_))
    · refine sc_nrb _ j e12 (fun z => br_t rfl ?_) (fun z => br_f sc_10 ?_)
      · exact sc_i45 post j e12 d a b ha (fun y => absurd z y) e0 h1 h0
      · refine sc_belowV _ b 8 (by decide) (fun hb => br_f sc_10 ?_) (fun hb => br_t rfl (h0 ?_))
        · exact sc_i45 post j e12 d a b ha (fun _ => hb) e0 h1 h0
        · intro y
          rcases y with y | ⟨_, _, _, _, y⟩
          · exact e0 y
          · exact hb (y z)
    · intro y
      rcases y with y | ⟨_, y, _⟩
      · exact e0 y
      · exact ha y
theorem sc_wfE {n j : Nat} {O D A B : Nat → Int32} {d a b : Int32} (hW : sc_Wf n O D A B) (hOk : sc_Ok j d a b) : sc_Wf (n + 1) (upd O n (nI j)) (upd D n d) (upd A n a) (upd B n b) := by
  intro q hq
  by_cases e : q = n
  · subst e
    by_cases z : j = 0
    · subst z
      exact Or.inl pk_us
    · rcases hOk with y | ⟨h12, ha, hd8, hd, hb⟩
      · exact absurd y z
      · obtain ⟨a', ha', rfl⟩ := vp_in_of ha (by decide)
        obtain ⟨d', hd', rfl⟩ := vp_in_of hd (by decide)
        refine Or.inr ⟨j, a', d', pk_us, by omega, h12, pk_us, ha', pk_us, hd', fun h => ?_, fun y3 y8 y9 => ?_⟩
        · obtain ⟨d2, h2, e2⟩ := vp_in_of (hd8 h) (by decide)
          rw [nI_eq (by omega) (by omega)] at e2
          omega
        · obtain ⟨b', hb', rfl⟩ := vp_in_of (hb (by omega)) (by decide)
          exact ⟨b', hb', pk_us⟩
  · rcases hW q (by omega) with z | ⟨o, a', d', c⟩
    · exact Or.inl (by rw [pk_un e]; exact z)
    · refine Or.inr ⟨o, a', d', ?_⟩
      unfold sc_Cell
      rw [pk_un e, pk_un e, pk_un e, pk_un e]
      exact c
theorem sc_neg {x : Int32} {N : Nat} (h : x < 0) : ¬ vp_in x N := fun y => y (Or.inl h)
theorem sc_pin {x : Int32} {N : Nat} (hN : N < 2 ^ 31) (h0 : ¬ x < 0) (h : x < nI N) : vp_in x N := by
  obtain ⟨j, hj, rfl⟩ := nI_of h0
  rw [nI_ltI hj hN] at h
  exact vp_in_nI h hN
theorem sc_nin {x : Int32} {N : Nat} (hN : N < 2 ^ 31) (h : ¬ x < nI N) : ¬ vp_in x N := by
  intro z
  obtain ⟨j, hj, rfl⟩ := vp_in_of z hN
  exact h (nI_lt hj hN)
theorem sc_ye119 (post : Int32 → SY → Prop) {fl fp fc ff fz : Int32} {R M O D A B LT : Nat → Int32} {j : Nat} {d a b z : Int32} (hz : (z = 0 ∧ ¬ (j = 3 ∨ j = 8 ∨ j = 9)) ∨ (¬ z = 0 ∧ (j = 3 ∨ j = 8 ∨ j = 9))) (h12 : j ≤ 12) (e0 : j ≠ 0) (ha : vp_in a 8) (hd8 : j < 10 → vp_in d 8) (hd : vp_in d 32) (hok : sc_Ok j d a b → wY_emit_138 post (nI j) d a b fl fp fc ff fz R M O D A B LT) (hno : ¬ sc_Ok j d a b → post (-1) (fl, fp, fc, ff, fz, R, M, O, D, A, B, LT)) : wY_emit_119 post (nI j) d a b z fl fp fc ff fz R M O D A B LT := by
  rcases hz with ⟨rfl, hz⟩ | ⟨z0, hz⟩
  · refine br_t rfl (br_c (fun h => hno (fun y => ?_)) (fun h => br_c (fun h8 => hok (Or.inr ⟨h12, ha, hd8, hd, fun _ => sc_pin (by decide) h h8⟩)) (fun h8 => hno (fun y => ?_))))
    · rcases y with y | ⟨_, _, _, _, y⟩
      · exact e0 y
      · exact sc_neg h (y hz)
    · rcases y with y | ⟨_, _, _, _, y⟩
      · exact e0 y
      · exact sc_nin (N := 8) (by decide) h8 (y hz)
  · exact br_f z0 (hok (Or.inr ⟨h12, ha, hd8, hd, fun y => absurd hz y⟩))
theorem sc_ye75 (post : Int32 → SY → Prop) {fl fp fc ff fz : Int32} {R M O D A B LT : Nat → Int32} {j : Nat} {d a b q z : Int32} (hq : (q = 0 ∧ j < 10) ∨ (¬ q = 0 ∧ 10 ≤ j)) (hz : (z = 0 ∧ ¬ (j = 3 ∨ j = 8 ∨ j = 9)) ∨ (¬ z = 0 ∧ (j = 3 ∨ j = 8 ∨ j = 9))) (h12 : j ≤ 12) (e0 : j ≠ 0) (hok : sc_Ok j d a b → wY_emit_138 post (nI j) d a b fl fp fc ff fz R M O D A B LT) (hno : ¬ sc_Ok j d a b → post (-1) (fl, fp, fc, ff, fz, R, M, O, D, A, B, LT)) : wY_emit_75 post (nI j) d a b q z fl fp fc ff fz R M O D A B LT := by
  refine br_c (fun h => hno (fun y => ?_)) (fun d0 => br_c (fun h => hno (fun y => ?_)) (fun a0 => br_c (fun a8 => ?_) (fun h => hno (fun y => ?_))))
  · rcases y with y | ⟨_, _, _, y, _⟩
    · exact e0 y
    · exact sc_neg h y
  · rcases y with y | ⟨_, y, _⟩
    · exact e0 y
    · exact sc_neg h y
  · have ha : vp_in a 8 := sc_pin (by decide) a0 a8
    rcases hq with ⟨rfl, hq⟩ | ⟨q0, hq⟩
    · refine br_t rfl (br_t rfl (br_c (fun d8 => ?_) (fun d8 => hno (fun y => ?_))))
      · have hd : vp_in d 8 := sc_pin (by decide) d0 d8
        exact sc_ye119 post hz h12 e0 ha (fun _ => hd) (sc_v832 hd) hok hno
      · rcases y with y | ⟨_, _, y, _⟩
        · exact e0 y
        · exact sc_nin (N := 8) (by decide) d8 (y hq)
    · refine br_f q0 (br_c (fun d32 => br_f q0 ?_) (fun d32 => hno (fun y => ?_)))
      · exact sc_ye119 post hz h12 e0 ha (fun y => absurd y (by omega)) (sc_pin (by decide) d0 d32) hok hno
      · rcases y with y | ⟨_, _, _, y, _⟩
        · exact e0 y
        · exact sc_nin (N := 32) (by decide) d32 y
  · rcases y with y | ⟨_, y, _⟩
    · exact e0 y
    · exact sc_nin (N := 8) (by decide) h y
theorem sc_ye51 (post : Int32 → SY → Prop) {fl fp fc ff fz : Int32} {R M O D A B LT : Nat → Int32} {j : Nat} {d a b q : Int32} (hq : (q = 0 ∧ j < 10) ∨ (¬ q = 0 ∧ 10 ≤ j)) (h12 : j ≤ 12) (e0 : j ≠ 0) (hok : sc_Ok j d a b → wY_emit_138 post (nI j) d a b fl fp fc ff fz R M O D A B LT) (hno : ¬ sc_Ok j d a b → post (-1) (fl, fp, fc, ff, fz, R, M, O, D, A, B, LT)) : wY_emit_51 post (nI j) d a b q fl fp fc ff fz R M O D A B LT := by
  refine pk_eq j 3 (fun e => ?_) (fun e3 => pk_eq j 8 (fun e => ?_) (fun e8 => pk_eq j 9 (fun e => ?_) (fun e9 => ?_)))
  · exact sc_ye75 post (z := 1) hq (Or.inr ⟨sc_10, by omega⟩) h12 e0 hok hno
  · exact sc_ye75 post (z := 1) hq (Or.inr ⟨sc_10, by omega⟩) h12 e0 hok hno
  · exact sc_ye75 post (z := 1) hq (Or.inr ⟨sc_10, by omega⟩) h12 e0 hok hno
  · exact sc_ye75 post (z := 0) hq (Or.inl ⟨rfl, by omega⟩) h12 e0 hok hno
theorem sc_yemit (post : Int32 → SY → Prop) {n j : Nat} {fp fc ff fz : Int32} {R M O D A B LT : Nat → Int32} {d a b : Int32} (hn : n < 32) (hj : j < 2 ^ 31) (hok : sc_Ok j d a b → wY_emit_138 post (nI j) d a b (nI n) fp fc ff fz R M O D A B LT) (hno : ¬ sc_Ok j d a b → post (-1) (nI n, fp, fc, ff, fz, R, M, O, D, A, B, LT)) : wpY_emit post (nI n, fp, fc, ff, fz, R, M, O, D, A, B, LT) (nI j) d a b := by
  refine br_t (nI_lt (b := 32) hn (by decide)) (br_f (nI_pos hj) (pk_le j 12 (fun h12 => pk_eq j 0 (fun e => hok (Or.inl e)) (fun e0 => ?_)) (fun h => hno (fun y => ?_))))
  · refine pk_eq j 10 (fun e => ?_) (fun e10 => pk_eq j 11 (fun e => ?_) (fun e11 => pk_eq j 12 (fun e => ?_) (fun e12 => ?_)))
    · exact sc_ye51 post (q := 1) (Or.inr ⟨sc_10, by omega⟩) h12 e0 hok hno
    · exact sc_ye51 post (q := 1) (Or.inr ⟨sc_10, by omega⟩) h12 e0 hok hno
    · exact sc_ye51 post (q := 1) (Or.inr ⟨sc_10, by omega⟩) h12 e0 hok hno
    · exact sc_ye51 post (q := 0) (Or.inl ⟨rfl, by omega⟩) h12 e0 hok hno
  · rcases y with y | ⟨y, _⟩ <;> omega
theorem i_vc_emit {k : Nat} {u : SX} {v : SY} (I : i_Rel k u v) (hk : k + 5 ≤ 2564) (v1 : Int32) (v2 : Int32) (v3 : Int32) (v4 : Int32) : wpX_emit (fun r u' => wpY_emit (fun r' v' => r' = r ∧ i_Rel (k + 5) u' v') v v1 v2 v3 v4) u v1 v2 v3 v4 := by
  obtain ⟨n, p, fc, ff, fz, R, M, LT, O, D, A, B, AW, CL, UC, UL, UR, US, rfl, rfl, hn, hp, hL, hW, hA, hC⟩ := I
  by_cases h32 : n < 32
  · have hlt : nI n < (32 : Int32) := nI_lt (b := 32) h32 (by decide)
    have cn : (nI n).toNatClampNeg = n := nI_clamp (by omega)
    have iv : vp_in (nI n) 32 := vp_in_nI h32 (by decide)
    by_cases h0 : v1 < 0
    · have hne : ¬ v1 = 0 := by
        intro e
        rw [e] at h0
        exact absurd h0 (by decide)
      exact br_t hlt (br_f hne (br_t h0 (br_t rfl (br_t hlt (br_t h0 ⟨rfl, sc_mk hn hp hL hW hA hC⟩)))))
    · obtain ⟨j, hj, rfl⟩ := nI_of h0
      refine br_t hlt ?_
      by_cases hOk : sc_Ok j v2 v3 v4
      · refine sc_isI _ j hj v2 v3 v4 (fun _ => br_f sc_10 ?_) (fun z => absurd hOk z)
        refine ⟨iv, nm_r (e' := upd O n (nI j)) (by rw [cn]) ⟨iv, nm_r (e' := upd D n v2) (by rw [cn]) ⟨iv, nm_r (e' := upd A n v3) (by rw [cn]) ⟨iv, nm_r (e' := upd B n v4) (by rw [cn]) (nm_r (nI_1 n) ?_)⟩⟩⟩⟩
        refine sc_yemit _ h32 hj (fun _ => ?_) (fun z => absurd hOk z)
        refine ⟨iv, nm_r (e' := upd O n (nI j)) (by rw [cn]) ⟨iv, nm_r (e' := upd D n v2) (by rw [cn]) ⟨iv, nm_r (e' := upd A n v3) (by rw [cn]) ⟨iv, nm_r (e' := upd B n v4) (by rw [cn]) (nm_r (nI_1 n) ?_)⟩⟩⟩⟩
        exact ⟨nI_pred n, sc_mk (by omega) hp hL (sc_wfE hW hOk) hA hC⟩
      · refine sc_isI _ j hj v2 v3 v4 (fun z => absurd z hOk) (fun _ => br_t rfl ?_)
        exact sc_yemit _ h32 hj (fun z => absurd z hOk) (fun _ => ⟨rfl, sc_mk hn hp hL hW hA hC⟩)
  · have hlt : ¬ nI n < (32 : Int32) := nI_nlt (b := 32) (by omega) (by omega)
    exact br_f hlt (br_f hlt ⟨rfl, sc_mk hn hp hL hW hA hC⟩)
end
section
/-! run: both loops side by side -/
theorem sc_loop {k cnt : Nat} (h64 : cnt ≤ 64) {v0 : SY} {n : Nat} {LT O D A B : Nat → Int32} (hn : n ≤ 32) (hL : sc_Lat LT) (hW : sc_Wf n O D A B) :
    ∀ e i : Nat, i + e = cnt → ∀ (w : Nat → Nat) (p : Nat) (fc ff fz : Int32) (R M AW CL UC UL UR US R' M' : Nat → Int32), p ≤ 32 → sc_Inv n (fun _ => 8) O D w AW CL UC UL UR US R M R' M' →
      (∀ postY : Int32 → SY → Prop, (∃ m, wY_run_15 postY (nI cnt) m (nI i) (nI n) (nI p) fc ff fz R' M' O D A B LT) → wpY_run postY v0 (nI cnt)) →
      wX_run_15 (fun r u' => wpY_run (fun r' v' => r' = r ∧ i_Rel (k + 5) u' v') v0 (nI cnt)) (nI cnt) (e + 1) (nI i) (nI n) (nI p) fc ff fz R M LT O D A B AW CL UC UL UR US := by
  intro e
  induction e with
  | zero =>
    intro i hi w p fc ff fz R M AW CL UC UL UR US R' M' hp I hY
    obtain rfl : i = cnt := by omega
    have hle : nI i ≤ nI i := nI_le (Nat.le_refl i) (by omega)
    refine br_t hle (sc_drain _ hn I (fun R M AW CL I0 => ?_))
    obtain ⟨fC, fA, rfl, rfl⟩ := sc_free I0 (fun _ _ => rfl)
    exact hY _ ⟨1, br_t hle ⟨rfl, sc_mk hn hp hL hW fA fC⟩⟩
  | succ e ih =>
    intro i hi w p fc ff fz R M AW CL UC UL UR US R' M' hp I hY
    have hlt : ¬ nI cnt ≤ nI i := nI_ge (by omega) (by omega)
    have h6 : ¬ (64 : Int32) ≤ nI i := nI_ge (b := 64) (by omega) (by decide)
    refine br_f hlt ?_
    by_cases hs : n ≤ p ∨ O p = 0
    · refine sc_xs1 _ hn hp hs (br_f sc_10 (sc_drain _ hn I (fun R M AW CL I0 => ?_)))
      obtain ⟨fC, fA, rfl, rfl⟩ := sc_free I0 (fun _ _ => rfl)
      exact hY _ ⟨1, br_f hlt (br_f h6 (sc_ys1 _ hn hp hs (br_f sc_10 ⟨rfl, sc_mk hn hp hL hW fA fC⟩)))⟩
    · have hpn : p < n := by
        have : ¬ n ≤ p := fun z => hs (Or.inl z)
        omega
      have hO0 : ¬ O p = 0 := fun z => hs (Or.inr z)
      obtain ⟨o, a, d, hc⟩ : ∃ o a d : Nat, sc_Cell O D A B p o a d := by
        rcases hW p hpn with z | z
        · exact absurd z hO0
        · exact z
      refine sc_xs0 _ hn hpn hO0 (br_t rfl (sc_wait _ hn (by omega) hc I (fun R M AW CL I rdy => ?_)))
      obtain ⟨r1, r2, r3⟩ := rdy
      have hc' := hc
      obtain ⟨hO, ho1, ho12, hA, ha, hD, hd, hd8, hB⟩ := hc'
      have rr : ∀ x, AW x = 0 → R x = R' x := by
        intro x hx
        rcases I.2.1 x with z | z
        · exact z.2
        · rw [hx] at z
          exact absurd z.1 sc_01
      have ea : R a = R' a := rr a r1
      have eb : sc_rt o (B p) R = sc_rt o (B p) R' := by
        unfold sc_rt
        by_cases z : o = 3 ∨ o = 8 ∨ o = 9
        · rw [if_pos z, if_pos z]
        · rw [if_neg z, if_neg z]
          exact rr _ (r2 z)
      refine sc_start _ (by omega) hc (fun ho => ?_) (fun ho ht => ?_) (fun ho ht => ?_)
      · obtain ⟨q1, q2⟩ := r3 ho
        obtain ⟨c, hc1, hc8, hcl⟩ := hL (sc_u o) (sc_u4 o)
        rw [ea, eb, hcl]
        have hyy : ∀ postY : Int32 → SY → Prop, (∃ m, wY_run_15 postY (nI cnt) m (nI (i + 1)) (nI n) (nI (p + 1)) (sc_nc (sc_fk o (R' a) (sc_rt o (B p) R')) fc) (sc_nf (sc_fk o (R' a) (sc_rt o (B p) R')) (nI p) ff) (sc_nl (sc_fk o (R' a) (sc_rt o (B p) R')) (nI p) fz) (sc_nr o d (R' a) (sc_rt o (B p) R') R' M') (sc_nm o d (R' a) (sc_rt o (B p) R') R' M') O D A B LT) → wpY_run postY v0 (nI cnt) := by
          intro postY hm
          obtain ⟨m, hm⟩ := hm
          exact hY postY ⟨m + 1, br_f hlt (br_f h6 (sc_ys0 _ hn hpn hO0 (br_t rfl (sc_ystepN _ (by omega) hc ho (nm_r (nI_1 i) hm)))))⟩
        by_cases e9 : o = 9
        · subst e9
          have I2 := sc_goS (l := R' a) (r := sc_rt 9 (B p) R') hn I hpn hO (hd8 ho) hD q1 q2 hc1 hc8
          exact sc_pass _ hn I2 (fun R M AW CL I3 => nm_r (nI_1 i) (ih (i + 1) (by omega) w (p + 1) _ _ _ R M AW CL _ _ _ _ _ _ (by omega) (sc_mono I3 (fun _ _ => by decide)) hyy))
        · have e1 : (if o = 9 then (0 : Int32) else 1) = 1 := if_neg e9
          rw [e1]
          have I2 := sc_goA (l := R' a) (r := sc_rt o (B p) R') (s := R d) hn I hpn ho1 (by omega) e9 hO (hd8 ho) hD q1 rfl q2 hc1 hc8
          have e2 : sc_nr o d (R' a) (sc_rt o (B p) R') R' M' = upd R' d (sc_res o (R' a) (sc_rt o (B p) R') M') := if_neg e9
          have e3 : sc_nm o d (R' a) (sc_rt o (B p) R') R' M' = M' := if_neg e9
          rw [e2, e3] at hyy
          exact sc_pass _ hn I2 (fun R M AW CL I3 => nm_r (nI_1 i) (ih (i + 1) (by omega) _ (p + 1) _ _ _ R M AW CL _ _ _ _ _ _ (by omega) (sc_mono I3 (fun _ _ => by decide)) hyy))
      · rw [ea, eb] at ht
        refine sc_pass _ hn I (fun R M AW CL I3 => nm_r (nI_1 i) (ih (i + 1) (by omega) w d fc ff fz R M AW CL UC UL UR US R' M' (by omega) (sc_mono I3 (fun _ _ => by decide)) ?_))
        intro postY hm
        obtain ⟨m, hm⟩ := hm
        exact hY postY ⟨m + 1, br_f hlt (br_f h6 (sc_ys0 _ hn hpn hO0 (br_t rfl (sc_ystepT _ (by omega) hc ho ht (nm_r (nI_1 i) hm)))))⟩
      · rw [ea, eb] at ht
        refine sc_pass _ hn I (fun R M AW CL I3 => nm_r (nI_1 i) (ih (i + 1) (by omega) w (p + 1) fc ff fz R M AW CL UC UL UR US R' M' (by omega) (sc_mono I3 (fun _ _ => by decide)) ?_))
        intro postY hm
        obtain ⟨m, hm⟩ := hm
        exact hY postY ⟨m + 1, br_f hlt (br_f h6 (sc_ys0 _ hn hpn hO0 (br_t rfl (sc_ystepF _ (by omega) hc ho ht (nm_r (nI_1 i) hm)))))⟩
end
section
theorem i_vc_run {k : Nat} {u : SX} {v : SY} (I : i_Rel k u v) (hk : k + 5 ≤ 2564) (v1 : Int32) : wpX_run (fun r u' => wpY_run (fun r' v' => r' = r ∧ i_Rel (k + 5) u' v') v v1) u v1 := by
  obtain ⟨n, p, fc, ff, fz, R, M, LT, O, D, A, B, AW, CL, UC, UL, UR, US, rfl, rfl, hn, hp, hL, hW, hA, hC⟩ := I
  by_cases h1 : v1 < 1
  · exact br_t h1 (br_t h1 ⟨rfl, sc_mk hn hp hL hW hA hC⟩)
  · by_cases h64 : v1 ≤ 64
    · have h0 : ¬ v1 < 0 := by
        rw [Int32.lt_iff_toInt_lt] at h1 ⊢
        have e1 : (1 : Int32).toInt = 1 := by decide +kernel
        have e0 : (0 : Int32).toInt = 0 := by decide +kernel
        omega
      obtain ⟨cnt, hc, rfl⟩ := nI_of2 (x := v1) (M := 64) (n := 64) (by decide +kernel) h0 h64
      refine br_f h1 (br_t h64 ⟨cnt + 1, ?_⟩)
      exact sc_loop hc hn hL hW cnt 0 (by omega) (fun _ => 0) p fc ff fz R M AW CL UC UL UR US R M hp (sc_init hA hC) (fun postY hm => br_f h1 (br_t h64 hm))
    · exact br_f h1 (br_f h64 (br_f h1 (br_f h64 ⟨rfl, sc_mk hn hp hL hW hA hC⟩)))
end
