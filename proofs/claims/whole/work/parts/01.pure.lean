/-! pure rows: numbers, the machine's pure functions, the scoreboard's invariant (pk_ rows are the kit's, pasted) -/
theorem pk_us {f : Nat → Int32} {k : Nat} {x : Int32} : upd f k x k = x := if_pos rfl
theorem pk_un {f : Nat → Int32} {k j : Nat} {x : Int32} (h : j ≠ k) : upd f k x j = f j := if_neg h
theorem pk_ix (x : Int32) {n : Nat} (hn : n < 2 ^ 31) : x < 0 ∨ nI n ≤ x ∨ ∃ j : Nat, j < n ∧ x = nI j := by
  by_cases h : x < 0
  · exact Or.inl h
  · obtain ⟨j, hj, rfl⟩ := nI_of h
    by_cases h2 : j < n
    · exact Or.inr (Or.inr ⟨j, h2, rfl⟩)
    · exact Or.inr (Or.inl (nI_le (by omega) hj))
theorem pk_le {x y : Int32} {A B : Prop} (a b : Nat) (f : a ≤ b → A) (g : b < a → B) (hx : x = nI a := by rfl) (hy : y = nI b := by rfl) (ha : a < 2 ^ 31 := by omega) (hb : b < 2 ^ 31 := by omega) : (x ≤ y → A) ∧ (¬ x ≤ y → B) := by
  subst hx hy
  rw [nI_leI ha hb]
  exact ⟨f, fun z => g (by omega)⟩
theorem pk_lt {x y : Int32} {A B : Prop} (a b : Nat) (f : a < b → A) (g : b ≤ a → B) (hx : x = nI a := by rfl) (hy : y = nI b := by rfl) (ha : a < 2 ^ 31 := by omega) (hb : b < 2 ^ 31 := by omega) : (x < y → A) ∧ (¬ x < y → B) := by
  subst hx hy
  rw [nI_ltI ha hb]
  exact ⟨f, fun z => g (by omega)⟩
theorem pk_eq {x y : Int32} {A B : Prop} (a b : Nat) (f : a = b → A) (g : a ≠ b → B) (hx : x = nI a := by rfl) (hy : y = nI b := by rfl) (ha : a < 2 ^ 31 := by omega) (hb : b < 2 ^ 31 := by omega) : (x = y → A) ∧ (¬ x = y → B) := by
  subst hx hy
  rw [nI_eq ha hb]
  exact ⟨f, g⟩
theorem pk_in {x : Int32} (n N : Nat) (h : n < N) (hx : x = nI n := by rfl) (hN : N < 2 ^ 31 := by omega) : vp_in x N := by
  subst hx
  exact vp_in_nI h hN
theorem pk_cl {x : Int32} (n : Nat) (hx : x = nI n := by rfl) (h : n < 2 ^ 31 := by omega) : x.toNatClampNeg = n := by
  subst hx
  exact nI_clamp h
theorem sc_nine {o : Nat} (h1 : 1 ≤ o) (h9 : o ≤ 9) : o = 1 ∨ o = 2 ∨ o = 3 ∨ o = 4 ∨ o = 5 ∨ o = 6 ∨ o = 7 ∨ o = 8 ∨ o = 9 := by omega
theorem sc_three {o : Nat} (h1 : 10 ≤ o) (h9 : o ≤ 12) : o = 10 ∨ o = 11 ∨ o = 12 := by omega
theorem sc_four {u : Nat} (h : u < 4) : u = 0 ∨ u = 1 ∨ u = 2 ∨ u = 3 := by omega
theorem sc_at {P : Int32 → Prop} {x y : Int32} (e : x = y) (h : P x) : P y := e ▸ h
theorem sc_g32 {j : Nat} (hj : j < 32) : ¬ (32 : Int32) ≤ nI j := nI_ge (b := 32) hj (by decide)
theorem sc_n9 : nI 9 = 9 := by decide +kernel
theorem sc_10 : ¬ (1 : Int32) = 0 := by decide +kernel
theorem sc_01 : ¬ (0 : Int32) = 1 := by decide +kernel
/-- the unit of an opcode -/
def sc_u (o : Nat) : Nat := if o = 5 then 1 else if o = 6 then 2 else if o = 7 then 2 else if o = 8 then 3 else if o = 9 then 3 else 0
theorem sc_u4 (o : Nat) : sc_u o < 4 := by
  unfold sc_u
  repeat' split
  all_goals decide
theorem sc_u8 {o : Nat} (h : sc_u o ≠ 3) : o ≠ 8 := by
  intro e
  subst e
  exact h rfl
theorem sc_u9 {o : Nat} (h : sc_u o ≠ 3) : o ≠ 9 := by
  intro e
  subst e
  exact h rfl
/-- the value that an instruction writes -/
def sc_res (o : Nat) (l r : Int32) (M : Nat → Int32) : Int32 :=
  if o = 2 then l - r else if o = 4 then (if r ≤ l then 0 else 1) else if o = 5 then l * r else
  if o = 6 then (if r = 0 then 0 else l / r) else if o = 7 then (if r = 0 then l else l - l / r * r) else
  if o = 8 then (if l + r < 0 then 0 else if 32 ≤ l + r then 0 else M (l + r).toNatClampNeg) else l + r
theorem sc_resM {o : Nat} {l r : Int32} {M N : Nat → Int32} (h : o ≠ 8) : sc_res o l r M = sc_res o l r N := by
  unfold sc_res
  rw [if_neg h, if_neg h]
theorem sc_res1 {l r : Int32} {M : Nat → Int32} : sc_res 1 l r M = l + r := rfl
theorem sc_res2 {l r : Int32} {M : Nat → Int32} : sc_res 2 l r M = l - r := rfl
theorem sc_res3 {l r : Int32} {M : Nat → Int32} : sc_res 3 l r M = l + r := rfl
theorem sc_res4 {l r : Int32} {M : Nat → Int32} : sc_res 4 l r M = if r ≤ l then 0 else 1 := rfl
theorem sc_res5 {l r : Int32} {M : Nat → Int32} : sc_res 5 l r M = l * r := rfl
theorem sc_res6 {l r : Int32} {M : Nat → Int32} : sc_res 6 l r M = if r = 0 then 0 else l / r := rfl
theorem sc_res7 {l r : Int32} {M : Nat → Int32} : sc_res 7 l r M = if r = 0 then l else l - l / r * r := rfl
theorem sc_res8 {l r : Int32} {M : Nat → Int32} : sc_res 8 l r M = if l + r < 0 then 0 else if 32 ≤ l + r then 0 else M (l + r).toNatClampNeg := rfl
theorem sc_res8o {l r : Int32} {M : Nat → Int32} (h : l + r < 0 ∨ nI 32 ≤ l + r) : sc_res 8 l r M = 0 := by
  rw [sc_res8]
  by_cases h0 : l + r < 0
  · rw [if_pos h0]
  · rw [if_neg h0]
    rcases h with h | h
    · exact absurd h h0
    · exact if_pos h
theorem sc_res8i {l r : Int32} {M : Nat → Int32} {j : Nat} (hj : j < 32) (h : l + r = nI j) : sc_res 8 l r M = M j := by
  rw [sc_res8, h, if_neg (nI_pos (by omega)), if_neg (sc_g32 hj), nI_clamp (by omega)]
/-- memory after a store -/
def sc_st (x v : Int32) (M : Nat → Int32) : Nat → Int32 := if x < 0 then M else if 32 ≤ x then M else upd M x.toNatClampNeg v
theorem sc_sto {x v : Int32} {M : Nat → Int32} (h : x < 0 ∨ nI 32 ≤ x) : sc_st x v M = M := by
  unfold sc_st
  by_cases h0 : x < 0
  · rw [if_pos h0]
  · rw [if_neg h0]
    rcases h with h | h
    · exact absurd h h0
    · exact if_pos h
theorem sc_sti {v : Int32} {M : Nat → Int32} {j : Nat} (hj : j < 32) : sc_st (nI j) v M = upd M j v := by
  unfold sc_st
  rw [if_neg (nI_pos (by omega)), if_neg (sc_g32 hj), nI_clamp (by omega)]
/-- the kind of fault, -1 for none -/
def sc_fk (o : Nat) (l r : Int32) : Int32 :=
  if o = 6 then (if r = 0 then 1 else -1) else if o = 7 then (if r = 0 then 1 else -1) else
  if o = 8 then (if l + r < 0 then 2 else if 32 ≤ l + r then 2 else -1) else
  if o = 9 then (if l + r < 0 then 3 else if 32 ≤ l + r then 3 else -1) else -1
theorem sc_fk6 {l r : Int32} : sc_fk 6 l r = if r = 0 then 1 else -1 := rfl
theorem sc_fk7 {l r : Int32} : sc_fk 7 l r = if r = 0 then 1 else -1 := rfl
theorem sc_fk8 {l r : Int32} : sc_fk 8 l r = if l + r < 0 then 2 else if 32 ≤ l + r then 2 else -1 := rfl
theorem sc_fk9 {l r : Int32} : sc_fk 9 l r = if l + r < 0 then 3 else if 32 ≤ l + r then 3 else -1 := rfl
theorem sc_fk8o {l r : Int32} (h : l + r < 0 ∨ nI 32 ≤ l + r) : sc_fk 8 l r = 2 := by
  rw [sc_fk8]
  by_cases h0 : l + r < 0
  · rw [if_pos h0]
  · rw [if_neg h0]
    rcases h with h | h
    · exact absurd h h0
    · exact if_pos h
theorem sc_fk9o {l r : Int32} (h : l + r < 0 ∨ nI 32 ≤ l + r) : sc_fk 9 l r = 3 := by
  rw [sc_fk9]
  by_cases h0 : l + r < 0
  · rw [if_pos h0]
  · rw [if_neg h0]
    rcases h with h | h
    · exact absurd h h0
    · exact if_pos h
theorem sc_fk8i {l r : Int32} {j : Nat} (hj : j < 32) (h : l + r = nI j) : sc_fk 8 l r = -1 := by
  rw [sc_fk8, h, if_neg (nI_pos (by omega)), if_neg (sc_g32 hj)]
theorem sc_fk9i {l r : Int32} {j : Nat} (hj : j < 32) (h : l + r = nI j) : sc_fk 9 l r = -1 := by
  rw [sc_fk9, h, if_neg (nI_pos (by omega)), if_neg (sc_g32 hj)]
/-- the fault numbers after a kind k at cell p -/
def sc_nc (k c : Int32) : Int32 := if k = -1 then c else c + 1
def sc_nf (k p f : Int32) : Int32 := if k = -1 then f else if f = -1 then k * 32 + p else f
def sc_nl (k p z : Int32) : Int32 := if k = -1 then z else k * 32 + p
/-- a branch is taken -/
def sc_tk (o : Nat) (l r : Int32) : Prop := if o = 10 then l = r else if o = 11 then ¬ l = r else ¬ r ≤ l
/-- the right operand -/
def sc_rt (o : Nat) (bv : Int32) (R : Nat → Int32) : Int32 := if o = 3 ∨ o = 8 ∨ o = 9 then bv else R bv.toNatClampNeg
/-- registers and memory after an instruction that is no branch -/
def sc_nr (o d : Nat) (l r : Int32) (R M : Nat → Int32) : Nat → Int32 := if o = 9 then R else upd R d (sc_res o l r M)
def sc_nm (o d : Nat) (l r : Int32) (R M : Nat → Int32) : Nat → Int32 := if o = 9 then sc_st (l + r) (R d) M else M
/-- cell p holds an instruction o with fields a, b, d -/
def sc_Cell (O D A B : Nat → Int32) (p o a d : Nat) : Prop :=
  O p = nI o ∧ 1 ≤ o ∧ o ≤ 12 ∧ A p = nI a ∧ a < 8 ∧ D p = nI d ∧ d < 32 ∧ (o < 10 → d < 8) ∧ (o ≠ 3 → o ≠ 8 → o ≠ 9 → ∃ b : Nat, b < 8 ∧ B p = nI b)
/-- the first n cells are well formed -/
def sc_Wf (n : Nat) (O D A B : Nat → Int32) : Prop := ∀ j, j < n → O j = 0 ∨ ∃ o a d : Nat, sc_Cell O D A B j o a d
/-- a unit at work -/
def sc_Job (n : Nat) (O D : Nat → Int32) (w : Nat → Nat) (AW R' M' : Nat → Int32) (m u : Nat) (cl uc ul ur : Int32) : Prop :=
  ∃ c j o d : Nat, 1 ≤ c ∧ c ≤ m ∧ c ≤ 8 ∧ cl = nI c ∧ j < n ∧ uc = nI j ∧ 1 ≤ o ∧ o ≤ 9 ∧ O j = nI o ∧ sc_u o = u ∧ d < 8 ∧ D j = nI d ∧ (o ≠ 9 → w d = u ∧ AW d = 1 ∧ R' d = sc_res o ul ur M')
def sc_Reg (O D : Nat → Int32) (w : Nat → Nat) (AW CL UC R R' : Nat → Int32) (x : Nat) : Prop :=
  (AW x = 0 ∧ R x = R' x) ∨ (AW x = 1 ∧ w x < 4 ∧ CL (w x) ≠ 0 ∧ O (UC (w x)).toNatClampNeg ≠ 9 ∧ (D (UC (w x)).toNatClampNeg).toNatClampNeg = x)
def sc_Mem (O CL UC UL UR US M M' : Nat → Int32) : Prop :=
  (CL 3 ≠ 0 ∧ O (UC 3).toNatClampNeg = 9 ∧ M' = sc_st (UL 3 + UR 3) (US 3) M) ∨ ((CL 3 = 0 ∨ O (UC 3).toNatClampNeg ≠ 9) ∧ M' = M)
/-- the component's state within run (AW .. M) against the reference's registers and memory (R', M'); w: who writes a register; bd: cycles left at most -/
def sc_Inv (n : Nat) (bd : Nat → Nat) (O D : Nat → Int32) (w : Nat → Nat) (AW CL UC UL UR US R M R' M' : Nat → Int32) : Prop :=
  (∀ u, u < 4 → CL u = 0 ∨ sc_Job n O D w AW R' M' (bd u) u (CL u) (UC u) (UL u) (UR u)) ∧
  (∀ x, sc_Reg O D w AW CL UC R R' x) ∧ sc_Mem O CL UC UL UR US M M'
