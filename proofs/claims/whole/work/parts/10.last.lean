theorem i_vc_run {k : Nat} {u : SX} {v : SY} (I : i_Rel k u v) (hk : k + 5 ≤ 2564) (v1 : Int32) : wpX_run (fun r u' => wpY_run (fun r' v' => r' = r ∧ i_Rel (k + 5) u' v') v v1) u v1 := by
  obtain ⟨n, p, fc, ff, fz, R, M, LT, O, D, A, B, AW, CL, UC, UL, UR, US, rfl, rfl, hn, hp, hL, hW, hA, hC⟩ := I
  by_cases h1 : v1 < 1
  · exact br_t h1 (br_t h1 ⟨rfl, sc_mk hn hp hL hW hA hC⟩)
  · by_cases h64 : v1 ≤ 64
    · have h0 : ¬ v1 < 0 := by
        rw [Int32.lt_iff_toInt_lt] at h1 ⊢
        have e1 : (1 : Int32).toInt = 1 := by decide +kernel
        have e0 : (0 : Int32).toInt = 0 := by decide +kernel
        omega
      obtain ⟨cnt, hc, rfl⟩ := nI_of2 (x := v1) (M := 64) (n := 64) (by decide +kernel) h0 h64
      refine br_f h1 (br_t h64 ⟨cnt + 1, ?_⟩)
      exact sc_loop hc hn hL hW cnt 0 (by omega) (fun _ => 0) p fc ff fz R M AW CL UC UL UR US R M hp (sc_init hA hC) (fun postY hm => br_f h1 (br_t h64 hm))
    · exact br_f h1 (br_f h64 (br_f h1 (br_f h64 ⟨rfl, sc_mk hn hp hL hW hA hC⟩)))
