/-! START: the tables of digits, the statics -/
def st_p8 (w : Cond) : Bool := match w with
  | .eq (.elem (.static _ n _) _) _ => n == "DigitTens"
  | _ => false
theorem st_f4 : (flatC (Cond.and given_1 narrow_1)).filter st_p8 = (List.range 100).map (fun j => Cond.eq (.elem (Term.static "java/lang/Integer" "DigitTens" "[B") (.int (Int32.ofNat j))) (.int (nI (48 + j / 10)))) := by decide +kernel
theorem st_e4 (j : Nat) (hj : j < 100) : Cond.eq (.elem (Term.static "java/lang/Integer" "DigitTens" "[B") (.int (Int32.ofNat j))) (.int (nI (48 + j / 10))) ∈ flatC (Cond.and given_1 narrow_1) := by
  have h : Cond.eq (.elem (Term.static "java/lang/Integer" "DigitTens" "[B") (.int (Int32.ofNat j))) (.int (nI (48 + j / 10))) ∈ (flatC (Cond.and given_1 narrow_1)).filter st_p8 := by
    rw [st_f4]
    exact List.mem_map.mpr ⟨j, List.mem_range.mpr hj, rfl⟩
  exact (List.mem_filter.mp h).1
theorem st_d4 {args : Array Value} {s : State} {A : Nat → Prop} (hts : ∀ w ∈ lw_tbl, w.before args s = true) (hg : (Cond.and given_1 narrow_1).before args s = true) (hA : ∀ a : Nat, a < s.heap.size → ¬ A a) : gDig "DigitTens" (fun j => nI (48 + j / 10)) A s s.heap := by
  have hs := flat_of_before _ hg
  obtain ⟨t, h1, h2⟩ := va_Tof (tm := (Term.static "java/lang/Integer" "DigitTens" "[B")) (ty := .byte) (N := 100) (f := fun j => .int (nI (48 + j / 10))) (A := A) (by decide) (hs _ st_b4) (va_eqt (hs _ st_c4)) (fun j hj => va_eqt (hs _ (st_e4 j hj))) hA
  exact ⟨t, va_Zref (hts _ st_y4) (hts _ st_z4) h1 hA, h2⟩
def st_p9 (w : Cond) : Bool := match w with
  | .eq (.elem (.static _ n _) _) _ => n == "DigitOnes"
  | _ => false
theorem st_f5 : (flatC (Cond.and given_1 narrow_1)).filter st_p9 = (List.range 100).map (fun j => Cond.eq (.elem (Term.static "java/lang/Integer" "DigitOnes" "[B") (.int (Int32.ofNat j))) (.int (nI (48 + j % 10)))) := by decide +kernel
theorem st_e5 (j : Nat) (hj : j < 100) : Cond.eq (.elem (Term.static "java/lang/Integer" "DigitOnes" "[B") (.int (Int32.ofNat j))) (.int (nI (48 + j % 10))) ∈ flatC (Cond.and given_1 narrow_1) := by
  have h : Cond.eq (.elem (Term.static "java/lang/Integer" "DigitOnes" "[B") (.int (Int32.ofNat j))) (.int (nI (48 + j % 10))) ∈ (flatC (Cond.and given_1 narrow_1)).filter st_p9 := by
    rw [st_f5]
    exact List.mem_map.mpr ⟨j, List.mem_range.mpr hj, rfl⟩
  exact (List.mem_filter.mp h).1
theorem st_d5 {args : Array Value} {s : State} {A : Nat → Prop} (hts : ∀ w ∈ lw_tbl, w.before args s = true) (hg : (Cond.and given_1 narrow_1).before args s = true) (hA : ∀ a : Nat, a < s.heap.size → ¬ A a) : gDig "DigitOnes" (fun j => nI (48 + j % 10)) A s s.heap := by
  have hs := flat_of_before _ hg
  obtain ⟨t, h1, h2⟩ := va_Tof (tm := (Term.static "java/lang/Integer" "DigitOnes" "[B")) (ty := .byte) (N := 100) (f := fun j => .int (nI (48 + j % 10))) (A := A) (by decide) (hs _ st_b5) (va_eqt (hs _ st_c5)) (fun j hj => va_eqt (hs _ (st_e5 j hj))) hA
  exact ⟨t, va_Zref (hts _ st_y5) (hts _ st_z5) h1 hA, h2⟩
theorem st_stat {args : Array Value} {s : State} {A : Nat → Prop} (hts : ∀ w ∈ lw_tbl, w.before args s = true) (hg : (Cond.and given_1 narrow_1).before args s = true) (hA : ∀ a : Nat, a < s.heap.size → ¬ A a) : gStat A s s.heap := by
  have hs := flat_of_before _ hg
  exact ⟨vx_Zqof (hts _ st_y0) (hts _ st_z0) (hs _ st_r0) hA, vx_Zqof (hts _ st_y1) (hts _ st_z1) (hs _ st_r1) hA, st_tab hts hg, va_Zof (hts _ st_y2) (hts _ st_z2) (va_eqt (hs _ st_r2)) hA, va_Zqof (hts _ st_y3) (hts _ st_z3) (hs _ st_r3) hA, st_d4 hts hg hA, st_d5 hts hg hA⟩
