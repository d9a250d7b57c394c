/-! START: the facts at the law's entry -/
theorem st_i0 : ∀ w ∈ u_ws RJ0 TJ0 4, w ∈ lw_tbl := by decide +kernel
theorem st_n0 : Cond.instantiable RJ0 4 ∈ lw_tbl := by decide +kernel
theorem st_i1 : ∀ w ∈ u_ws RJ4 TJ4 4, w ∈ lw_tbl := by decide +kernel
theorem st_n1 : Cond.instantiable RJ4 4 ∈ lw_tbl := by decide +kernel
theorem st_i2 : ∀ w ∈ u_ws RJx00060 TJx00060 6, w ∈ lw_tbl := by decide +kernel
theorem st_n2 : Cond.instantiable RJx00060 6 ∈ lw_tbl := by decide +kernel
theorem st_i3 : ∀ w ∈ u_ws RJx7c733 TJx7c733 6, w ∈ lw_tbl := by decide +kernel
theorem st_n3 : Cond.instantiable RJx7c733 6 ∈ lw_tbl := by decide +kernel
theorem st_i4 : ∀ w ∈ u_ws RX1 TX1 6, w ∈ lw_tbl := by decide +kernel
theorem st_n4 : Cond.instantiable RX1 6 ∈ lw_tbl := by decide +kernel
theorem st_i5 : ∀ w ∈ u_ws RX3 TX3 5, w ∈ lw_tbl := by decide +kernel
theorem st_n5 : Cond.instantiable RX3 5 ∈ lw_tbl := by decide +kernel
theorem st_i6 : ∀ w ∈ u_ws RX4 TX4 4, w ∈ lw_tbl := by decide +kernel
theorem st_n6 : Cond.instantiable RX4 4 ∈ lw_tbl := by decide +kernel
theorem st_i7 : ∀ w ∈ u_ws RX6 TX6 3, w ∈ lw_tbl := by decide +kernel
theorem st_n7 : Cond.instantiable RX6 3 ∈ lw_tbl := by decide +kernel
theorem st_i8 : ∀ w ∈ u_ws RX7 TX7 7, w ∈ lw_tbl := by decide +kernel
theorem st_n8 : Cond.instantiable RX7 7 ∈ lw_tbl := by decide +kernel
theorem st_i9 : ∀ w ∈ u_ws RX8 TX8 6, w ∈ lw_tbl := by decide +kernel
theorem st_n9 : Cond.instantiable RX8 6 ∈ lw_tbl := by decide +kernel
theorem st_i10 : ∀ w ∈ u_ws RX9 TX9 7, w ∈ lw_tbl := by decide +kernel
theorem st_n10 : Cond.instantiable RX9 7 ∈ lw_tbl := by decide +kernel
theorem st_i11 : ∀ w ∈ u_ws RX10 TX10 11, w ∈ lw_tbl := by decide +kernel
theorem st_n11 : Cond.instantiable RX10 11 ∈ lw_tbl := by decide +kernel
theorem st_i12 : ∀ w ∈ u_ws RX11 TX11 22, w ∈ lw_tbl := by decide +kernel
theorem st_n12 : Cond.instantiable RX11 22 ∈ lw_tbl := by decide +kernel
theorem st_kn {args : Array Value} {s : State} (hts : ∀ w ∈ lw_tbl, w.before args s = true) : ∃ D : va_G, ∀ (k : Nat) (q : vw_C), vwCl[k]? = some q → u_Kn s q.1 q.2.1 q.2.2 (D.1 k) (D.2 k) := by
  obtain ⟨c0, i0, h0⟩ := u_known (C := RJ0) (T := TJ0) (N := 4) (n := 4) hts st_i0 (hts _ st_n0)
  obtain ⟨c1, i1, h1⟩ := u_known (C := RJ4) (T := TJ4) (N := 4) (n := 4) hts st_i1 (hts _ st_n1)
  obtain ⟨c2, i2, h2⟩ := u_known (C := RJx00060) (T := TJx00060) (N := 6) (n := 6) hts st_i2 (hts _ st_n2)
  obtain ⟨c3, i3, h3⟩ := u_known (C := RJx7c733) (T := TJx7c733) (N := 6) (n := 6) hts st_i3 (hts _ st_n3)
  obtain ⟨c4, i4, h4⟩ := u_known (C := RX1) (T := TX1) (N := 6) (n := 6) hts st_i4 (hts _ st_n4)
  obtain ⟨c5, i5, h5⟩ := u_known (C := RX3) (T := TX3) (N := 5) (n := 5) hts st_i5 (hts _ st_n5)
  obtain ⟨c6, i6, h6⟩ := u_known (C := RX4) (T := TX4) (N := 4) (n := 4) hts st_i6 (hts _ st_n6)
  obtain ⟨c7, i7, h7⟩ := u_known (C := RX6) (T := TX6) (N := 3) (n := 3) hts st_i7 (hts _ st_n7)
  obtain ⟨c8, i8, h8⟩ := u_known (C := RX7) (T := TX7) (N := 7) (n := 7) hts st_i8 (hts _ st_n8)
  obtain ⟨c9, i9, h9⟩ := u_known (C := RX8) (T := TX8) (N := 6) (n := 6) hts st_i9 (hts _ st_n9)
  obtain ⟨c10, i10, h10⟩ := u_known (C := RX9) (T := TX9) (N := 7) (n := 7) hts st_i10 (hts _ st_n10)
  obtain ⟨c11, i11, h11⟩ := u_known (C := RX10) (T := TX10) (N := 11) (n := 11) hts st_i11 (hts _ st_n11)
  obtain ⟨c12, i12, h12⟩ := u_known (C := RX11) (T := TX11) (N := 22) (n := 22) hts st_i12 (hts _ st_n12)
  refine ⟨(fun k => ([c0, c1, c2, c3, c4, c5, c6, c7, c8, c9, c10, c11, c12] : List ClassId).getD k c0, fun k => ([i0, i1, i2, i3, i4, i5, i6, i7, i8, i9, i10, i11, i12] : List (Nat → Nat)).getD k i0), ?_⟩
  intro k q hq
  match k, hq with
  | 0, hq => cases hq; exact h0
  | 1, hq => cases hq; exact h1
  | 2, hq => cases hq; exact h2
  | 3, hq => cases hq; exact h3
  | 4, hq => cases hq; exact h4
  | 5, hq => cases hq; exact h5
  | 6, hq => cases hq; exact h6
  | 7, hq => cases hq; exact h7
  | 8, hq => cases hq; exact h8
  | 9, hq => cases hq; exact h9
  | 10, hq => cases hq; exact h10
  | 11, hq => cases hq; exact h11
  | 12, hq => cases hq; exact h12
  | k + 13, hq => simp [vwCl] at hq
theorem st_arr {args : Array Value} {s : State} {ty : FieldType} (h : (Cond.arrayClass ty).before args s = true) : ∃ c : ClassId, ArrOfT s c ty ∧ s.vm.findClass ("[" ++ ty.toString) = some c := by
  obtain ⟨c, k, comp, h1, h2, h3⟩ := Cond.arrayClass_spec h
  exact ⟨c, fun N z => ⟨(fun k h => by cases h), k, h2, comp, h3⟩, h1⟩
theorem st_arrO {args : Array Value} {s : State} {n : String} (h : (Cond.arrayOver (.object n)).before args s = true) : ∃ c : ClassId, ArrOfT s c (.object n) ∧ va_RA s c (.object n) := by
  obtain ⟨comp, c, k, h1, h2, h3, h4, h5⟩ := Cond.arrayOver_spec h
  exact ⟨c, fun N z => ⟨(fun k h => by cases h), k, h3, comp, h4⟩, k, comp, h3, h4, h1, h5⟩
theorem st_a0 : Cond.arrayClass .int ∈ lw_tbl := by decide +kernel
theorem st_a1 : Cond.arrayClass .boolean ∈ lw_tbl := by decide +kernel
theorem st_a2 : Cond.arrayClass .char ∈ lw_tbl := by decide +kernel
theorem st_a3 : Cond.arrayClass .byte ∈ lw_tbl := by decide +kernel
theorem st_a4 : Cond.arrayClass .long ∈ lw_tbl := by decide +kernel
theorem st_ao : Cond.arrayOver (.object "SecretVault$Secret") ∈ lw_tbl := by decide +kernel
theorem st_K {args : Array Value} {s : State} (hts : ∀ w ∈ lw_tbl, w.before args s = true) : ∃ (D : va_G) (cy : Nat → ClassId), va_K D vwCl (gTys cy) s := by
  obtain ⟨D, hD⟩ := st_kn hts
  obtain ⟨c0, a0, b0⟩ := st_arr (hts _ st_a0)
  obtain ⟨c1, a1, b1⟩ := st_arr (hts _ st_a1)
  obtain ⟨c2, a2, b2⟩ := st_arr (hts _ st_a2)
  obtain ⟨c3, a3, b3⟩ := st_arr (hts _ st_a3)
  obtain ⟨c4, a4, b4⟩ := st_arr (hts _ st_a4)
  obtain ⟨c5, a5, b5⟩ := st_arrO (hts _ st_ao)
  refine ⟨D, fun k => ([c0, c1, c2, c3, c4, c5] : List ClassId).getD k c0, hD, ?_⟩
  intro k q hq
  match k, hq with
  | 0, hq => cases hq; exact ⟨a0, b0⟩
  | 1, hq => cases hq; exact ⟨a1, b1⟩
  | 2, hq => cases hq; exact ⟨a2, b2⟩
  | 3, hq => cases hq; exact ⟨a3, b3⟩
  | 4, hq => cases hq; exact ⟨a4, b4⟩
  | 5, hq => cases hq; exact ⟨a5, b5⟩
  | k + 6, hq => simp [gTys] at hq
theorem st_l1 : Cond.selects RJ4 yJ5_isLatin1_aae02 yJ5_isLatin1_aae02 ∈ lw_tbl := by decide +kernel
theorem st_p0 : Cond.privateMethod yJ5_ensureCapacityInternal_d00df ∈ lw_tbl := by decide +kernel
theorem st_q0 : Cond.instanceMethod yJ5_ensureCapacityInternal_d00df ∈ lw_tbl := by decide +kernel
theorem st_p1 : Cond.privateMethod yJ5_newCapacity_0f7a4 ∈ lw_tbl := by decide +kernel
theorem st_q1 : Cond.instanceMethod yJ5_newCapacity_0f7a4 ∈ lw_tbl := by decide +kernel
theorem st_bw {args : Array Value} {s : State} (hts : ∀ w ∈ lw_tbl, w.before args s = true) : ∀ w ∈ gBW, w.before args s = true := by
  intro w hw
  rcases gBW_in hw with h | h
  · rcases List.mem_cons.mp h with rfl | h
    · exact gx_selP (z := yJ5_isLatin1_aae02) rfl (hts _ st_l1) (hts _ st_p0) (hts _ st_q0) ⟨by decide +kernel, by decide +kernel⟩
    · rcases List.mem_cons.mp h with rfl | h
      · exact gx_selP (z := yJ5_isLatin1_aae02) rfl (hts _ st_l1) (hts _ st_p1) (hts _ st_q1) ⟨by decide +kernel, by decide +kernel⟩
      · exact absurd h List.not_mem_nil
  · exact hts w h
abbrev st_G : Cond := Cond.and given_1 narrow_1
theorem st_s1 : ∀ q ∈ gStrs, Cond.stringRef q.1 q.2.1 q.2.2 ∈ lw_tbl := by decide +kernel
theorem st_s2 : ∀ q ∈ gStrs, Cond.exactly (Term.string q.1 q.2.1) "java/lang/String" ∈ flatC (Cond.and given_1 narrow_1) := by decide +kernel
theorem st_ne : ∀ q ∈ gNest, Cond.methodLinkNest q.1 q.2.1 q.2.2.1 q.2.2.2 ∈ lw_tbl := by decide +kernel
theorem st_ca : ∀ q ∈ gCast, Cond.castable q.1 q.2 ∈ lw_tbl := by decide +kernel
theorem st_nc : ∀ q ∈ gNC, Cond.not (Cond.castable q.1 q.2) ∈ flatC (Cond.and given_1 narrow_1) := by decide +kernel
theorem st_de : ∀ y ∈ gDecl, Cond.declares y ∈ lw_tbl := by decide +kernel
theorem st_tab {args : Array Value} {s : State} (hts : ∀ w ∈ lw_tbl, w.before args s = true) (hg : (Cond.and given_1 narrow_1).before args s = true) : gTab s := by
  have hs := flat_of_before _ hg
  refine ⟨fun q hq => ?_, fun q hq => va_Nw.of rfl (hts _ (st_ne q hq)), fun q hq => va_Nw.of rfl (hts _ (st_ca q hq)), va_AO.of (hts _ st_ao), fun q hq => va_Nc.of (hs _ (st_nc q hq)), fun y hy => va_Nw.of rfl (hts _ (st_de y hy))⟩
  obtain ⟨a, c, cell, k, he, -⟩ := Cond.exactly_spec (hs _ (st_s2 q hq))
  exact ⟨a, vk_R.of (hts _ (st_s1 q hq)) he⟩
theorem st_y0 : Cond.laysStatic Bundle.tN "UNASSIGNED_STACK" Bundle.steD ∈ lw_tbl := by decide +kernel
theorem st_z0 : Cond.initialized Bundle.tN ∈ lw_tbl := by decide +kernel
theorem st_y1 : Cond.laysStatic Bundle.tN "SUPPRESSED_SENTINEL" Bundle.listD ∈ lw_tbl := by decide +kernel
theorem st_z1 : Cond.initialized Bundle.tN ∈ lw_tbl := by decide +kernel
theorem st_y2 : Cond.laysStatic "java/lang/String" "COMPACT_STRINGS" "Z" ∈ lw_tbl := by decide +kernel
theorem st_z2 : Cond.initialized "java/lang/String" ∈ lw_tbl := by decide +kernel
theorem st_y3 : Cond.laysStatic "jdk/internal/util/Preconditions" "SIOOBE_FORMATTER" "Ljava/util/function/BiFunction;" ∈ lw_tbl := by decide +kernel
theorem st_z3 : Cond.initialized "jdk/internal/util/Preconditions" ∈ lw_tbl := by decide +kernel
theorem st_y4 : Cond.laysStatic "java/lang/Integer" "DigitTens" "[B" ∈ lw_tbl := by decide +kernel
theorem st_z4 : Cond.initialized "java/lang/Integer" ∈ lw_tbl := by decide +kernel
theorem st_y5 : Cond.laysStatic "java/lang/Integer" "DigitOnes" "[B" ∈ lw_tbl := by decide +kernel
theorem st_z5 : Cond.initialized "java/lang/Integer" ∈ lw_tbl := by decide +kernel
theorem st_r0 : Cond.isRef (.static Bundle.tN "UNASSIGNED_STACK" Bundle.steD) ∈ flatC (Cond.and given_1 narrow_1) := by decide +kernel
theorem st_r1 : Cond.isRef (.static Bundle.tN "SUPPRESSED_SENTINEL" Bundle.listD) ∈ flatC (Cond.and given_1 narrow_1) := by decide +kernel
theorem st_r3 : Cond.isRef (.static "jdk/internal/util/Preconditions" "SIOOBE_FORMATTER" "Ljava/util/function/BiFunction;") ∈ flatC (Cond.and given_1 narrow_1) := by decide +kernel
theorem st_r2 : Cond.eq (.static "java/lang/String" "COMPACT_STRINGS" "Z") (.int 1) ∈ flatC (Cond.and given_1 narrow_1) := by decide +kernel
theorem st_b4 : Cond.arrayOf (Term.static "java/lang/Integer" "DigitTens" "[B") .byte ∈ flatC (Cond.and given_1 narrow_1) := by decide +kernel
theorem st_c4 : Cond.eq (.length (Term.static "java/lang/Integer" "DigitTens" "[B")) (.int 100) ∈ flatC (Cond.and given_1 narrow_1) := by decide +kernel
theorem st_b5 : Cond.arrayOf (Term.static "java/lang/Integer" "DigitOnes" "[B") .byte ∈ flatC (Cond.and given_1 narrow_1) := by decide +kernel
theorem st_c5 : Cond.eq (.length (Term.static "java/lang/Integer" "DigitOnes" "[B")) (.int 100) ∈ flatC (Cond.and given_1 narrow_1) := by decide +kernel
