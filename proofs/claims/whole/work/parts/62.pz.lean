/-! PURE: report, levels, errorPosition -/
theorem z_inn2 (x : Int32) (n : Nat) (hn : n < 1000) (h : x < 0 ∨ ¬ x < 0 ∧ nI n ≤ x) : F_X11_in x 0 (nI n - 1) = some (nI 0) := by
  rw [z_in]
  rcases h with h | ⟨h1, h2⟩
  · exact (congrArg some (if_pos (show x < 0 from h))).trans rfl
  · refine (congrArg some (if_neg (show ¬ x < 0 from h1))).trans ?_
    have : nI n - 1 < x := by
      rw [Int32.le_iff_toInt_le, nI_toInt (by omega)] at h2
      rw [Int32.lt_iff_toInt_lt] at h1 ⊢
      have a : (0 : Int32).toInt = 0 := by decide
      by_cases h0 : n = 0
      · subst h0
        have b : (nI 0 - 1).toInt = -1 := by decide
        omega
      · rw [show nI n - 1 = nI (n - 1) from pk_sub (a := n) (b := 1) (by omega), nI_toInt (by omega)]
        omega
    exact (congrArg some (if_pos this)).trans rfl
theorem m_report {n : Nat} {rc rd cd dt : Nat → Nat} {t x y : Int32} (hR : RRep n rc rd cd dt) : ∃ e r b k, F_X10_report (nI n) (L rc) (L rd) x y = some (e, r) ∧ F_X11_report t (L cd) (L dt) (nI n) x y = some (b, k) ∧ EK [(0, 0), (3, 1), (2, 2)] e k ∧ (e = 0 → r = b) := by
  obtain ⟨hn, hR⟩ := hR
  unfold F_X10_report F_X10_report_L15 F_X11_report
  by_cases hx : x < 0 ∨ ¬ x < 0 ∧ nI n ≤ x
  · refine ⟨3, 0, 0, nI 1, ?_, ob (z_inn2 x n (by omega) hx) ?_, EK.of (by simp), fun h => by omega⟩
    · rcases hx with h | ⟨h1, h2⟩
      · exact if_pos h
      · exact (if_neg h1).trans (if_neg (z_lt (by omega) ⟨h1, h2⟩))
    · refine (if_pos rfl).trans ?_
      rfl
  · obtain ⟨j, hj, rfl⟩ : ∃ j, j < n ∧ x = nI j := by
      have hn0 : 0 < n := Nat.pos_of_ne_zero (fun h => by
        subst h
        apply hx
        by_cases h2 : x < 0
        · exact Or.inl h2
        · exact Or.inr ⟨h2, by rw [Int32.not_lt] at h2; exact h2⟩)
      rcases z_arg x n (by omega) hn0 with h | ⟨_, h⟩
      · exact h
      · exact absurd h hx
    have hin : F_X11_in (nI j) 0 (nI n - 1) = some (nI 1) := by
      rw [show nI n - 1 = nI (n - 1) from pk_sub (a := n) (b := 1) (by omega)]
      exact z_inok (j := j) (a := 0) (b := n - 1) (by omega) (by omega) (by omega)
    have hg : gi (nI j) 30 = true := q_gi (by omega) (by omega)
    have hg2 : gi (nI j) 26 = true := q_gi (by omega) (by omega)
    have hc : Int32.toNatClampNeg (nI j) = j := q_cl (by omega)
    have p1 : ¬ nI j < 0 := by rw [show (0 : Int32) = nI 0 from rfl, q_ltI (by omega) (by omega)]; omega
    have p2 : nI j < nI n := (q_ltI (by omega) (by omega)).mpr hj
    rcases a_what y 1 (by omega) with ⟨i, hi, rfl, c1, c2⟩ | ⟨c1, c2⟩
    · have : i = 0 ∨ i = 1 := by omega
      rcases this with rfl | rfl
      · refine ⟨0, nI (rc j), nI (cd j), nI 0, ?_, ob hin ?_, EK.of (by simp), fun _ => by rw [(hR j hj).1]⟩
        · refine (if_neg p1).trans ((if_pos p2).trans (ob c1 ?_))
          refine (if_pos rfl).trans ((if_pos rfl).trans ?_)
          rw [hg2, q_gg, hc]; rfl
        · refine (if_neg (by decide)).trans ((if_pos rfl).trans ?_)
          rw [hg, q_gg, hc]; rfl
      · refine ⟨0, nI (rd j), nI (dt j), nI 0, ?_, ob hin ?_, EK.of (by simp), fun _ => by rw [(hR j hj).2]⟩
        · refine (if_neg p1).trans ((if_pos p2).trans (ob c1 ?_))
          refine (if_pos rfl).trans ((if_neg (by decide)).trans ?_)
          rw [hg2, q_gg, hc]; rfl
        · refine (if_neg (by decide)).trans ((if_neg (by decide)).trans ((if_pos rfl).trans ?_))
          rw [hg, q_gg, hc]; rfl
    · have y0 : y ≠ 0 := fun h => by subst h; revert c2; decide
      have y1 : y ≠ 1 := fun h => by subst h; revert c2; decide
      refine ⟨2, 0, 0, nI 2, ?_, ob hin ?_, EK.of (by simp), fun h => by omega⟩
      · refine (if_neg p1).trans ((if_pos p2).trans (ob c1 ?_))
        exact if_neg (by decide)
      · refine (if_neg (by decide)).trans ((if_neg y0).trans ((if_neg y1).trans ?_))
        rfl
theorem m_levels {n t : Int32} : F_X10_levels n = some n ∧ F_X11_levels t n = some (n, nI 0) := ⟨rfl, rfl⟩
theorem m_errorPosition {n t : Int32} : F_X10_errorPosition n = some n ∧ F_X11_errorPosition t n = some (n, nI 0) := ⟨rfl, rfl⟩
