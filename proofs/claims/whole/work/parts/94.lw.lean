/-! PURE: the law's wrappers -/
theorem g0L {β : Type} (ot : Nat → Int64) (x : Int64) (F : (Nat → Int64) → Option β) : gg (gi 0 1) (gl (vp_updL ot (Int32.toNatClampNeg 0) x) F) = F (vp_updL ot 0 x) := by
  rw [show gi 0 1 = true by decide, q_gg, q_gl, show Int32.toNatClampNeg 0 = 0 by decide]
theorem uL_s (ot : Nat → Int64) (k : Nat) (x : Int64) : vp_updL ot k x k = x := by simp [vp_updL]
theorem W_setWeight {wt : Nat → Int32} {ot : Nat → Int64} {p1 : Int32} {p2 : Int32} {o0 : (Nat → Int32)} {e : Nat} {r : Int32} {k : Int32} (h : F_X10_setWeight wt p1 p2 = some (e, r, o0)) (hk : EK [(0, 0), (1, 1), (2, 2)] e k) : ∃ ot', F_L_setWeight wt ot p1 p2 = some (k, o0, ot') ∧ (k = 0 → e = 0 ∧ ot' 0 = Int32.toInt64 r) := by
  unfold F_L_setWeight
  obtain ⟨q, hq, rfl, rfl⟩ := hk
  simp only [List.mem_cons, List.not_mem_nil, or_false] at hq
  rcases hq with rfl | rfl | rfl
  · exact ⟨vp_updL ot 0 (Int32.toInt64 r), ob h ((if_pos rfl).trans (g0L _ _ _)), fun _ => ⟨rfl, uL_s _ _ _⟩⟩
  · exact ⟨ot, ob h ((if_neg (show ¬ (1 : Nat) = 0 by decide)).trans ((if_pos rfl).trans rfl)), fun z => absurd z (by decide)⟩
  · exact ⟨ot, ob h ((if_neg (show ¬ (2 : Nat) = 0 by decide)).trans ((if_neg (show ¬ (2 : Nat) = 1 by decide)).trans ((if_pos rfl).trans rfl))), fun z => absurd z (by decide)⟩
theorem W_setPresent {pr : Int32} {ot : Nat → Int64} {p1 : Int32} {p2 : Int32} {o0 : Int32} {e : Nat} {r : Int32} {k : Int32} (h : F_X10_setPresent pr p1 p2 = some (e, r, o0)) (hk : EK [(0, 0), (1, 1)] e k) : ∃ ot', F_L_setPresent pr ot p1 p2 = some (k, o0, ot') ∧ (k = 0 → e = 0 ∧ ot' 0 = if r = 0 then 0 else 1) := by
  unfold F_L_setPresent F_L_setPresent_L16
  obtain ⟨q, hq, rfl, rfl⟩ := hk
  simp only [List.mem_cons, List.not_mem_nil, or_false] at hq
  rcases hq with rfl | rfl
  · by_cases h0 : r = 0
    · exact ⟨vp_updL ot 0 0, ob h ((if_pos rfl).trans ((if_pos h0).trans (g0L _ _ _))), fun _ => ⟨rfl, by rw [if_pos h0]; exact uL_s _ _ _⟩⟩
    · exact ⟨vp_updL ot 0 1, ob h ((if_pos rfl).trans ((if_neg h0).trans (g0L _ _ _))), fun _ => ⟨rfl, by rw [if_neg h0]; exact uL_s _ _ _⟩⟩
  · exact ⟨ot, ob h ((if_neg (show ¬ (1 : Nat) = 0 by decide)).trans ((if_pos rfl).trans rfl)), fun z => absurd z (by decide)⟩
theorem W_member {pr : Int32} {wt : Nat → Int32} {s0_th : Int32} {s0_ep : Int32} {s0_cm : Nat → Int32} {s0_vs : Nat → Int32} {s0_es : Nat → Int32} {s1_th : Int32} {s1_ep : Int32} {s1_cm : Nat → Int32} {s1_vs : Nat → Int32} {s1_es : Nat → Int32} {s2_th : Int32} {s2_ep : Int32} {s2_cm : Nat → Int32} {s2_vs : Nat → Int32} {s2_es : Nat → Int32} {s3_th : Int32} {s3_ep : Int32} {s3_cm : Nat → Int32} {s3_vs : Nat → Int32} {s3_es : Nat → Int32} {ot : Nat → Int64} {p1 : Int32} {p2 : Int32}  {e : Nat} {r : Int32} {k : Int32} (h : F_X10_member pr wt s0_th s0_ep s0_cm s0_vs s0_es s1_th s1_ep s1_cm s1_vs s1_es s2_th s2_ep s2_cm s2_vs s2_es s3_th s3_ep s3_cm s3_vs s3_es p1 p2 = some (e, r)) (hk : EK [(0, 0), (1, 1), (2, 2)] e k) : ∃ ot', F_L_member pr wt s0_th s0_ep s0_cm s0_vs s0_es s1_th s1_ep s1_cm s1_vs s1_es s2_th s2_ep s2_cm s2_vs s2_es s3_th s3_ep s3_cm s3_vs s3_es ot p1 p2 = some (k, ot') ∧ (k = 0 → e = 0 ∧ ot' 0 = Int32.toInt64 r) := by
  unfold F_L_member
  obtain ⟨q, hq, rfl, rfl⟩ := hk
  simp only [List.mem_cons, List.not_mem_nil, or_false] at hq
  rcases hq with rfl | rfl | rfl
  · exact ⟨vp_updL ot 0 (Int32.toInt64 r), ob h ((if_pos rfl).trans (g0L _ _ _)), fun _ => ⟨rfl, uL_s _ _ _⟩⟩
  · exact ⟨ot, ob h ((if_neg (show ¬ (1 : Nat) = 0 by decide)).trans ((if_pos rfl).trans rfl)), fun z => absurd z (by decide)⟩
  · exact ⟨ot, ob h ((if_neg (show ¬ (2 : Nat) = 0 by decide)).trans ((if_neg (show ¬ (2 : Nat) = 1 by decide)).trans ((if_pos rfl).trans rfl))), fun z => absurd z (by decide)⟩
theorem W_put {co : Nat → Int32} {z : Int32} {pr : Int32} {le : Int32} {ec : Int32} {wt : Nat → Int32} {ev : Nat → Int32} {c_filled : Int32} {c_th : Int32} {c_ep : Int32} {c_rule : Option Nat} {c_cm : Nat → Int32} {c_vs : Nat → Int32} {c_es : Nat → Int32} {ot : Nat → Int64} {p1 : Int32} {p2 : Int32} {p3 : Int32} {o0 : (Nat → Int32)} {o1 : Int32} {o2 : Int32} {o3 : Int32} {o4 : (Nat → Int32)} {o5 : Int32} {o6 : Int32} {o7 : Int32} {o8 : Option Nat} {o9 : (Nat → Int32)} {o10 : (Nat → Int32)} {o11 : (Nat → Int32)} {e : Nat} {r : Int32} {k : Int32} (h : F_X10_put co z pr le ec wt ev c_filled c_th c_ep c_rule c_cm c_vs c_es p1 p2 p3 = some (e, r, o0, o1, o2, o3, o4, o5, o6, o7, o8, o9, o10, o11)) (hk : EK [(0, 0), (1, 1), (2, 2), (5, 3)] e k) : ∃ ot', F_L_put co z pr le ec wt ev c_filled c_th c_ep c_rule c_cm c_vs c_es ot p1 p2 p3 = some (k, o0, o1, o2, o3, o4, o5, o6, o7, o8, o9, o10, o11, ot') ∧ (k = 0 → e = 0 ∧ ot' 0 = Int32.toInt64 r) := by
  unfold F_L_put
  obtain ⟨q, hq, rfl, rfl⟩ := hk
  simp only [List.mem_cons, List.not_mem_nil, or_false] at hq
  rcases hq with rfl | rfl | rfl | rfl
  · exact ⟨vp_updL ot 0 (Int32.toInt64 r), ob h ((if_pos rfl).trans (g0L _ _ _)), fun _ => ⟨rfl, uL_s _ _ _⟩⟩
  · exact ⟨ot, ob h ((if_neg (show ¬ (1 : Nat) = 0 by decide)).trans ((if_pos rfl).trans rfl)), fun z => absurd z (by decide)⟩
  · exact ⟨ot, ob h ((if_neg (show ¬ (2 : Nat) = 0 by decide)).trans ((if_neg (show ¬ (2 : Nat) = 1 by decide)).trans ((if_pos rfl).trans rfl))), fun z => absurd z (by decide)⟩
  · exact ⟨ot, ob h ((if_neg (show ¬ (5 : Nat) = 0 by decide)).trans ((if_neg (show ¬ (5 : Nat) = 1 by decide)).trans ((if_neg (show ¬ (5 : Nat) = 2 by decide)).trans ((if_pos rfl).trans rfl)))), fun z => absurd z (by decide)⟩
theorem W_remove {le : Int32} {ec : Int32} {ev : Nat → Int32} {c_filled : Int32} {c_ep : Int32} {c_rule : Option Nat} {c_vs : Nat → Int32} {c_es : Nat → Int32} {ot : Nat → Int64} {p1 : Int32} {o0 : Int32} {o1 : Int32} {o2 : (Nat → Int32)} {o3 : Int32} {o4 : Option Nat} {o5 : (Nat → Int32)} {o6 : (Nat → Int32)} {e : Nat} {r : Int32} {k : Int32} (h : F_X10_remove le ec ev c_filled c_ep c_rule c_vs c_es p1 = some (e, r, o0, o1, o2, o3, o4, o5, o6)) (hk : EK [(0, 0), (1, 1), (3, 2)] e k) : ∃ ot', F_L_remove le ec ev c_filled c_ep c_rule c_vs c_es ot p1 = some (k, o0, o1, o2, o3, o4, o5, o6, ot') ∧ (k = 0 → e = 0 ∧ ot' 0 = Int32.toInt64 r) := by
  unfold F_L_remove
  obtain ⟨q, hq, rfl, rfl⟩ := hk
  simp only [List.mem_cons, List.not_mem_nil, or_false] at hq
  rcases hq with rfl | rfl | rfl
  · exact ⟨vp_updL ot 0 (Int32.toInt64 r), ob h ((if_pos rfl).trans (g0L _ _ _)), fun _ => ⟨rfl, uL_s _ _ _⟩⟩
  · exact ⟨ot, ob h ((if_neg (show ¬ (1 : Nat) = 0 by decide)).trans ((if_pos rfl).trans rfl)), fun z => absurd z (by decide)⟩
  · exact ⟨ot, ob h ((if_neg (show ¬ (3 : Nat) = 0 by decide)).trans ((if_neg (show ¬ (3 : Nat) = 1 by decide)).trans ((if_pos rfl).trans rfl))), fun z => absurd z (by decide)⟩
theorem W_refresh {co : Nat → Int32} {z : Int32} {pr : Int32} {le : Int32} {ec : Int32} {ev : Nat → Int32} {c_filled : Int32} {c_th : Int32} {c_ep : Int32} {c_cm : Nat → Int32} {c_vs : Nat → Int32} {c_es : Nat → Int32} {ot : Nat → Int64} {p1 : Int32} {o0 : (Nat → Int32)} {o1 : Int32} {o2 : Int32} {o3 : Int32} {o4 : (Nat → Int32)} {o5 : Int32} {o6 : (Nat → Int32)} {o7 : (Nat → Int32)} {o8 : (Nat → Int32)} {e : Nat} {r : Int32} {k : Int32} (h : F_X10_refresh co z pr le ec ev c_filled c_th c_ep c_cm c_vs c_es p1 = some (e, r, o0, o1, o2, o3, o4, o5, o6, o7, o8)) (hk : EK [(0, 0), (1, 1), (3, 2)] e k) : ∃ ot', F_L_refresh co z pr le ec ev c_filled c_th c_ep c_cm c_vs c_es ot p1 = some (k, o0, o1, o2, o3, o4, o5, o6, o7, o8, ot') ∧ (k = 0 → e = 0 ∧ ot' 0 = Int32.toInt64 r) := by
  unfold F_L_refresh
  obtain ⟨q, hq, rfl, rfl⟩ := hk
  simp only [List.mem_cons, List.not_mem_nil, or_false] at hq
  rcases hq with rfl | rfl | rfl
  · exact ⟨vp_updL ot 0 (Int32.toInt64 r), ob h ((if_pos rfl).trans (g0L _ _ _)), fun _ => ⟨rfl, uL_s _ _ _⟩⟩
  · exact ⟨ot, ob h ((if_neg (show ¬ (1 : Nat) = 0 by decide)).trans ((if_pos rfl).trans rfl)), fun z => absurd z (by decide)⟩
  · exact ⟨ot, ob h ((if_neg (show ¬ (3 : Nat) = 0 by decide)).trans ((if_neg (show ¬ (3 : Nat) = 1 by decide)).trans ((if_pos rfl).trans rfl))), fun z => absurd z (by decide)⟩
theorem W_reshare {co : Nat → Int32} {ch : Nat → Int32} {z : Int32} {pr : Int32} {le : Int32} {ec : Int32} {wt : Nat → Int32} {ev : Nat → Int32} {c_filled : Int32} {c_th : Int32} {c_ep : Int32} {c_rule : Option Nat} {c_cm : Nat → Int32} {c_vs : Nat → Int32} {c_es : Nat → Int32} {rs : Int32} {rc : Nat → Int32} {rd : Nat → Int32} {ot : Nat → Int64} {ful : Nat → Int32} {p1 : Int32} {p2 : Int32} {p3 : Int32} {o0 : (Nat → Int32)} {o1 : (Nat → Int32)} {o2 : Int32} {o3 : Int32} {o4 : Int32} {o5 : (Nat → Int32)} {o6 : Int32} {o7 : Int32} {o8 : (Nat → Int32)} {o9 : (Nat → Int32)} {o10 : (Nat → Int32)} {o11 : Int32} {o12 : (Nat → Int32)} {o13 : (Nat → Int32)} {e : Nat} {r : Int32} {k : Int32} (h : F_X10_reshare co ch z pr le ec wt ev c_filled c_th c_ep c_rule c_cm c_vs c_es rs rc rd ful p1 p2 p3 = some (e, r, o0, o1, o2, o3, o4, o5, o6, o7, o8, o9, o10, o11, o12, o13)) (hk : EK [(0, 0), (1, 1), (2, 2), (3, 3), (4, 4), (5, 5)] e k) : ∃ ot', F_L_reshare co ch z pr le ec wt ev c_filled c_th c_ep c_rule c_cm c_vs c_es rs rc rd ot ful p1 p2 p3 = some (k, o0, o1, o2, o3, o4, o5, o6, o7, o8, o9, o10, o11, o12, o13, ot') ∧ (k = 0 → e = 0 ∧ ot' 0 = Int32.toInt64 r) := by
  unfold F_L_reshare
  obtain ⟨q, hq, rfl, rfl⟩ := hk
  simp only [List.mem_cons, List.not_mem_nil, or_false] at hq
  rcases hq with rfl | rfl | rfl | rfl | rfl | rfl
  · exact ⟨vp_updL ot 0 (Int32.toInt64 r), ob h ((if_pos rfl).trans (g0L _ _ _)), fun _ => ⟨rfl, uL_s _ _ _⟩⟩
  · exact ⟨ot, ob h ((if_neg (show ¬ (1 : Nat) = 0 by decide)).trans ((if_pos rfl).trans rfl)), fun z => absurd z (by decide)⟩
  · exact ⟨ot, ob h ((if_neg (show ¬ (2 : Nat) = 0 by decide)).trans ((if_neg (show ¬ (2 : Nat) = 1 by decide)).trans ((if_pos rfl).trans rfl))), fun z => absurd z (by decide)⟩
  · exact ⟨ot, ob h ((if_neg (show ¬ (3 : Nat) = 0 by decide)).trans ((if_neg (show ¬ (3 : Nat) = 1 by decide)).trans ((if_neg (show ¬ (3 : Nat) = 2 by decide)).trans ((if_pos rfl).trans rfl)))), fun z => absurd z (by decide)⟩
  · exact ⟨ot, ob h ((if_neg (show ¬ (4 : Nat) = 0 by decide)).trans ((if_neg (show ¬ (4 : Nat) = 1 by decide)).trans ((if_neg (show ¬ (4 : Nat) = 2 by decide)).trans ((if_neg (show ¬ (4 : Nat) = 3 by decide)).trans ((if_pos rfl).trans rfl))))), fun z => absurd z (by decide)⟩
  · exact ⟨ot, ob h ((if_neg (show ¬ (5 : Nat) = 0 by decide)).trans ((if_neg (show ¬ (5 : Nat) = 1 by decide)).trans ((if_neg (show ¬ (5 : Nat) = 2 by decide)).trans ((if_neg (show ¬ (5 : Nat) = 3 by decide)).trans ((if_neg (show ¬ (5 : Nat) = 4 by decide)).trans ((if_pos rfl).trans rfl)))))), fun z => absurd z (by decide)⟩
theorem W_enroll {ch : Nat → Int32} {pr : Int32} {le : Int32} {ec : Int32} {wt : Nat → Int32} {ev : Nat → Int32} {c_filled : Int32} {c_th : Int32} {c_ep : Int32} {c_rule : Option Nat} {c_cm : Nat → Int32} {c_vs : Nat → Int32} {c_es : Nat → Int32} {rs : Int32} {rc : Nat → Int32} {rd : Nat → Int32} {ot : Nat → Int64} {ful : Nat → Int32} {p1 : Int32} {p2 : Int32} {p3 : Int32} {o0 : (Nat → Int32)} {o1 : Int32} {o2 : Int32} {o3 : (Nat → Int32)} {o4 : (Nat → Int32)} {o5 : (Nat → Int32)} {o6 : Int32} {o7 : (Nat → Int32)} {o8 : (Nat → Int32)} {e : Nat} {r : Int32} {k : Int32} (h : F_X10_enroll ch pr le ec wt ev c_filled c_th c_ep c_rule c_cm c_vs c_es rs rc rd ful p1 p2 p3 = some (e, r, o0, o1, o2, o3, o4, o5, o6, o7, o8)) (hk : EK [(0, 0), (1, 1), (2, 2), (3, 3), (4, 4)] e k) : ∃ ot', F_L_enroll ch pr le ec wt ev c_filled c_th c_ep c_rule c_cm c_vs c_es rs rc rd ot ful p1 p2 p3 = some (k, o0, o1, o2, o3, o4, o5, o6, o7, o8, ot') ∧ (k = 0 → e = 0 ∧ ot' 0 = Int32.toInt64 r) := by
  unfold F_L_enroll
  obtain ⟨q, hq, rfl, rfl⟩ := hk
  simp only [List.mem_cons, List.not_mem_nil, or_false] at hq
  rcases hq with rfl | rfl | rfl | rfl | rfl
  · exact ⟨vp_updL ot 0 (Int32.toInt64 r), ob h ((if_pos rfl).trans (g0L _ _ _)), fun _ => ⟨rfl, uL_s _ _ _⟩⟩
  · exact ⟨ot, ob h ((if_neg (show ¬ (1 : Nat) = 0 by decide)).trans ((if_pos rfl).trans rfl)), fun z => absurd z (by decide)⟩
  · exact ⟨ot, ob h ((if_neg (show ¬ (2 : Nat) = 0 by decide)).trans ((if_neg (show ¬ (2 : Nat) = 1 by decide)).trans ((if_pos rfl).trans rfl))), fun z => absurd z (by decide)⟩
  · exact ⟨ot, ob h ((if_neg (show ¬ (3 : Nat) = 0 by decide)).trans ((if_neg (show ¬ (3 : Nat) = 1 by decide)).trans ((if_neg (show ¬ (3 : Nat) = 2 by decide)).trans ((if_pos rfl).trans rfl)))), fun z => absurd z (by decide)⟩
  · exact ⟨ot, ob h ((if_neg (show ¬ (4 : Nat) = 0 by decide)).trans ((if_neg (show ¬ (4 : Nat) = 1 by decide)).trans ((if_neg (show ¬ (4 : Nat) = 2 by decide)).trans ((if_neg (show ¬ (4 : Nat) = 3 by decide)).trans ((if_pos rfl).trans rfl))))), fun z => absurd z (by decide)⟩
theorem W_expel {le : Int32} {ec : Int32} {ev : Nat → Int32} {c_filled : Int32} {c_vs : Nat → Int32} {c_es : Nat → Int32} {ot : Nat → Int64} {p1 : Int32} {p2 : Int32} {o0 : Int32} {o1 : Int32} {o2 : (Nat → Int32)} {o3 : (Nat → Int32)} {o4 : (Nat → Int32)} {e : Nat} {r : Int32} {k : Int32} (h : F_X10_expel le ec ev c_filled c_vs c_es p1 p2 = some (e, r, o0, o1, o2, o3, o4)) (hk : EK [(0, 0), (1, 1), (3, 2)] e k) : ∃ ot', F_L_expel le ec ev c_filled c_vs c_es ot p1 p2 = some (k, o0, o1, o2, o3, o4, ot') ∧ (k = 0 → e = 0 ∧ ot' 0 = Int32.toInt64 r) := by
  unfold F_L_expel
  obtain ⟨q, hq, rfl, rfl⟩ := hk
  simp only [List.mem_cons, List.not_mem_nil, or_false] at hq
  rcases hq with rfl | rfl | rfl
  · exact ⟨vp_updL ot 0 (Int32.toInt64 r), ob h ((if_pos rfl).trans (g0L _ _ _)), fun _ => ⟨rfl, uL_s _ _ _⟩⟩
  · exact ⟨ot, ob h ((if_neg (show ¬ (1 : Nat) = 0 by decide)).trans ((if_pos rfl).trans rfl)), fun z => absurd z (by decide)⟩
  · exact ⟨ot, ob h ((if_neg (show ¬ (3 : Nat) = 0 by decide)).trans ((if_neg (show ¬ (3 : Nat) = 1 by decide)).trans ((if_pos rfl).trans rfl))), fun z => absurd z (by decide)⟩
theorem W_open {ch : Nat → Int32} {pr : Int32} {le : Int32} {ec : Int32} {ev : Nat → Int32} {c_filled : Int32} {c_th : Int32} {c_ep : Int32} {c_rule : Option Nat} {c_cm : Nat → Int32} {c_vs : Nat → Int32} {c_es : Nat → Int32} {rs : Int32} {rc : Nat → Int32} {rd : Nat → Int32} {ot : Nat → Int64} {ful : Nat → Int32} {p1 : Int32} {p2 : Int32} {o0 : (Nat → Int32)} {o1 : Int32} {o2 : Int32} {o3 : (Nat → Int32)} {o4 : Int32} {o5 : (Nat → Int32)} {o6 : (Nat → Int32)} {e : Nat} {r : Int32} {k : Int32} (h : F_X10_open ch pr le ec ev c_filled c_th c_ep c_rule c_cm c_vs c_es rs rc rd ful p1 p2 = some (e, r, o0, o1, o2, o3, o4, o5, o6)) (hk : EK [(0, 0), (1, 1), (2, 2), (3, 3), (4, 4)] e k) : ∃ ot', F_L_open ch pr le ec ev c_filled c_th c_ep c_rule c_cm c_vs c_es rs rc rd ot ful p1 p2 = some (k, o0, o1, o2, o3, o4, o5, o6, ot') ∧ (k = 0 → e = 0 ∧ ot' 0 = Int32.toInt64 r) := by
  unfold F_L_open
  obtain ⟨q, hq, rfl, rfl⟩ := hk
  simp only [List.mem_cons, List.not_mem_nil, or_false] at hq
  rcases hq with rfl | rfl | rfl | rfl | rfl
  · exact ⟨vp_updL ot 0 (Int32.toInt64 r), ob h ((if_pos rfl).trans (g0L _ _ _)), fun _ => ⟨rfl, uL_s _ _ _⟩⟩
  · exact ⟨ot, ob h ((if_neg (show ¬ (1 : Nat) = 0 by decide)).trans ((if_pos rfl).trans rfl)), fun z => absurd z (by decide)⟩
  · exact ⟨ot, ob h ((if_neg (show ¬ (2 : Nat) = 0 by decide)).trans ((if_neg (show ¬ (2 : Nat) = 1 by decide)).trans ((if_pos rfl).trans rfl))), fun z => absurd z (by decide)⟩
  · exact ⟨ot, ob h ((if_neg (show ¬ (3 : Nat) = 0 by decide)).trans ((if_neg (show ¬ (3 : Nat) = 1 by decide)).trans ((if_neg (show ¬ (3 : Nat) = 2 by decide)).trans ((if_pos rfl).trans rfl)))), fun z => absurd z (by decide)⟩
  · exact ⟨ot, ob h ((if_neg (show ¬ (4 : Nat) = 0 by decide)).trans ((if_neg (show ¬ (4 : Nat) = 1 by decide)).trans ((if_neg (show ¬ (4 : Nat) = 2 by decide)).trans ((if_neg (show ¬ (4 : Nat) = 3 by decide)).trans ((if_pos rfl).trans rfl))))), fun z => absurd z (by decide)⟩
theorem W_combine {ch : Nat → Int32} {c_filled : Int32} {c_th : Int32} {c_ep : Int32} {c_cm : Nat → Int32} {c_vs : Nat → Int32} {c_es : Nat → Int32} {ot : Nat → Int64} {p1 : Int32} {p2 : Int32} {o0 : (Nat → Int32)} {e : Nat} {r : Int32} {k : Int32} (h : F_X10_combine ch c_filled c_th c_ep c_cm c_vs c_es p1 p2 = some (e, r, o0)) (hk : EK [(0, 0), (1, 1), (2, 2), (3, 3), (5, 4)] e k) : ∃ ot', F_L_combine ch c_filled c_th c_ep c_cm c_vs c_es ot p1 p2 = some (k, o0, ot') ∧ (k = 0 → e = 0 ∧ ot' 0 = Int32.toInt64 r) := by
  unfold F_L_combine
  obtain ⟨q, hq, rfl, rfl⟩ := hk
  simp only [List.mem_cons, List.not_mem_nil, or_false] at hq
  rcases hq with rfl | rfl | rfl | rfl | rfl
  · exact ⟨vp_updL ot 0 (Int32.toInt64 r), ob h ((if_pos rfl).trans (g0L _ _ _)), fun _ => ⟨rfl, uL_s _ _ _⟩⟩
  · exact ⟨ot, ob h ((if_neg (show ¬ (1 : Nat) = 0 by decide)).trans ((if_pos rfl).trans rfl)), fun z => absurd z (by decide)⟩
  · exact ⟨ot, ob h ((if_neg (show ¬ (2 : Nat) = 0 by decide)).trans ((if_neg (show ¬ (2 : Nat) = 1 by decide)).trans ((if_pos rfl).trans rfl))), fun z => absurd z (by decide)⟩
  · exact ⟨ot, ob h ((if_neg (show ¬ (3 : Nat) = 0 by decide)).trans ((if_neg (show ¬ (3 : Nat) = 1 by decide)).trans ((if_neg (show ¬ (3 : Nat) = 2 by decide)).trans ((if_pos rfl).trans rfl)))), fun z => absurd z (by decide)⟩
  · exact ⟨ot, ob h ((if_neg (show ¬ (5 : Nat) = 0 by decide)).trans ((if_neg (show ¬ (5 : Nat) = 1 by decide)).trans ((if_neg (show ¬ (5 : Nat) = 2 by decide)).trans ((if_neg (show ¬ (5 : Nat) = 3 by decide)).trans ((if_pos rfl).trans rfl))))), fun z => absurd z (by decide)⟩
theorem W_agree {ch : Nat → Int32} {c_filled : Int32} {c_th : Int32} {c_ep : Int32} {c_cm : Nat → Int32} {c_vs : Nat → Int32} {c_es : Nat → Int32} {ot : Nat → Int64} {p1 : Int32} {p2 : Int32} {o0 : (Nat → Int32)} {e : Nat} {r : Int32} {k : Int32} (h : F_X10_agree ch c_filled c_th c_ep c_cm c_vs c_es p1 p2 = some (e, r, o0)) (hk : EK [(0, 0), (1, 1), (2, 2), (3, 3)] e k) : ∃ ot', F_L_agree ch c_filled c_th c_ep c_cm c_vs c_es ot p1 p2 = some (k, o0, ot') ∧ (k = 0 → e = 0 ∧ ot' 0 = if r = 0 then 0 else 1) := by
  unfold F_L_agree F_L_agree_L16
  obtain ⟨q, hq, rfl, rfl⟩ := hk
  simp only [List.mem_cons, List.not_mem_nil, or_false] at hq
  rcases hq with rfl | rfl | rfl | rfl
  · by_cases h0 : r = 0
    · exact ⟨vp_updL ot 0 0, ob h ((if_pos rfl).trans ((if_pos h0).trans (g0L _ _ _))), fun _ => ⟨rfl, by rw [if_pos h0]; exact uL_s _ _ _⟩⟩
    · exact ⟨vp_updL ot 0 1, ob h ((if_pos rfl).trans ((if_neg h0).trans (g0L _ _ _))), fun _ => ⟨rfl, by rw [if_neg h0]; exact uL_s _ _ _⟩⟩
  · exact ⟨ot, ob h ((if_neg (show ¬ (1 : Nat) = 0 by decide)).trans ((if_pos rfl).trans rfl)), fun z => absurd z (by decide)⟩
  · exact ⟨ot, ob h ((if_neg (show ¬ (2 : Nat) = 0 by decide)).trans ((if_neg (show ¬ (2 : Nat) = 1 by decide)).trans ((if_pos rfl).trans rfl))), fun z => absurd z (by decide)⟩
  · exact ⟨ot, ob h ((if_neg (show ¬ (3 : Nat) = 0 by decide)).trans ((if_neg (show ¬ (3 : Nat) = 1 by decide)).trans ((if_neg (show ¬ (3 : Nat) = 2 by decide)).trans ((if_pos rfl).trans rfl)))), fun z => absurd z (by decide)⟩
theorem W_secret {c_filled : Int32} {c_th : Int32} {c_ep : Int32} {c_rule : Option Nat} {c_cm : Nat → Int32} {c_vs : Nat → Int32} {c_es : Nat → Int32} {ot : Nat → Int64} {p1 : Int32} {p2 : Int32}  {e : Nat} {r : Int32} {k : Int32} (h : F_X10_secret c_filled c_th c_ep c_rule c_cm c_vs c_es p1 p2 = some (e, r)) (hk : EK [(0, 0), (1, 1), (2, 2), (3, 3)] e k) : ∃ ot', F_L_secret c_filled c_th c_ep c_rule c_cm c_vs c_es ot p1 p2 = some (k, ot') ∧ (k = 0 → e = 0 ∧ ot' 0 = Int32.toInt64 r) := by
  unfold F_L_secret
  obtain ⟨q, hq, rfl, rfl⟩ := hk
  simp only [List.mem_cons, List.not_mem_nil, or_false] at hq
  rcases hq with rfl | rfl | rfl | rfl
  · exact ⟨vp_updL ot 0 (Int32.toInt64 r), ob h ((if_pos rfl).trans (g0L _ _ _)), fun _ => ⟨rfl, uL_s _ _ _⟩⟩
  · exact ⟨ot, ob h ((if_neg (show ¬ (1 : Nat) = 0 by decide)).trans ((if_pos rfl).trans rfl)), fun z => absurd z (by decide)⟩
  · exact ⟨ot, ob h ((if_neg (show ¬ (2 : Nat) = 0 by decide)).trans ((if_neg (show ¬ (2 : Nat) = 1 by decide)).trans ((if_pos rfl).trans rfl))), fun z => absurd z (by decide)⟩
  · exact ⟨ot, ob h ((if_neg (show ¬ (3 : Nat) = 0 by decide)).trans ((if_neg (show ¬ (3 : Nat) = 1 by decide)).trans ((if_neg (show ¬ (3 : Nat) = 2 by decide)).trans ((if_pos rfl).trans rfl)))), fun z => absurd z (by decide)⟩
theorem W_commitment {c_filled : Int32} {c_th : Int32} {c_cm : Nat → Int32} {ot : Nat → Int64} {p1 : Int32} {p2 : Int32}  {e : Nat} {r : Int32} {k : Int32} (h : F_X10_commitment c_filled c_th c_cm p1 p2 = some (e, r)) (hk : EK [(0, 0), (1, 1), (3, 2)] e k) : ∃ ot', F_L_commitment c_filled c_th c_cm ot p1 p2 = some (k, ot') ∧ (k = 0 → e = 0 ∧ ot' 0 = Int32.toInt64 r) := by
  unfold F_L_commitment
  obtain ⟨q, hq, rfl, rfl⟩ := hk
  simp only [List.mem_cons, List.not_mem_nil, or_false] at hq
  rcases hq with rfl | rfl | rfl
  · exact ⟨vp_updL ot 0 (Int32.toInt64 r), ob h ((if_pos rfl).trans (g0L _ _ _)), fun _ => ⟨rfl, uL_s _ _ _⟩⟩
  · exact ⟨ot, ob h ((if_neg (show ¬ (1 : Nat) = 0 by decide)).trans ((if_pos rfl).trans rfl)), fun z => absurd z (by decide)⟩
  · exact ⟨ot, ob h ((if_neg (show ¬ (3 : Nat) = 0 by decide)).trans ((if_neg (show ¬ (3 : Nat) = 1 by decide)).trans ((if_pos rfl).trans rfl))), fun z => absurd z (by decide)⟩
theorem W_share {c_filled : Int32} {c_th : Int32} {c_ep : Int32} {c_cm : Nat → Int32} {c_vs : Nat → Int32} {c_es : Nat → Int32} {ot : Nat → Int64} {p1 : Int32} {p2 : Int32} {p3 : Int32}  {e : Nat} {r : Int32} {k : Int32} (h : F_X10_share c_filled c_th c_ep c_cm c_vs c_es p1 p2 p3 = some (e, r)) (hk : EK [(0, 0), (1, 1), (2, 2), (3, 3)] e k) : ∃ ot', F_L_share c_filled c_th c_ep c_cm c_vs c_es ot p1 p2 p3 = some (k, ot') ∧ (k = 0 → e = 0 ∧ ot' 0 = Int32.toInt64 r) := by
  unfold F_L_share
  obtain ⟨q, hq, rfl, rfl⟩ := hk
  simp only [List.mem_cons, List.not_mem_nil, or_false] at hq
  rcases hq with rfl | rfl | rfl | rfl
  · exact ⟨vp_updL ot 0 (Int32.toInt64 r), ob h ((if_pos rfl).trans (g0L _ _ _)), fun _ => ⟨rfl, uL_s _ _ _⟩⟩
  · exact ⟨ot, ob h ((if_neg (show ¬ (1 : Nat) = 0 by decide)).trans ((if_pos rfl).trans rfl)), fun z => absurd z (by decide)⟩
  · exact ⟨ot, ob h ((if_neg (show ¬ (2 : Nat) = 0 by decide)).trans ((if_neg (show ¬ (2 : Nat) = 1 by decide)).trans ((if_pos rfl).trans rfl))), fun z => absurd z (by decide)⟩
  · exact ⟨ot, ob h ((if_neg (show ¬ (3 : Nat) = 0 by decide)).trans ((if_neg (show ¬ (3 : Nat) = 1 by decide)).trans ((if_neg (show ¬ (3 : Nat) = 2 by decide)).trans ((if_pos rfl).trans rfl)))), fun z => absurd z (by decide)⟩
theorem W_setShare {c_filled : Int32} {c_vs : Nat → Int32} {c_es : Nat → Int32} {ot : Nat → Int64} {p1 : Int32} {p2 : Int32} {p3 : Int32} {o0 : (Nat → Int32)} {e : Nat} {r : Int32} {k : Int32} (h : F_X10_setShare c_filled c_vs c_es p1 p2 p3 = some (e, r, o0)) (hk : EK [(0, 0), (1, 1), (2, 2), (3, 3)] e k) : ∃ ot', F_L_setShare c_filled c_vs c_es ot p1 p2 p3 = some (k, o0, ot') ∧ (k = 0 → e = 0 ∧ ot' 0 = Int32.toInt64 r) := by
  unfold F_L_setShare
  obtain ⟨q, hq, rfl, rfl⟩ := hk
  simp only [List.mem_cons, List.not_mem_nil, or_false] at hq
  rcases hq with rfl | rfl | rfl | rfl
  · exact ⟨vp_updL ot 0 (Int32.toInt64 r), ob h ((if_pos rfl).trans (g0L _ _ _)), fun _ => ⟨rfl, uL_s _ _ _⟩⟩
  · exact ⟨ot, ob h ((if_neg (show ¬ (1 : Nat) = 0 by decide)).trans ((if_pos rfl).trans rfl)), fun z => absurd z (by decide)⟩
  · exact ⟨ot, ob h ((if_neg (show ¬ (2 : Nat) = 0 by decide)).trans ((if_neg (show ¬ (2 : Nat) = 1 by decide)).trans ((if_pos rfl).trans rfl))), fun z => absurd z (by decide)⟩
  · exact ⟨ot, ob h ((if_neg (show ¬ (3 : Nat) = 0 by decide)).trans ((if_neg (show ¬ (3 : Nat) = 1 by decide)).trans ((if_neg (show ¬ (3 : Nat) = 2 by decide)).trans ((if_pos rfl).trans rfl)))), fun z => absurd z (by decide)⟩
theorem W_shareText {c_filled : Int32} {c_vs : Nat → Int32} {c_es : Nat → Int32} {ml : Int32} {n : Int32} {cap : Nat} {bs : Nat → Int32} {ot : Nat → Int64} {p1 : Int32} {p2 : Int32} {p3 : Int32} {o0 : Int32} {o1 : Int32} {o2 : Nat} {o3 : (Nat → Int32)} {e : Nat} {r : Int32} {k : Int32} (h : F_X10_shareText c_filled c_vs c_es ml n cap bs p1 p2 p3 = some (e, r, o0, o1, o2, o3)) (hk : EK [(0, 0), (1, 1), (3, 2)] e k) : ∃ ot', F_L_shareText c_filled c_vs c_es ml n cap bs ot p1 p2 p3 = some (k, o0, o1, o2, o3, ot') ∧ (k = 0 → e = 0 ∧ ot' 0 = Int32.toInt64 r) := by
  unfold F_L_shareText
  obtain ⟨q, hq, rfl, rfl⟩ := hk
  simp only [List.mem_cons, List.not_mem_nil, or_false] at hq
  rcases hq with rfl | rfl | rfl
  · exact ⟨vp_updL ot 0 (Int32.toInt64 r), ob h ((if_pos rfl).trans (g0L _ _ _)), fun _ => ⟨rfl, uL_s _ _ _⟩⟩
  · exact ⟨ot, ob h ((if_neg (show ¬ (1 : Nat) = 0 by decide)).trans ((if_pos rfl).trans rfl)), fun z => absurd z (by decide)⟩
  · exact ⟨ot, ob h ((if_neg (show ¬ (3 : Nat) = 0 by decide)).trans ((if_neg (show ¬ (3 : Nat) = 1 by decide)).trans ((if_pos rfl).trans rfl))), fun z => absurd z (by decide)⟩
theorem W_importShare {fa : Int32} {c_filled : Int32} {c_vs : Nat → Int32} {c_es : Nat → Int32} {ml : Int32} {n : Int32} {cap : Nat} {bs : Nat → Int32} {ot : Nat → Int64} {p1 : Int32} {o0 : Int32} {o1 : (Nat → Int32)} {o2 : (Nat → Int32)} {o3 : Int32} {o4 : Int32} {o5 : Nat} {o6 : (Nat → Int32)} {e : Nat} {r : Int32} {k : Int32} (h : F_X10_importShare fa c_filled c_vs c_es ml n cap bs p1 = some (e, r, o0, o1, o2, o3, o4, o5, o6)) (hk : EK [(0, 0), (1, 1), (3, 2), (2, 3)] e k) : ∃ ot', F_L_importShare fa c_filled c_vs c_es ml n cap bs ot p1 = some (k, o0, o1, o2, o3, o4, o5, o6, ot') ∧ (k = 0 → e = 0 ∧ ot' 0 = Int32.toInt64 r) := by
  unfold F_L_importShare
  obtain ⟨q, hq, rfl, rfl⟩ := hk
  simp only [List.mem_cons, List.not_mem_nil, or_false] at hq
  rcases hq with rfl | rfl | rfl | rfl
  · exact ⟨vp_updL ot 0 (Int32.toInt64 r), ob h ((if_pos rfl).trans (g0L _ _ _)), fun _ => ⟨rfl, uL_s _ _ _⟩⟩
  · exact ⟨ot, ob h ((if_neg (show ¬ (1 : Nat) = 0 by decide)).trans ((if_pos rfl).trans rfl)), fun z => absurd z (by decide)⟩
  · exact ⟨ot, ob h ((if_neg (show ¬ (3 : Nat) = 0 by decide)).trans ((if_neg (show ¬ (3 : Nat) = 1 by decide)).trans ((if_pos rfl).trans rfl))), fun z => absurd z (by decide)⟩
  · exact ⟨ot, ob h ((if_neg (show ¬ (2 : Nat) = 0 by decide)).trans ((if_neg (show ¬ (2 : Nat) = 1 by decide)).trans ((if_neg (show ¬ (2 : Nat) = 3 by decide)).trans ((if_pos rfl).trans rfl)))), fun z => absurd z (by decide)⟩
theorem W_bad {c_filled : Int32} {c_th : Int32} {c_ep : Int32} {c_cm : Nat → Int32} {c_vs : Nat → Int32} {c_es : Nat → Int32} {ot : Nat → Int64} {p1 : Int32} {p2 : Int32}  {e : Nat} {r : Int32} {k : Int32} (h : F_X10_bad c_filled c_th c_ep c_cm c_vs c_es p1 p2 = some (e, r)) (hk : EK [(0, 0), (1, 1), (3, 2)] e k) : ∃ ot', F_L_bad c_filled c_th c_ep c_cm c_vs c_es ot p1 p2 = some (k, ot') ∧ (k = 0 → e = 0 ∧ ot' 0 = Int32.toInt64 r) := by
  unfold F_L_bad
  obtain ⟨q, hq, rfl, rfl⟩ := hk
  simp only [List.mem_cons, List.not_mem_nil, or_false] at hq
  rcases hq with rfl | rfl | rfl
  · exact ⟨vp_updL ot 0 (Int32.toInt64 r), ob h ((if_pos rfl).trans (g0L _ _ _)), fun _ => ⟨rfl, uL_s _ _ _⟩⟩
  · exact ⟨ot, ob h ((if_neg (show ¬ (1 : Nat) = 0 by decide)).trans ((if_pos rfl).trans rfl)), fun z => absurd z (by decide)⟩
  · exact ⟨ot, ob h ((if_neg (show ¬ (3 : Nat) = 0 by decide)).trans ((if_neg (show ¬ (3 : Nat) = 1 by decide)).trans ((if_pos rfl).trans rfl))), fun z => absurd z (by decide)⟩
theorem W_append {n : Int32} {cap : Nat} {bs : Nat → Int32} {ot : Nat → Int64} {p1 : Int32} {o0 : Int32} {o1 : Nat} {o2 : (Nat → Int32)} {e : Nat} {r : Int32} {k : Int32} (h : F_X10_append n cap bs p1 = some (e, r, o0, o1, o2)) (hk : EK [(0, 0), (2, 1), (5, 2)] e k) : ∃ ot', F_L_append n cap bs ot p1 = some (k, o0, o1, o2, ot') ∧ (k = 0 → e = 0 ∧ ot' 0 = Int32.toInt64 r) := by
  unfold F_L_append
  obtain ⟨q, hq, rfl, rfl⟩ := hk
  simp only [List.mem_cons, List.not_mem_nil, or_false] at hq
  rcases hq with rfl | rfl | rfl
  · exact ⟨vp_updL ot 0 (Int32.toInt64 r), ob h ((if_pos rfl).trans (g0L _ _ _)), fun _ => ⟨rfl, uL_s _ _ _⟩⟩
  · exact ⟨ot, ob h ((if_neg (show ¬ (2 : Nat) = 0 by decide)).trans ((if_pos rfl).trans rfl)), fun z => absurd z (by decide)⟩
  · exact ⟨ot, ob h ((if_neg (show ¬ (5 : Nat) = 0 by decide)).trans ((if_neg (show ¬ (5 : Nat) = 2 by decide)).trans ((if_pos rfl).trans rfl))), fun z => absurd z (by decide)⟩
theorem W_fulfils {c_filled : Int32} {c_rule : Option Nat} {ot : Nat → Int64} {ful : Nat → Int32} {p1 : Int32} {p2 : Int32}  {e : Nat} {r : Int32} {k : Int32} (h : F_X10_fulfils c_filled c_rule ful p1 p2 = some (e, r)) (hk : EK [(0, 0), (1, 1), (2, 2), (3, 3)] e k) : ∃ ot', F_L_fulfils c_filled c_rule ot ful p1 p2 = some (k, ot') ∧ (k = 0 → e = 0 ∧ ot' 0 = if r = 0 then 0 else 1) := by
  unfold F_L_fulfils F_L_fulfils_L16
  obtain ⟨q, hq, rfl, rfl⟩ := hk
  simp only [List.mem_cons, List.not_mem_nil, or_false] at hq
  rcases hq with rfl | rfl | rfl | rfl
  · by_cases h0 : r = 0
    · exact ⟨vp_updL ot 0 0, ob h ((if_pos rfl).trans ((if_pos h0).trans (g0L _ _ _))), fun _ => ⟨rfl, by rw [if_pos h0]; exact uL_s _ _ _⟩⟩
    · exact ⟨vp_updL ot 0 1, ob h ((if_pos rfl).trans ((if_neg h0).trans (g0L _ _ _))), fun _ => ⟨rfl, by rw [if_neg h0]; exact uL_s _ _ _⟩⟩
  · exact ⟨ot, ob h ((if_neg (show ¬ (1 : Nat) = 0 by decide)).trans ((if_pos rfl).trans rfl)), fun z => absurd z (by decide)⟩
  · exact ⟨ot, ob h ((if_neg (show ¬ (2 : Nat) = 0 by decide)).trans ((if_neg (show ¬ (2 : Nat) = 1 by decide)).trans ((if_pos rfl).trans rfl))), fun z => absurd z (by decide)⟩
  · exact ⟨ot, ob h ((if_neg (show ¬ (3 : Nat) = 0 by decide)).trans ((if_neg (show ¬ (3 : Nat) = 1 by decide)).trans ((if_neg (show ¬ (3 : Nat) = 2 by decide)).trans ((if_pos rfl).trans rfl)))), fun z => absurd z (by decide)⟩
theorem W_policyText {c_filled : Int32} {c_rule : Option Nat} {ot : Nat → Int64} {tn : Nat} {tb : Nat → Int32} {p1 : Int32} {p2 : Int32}  {e : Nat} {r : Int32} {k : Int32} (h : F_X10_policyText c_filled c_rule tn tb p1 p2 = some (e, r)) (hk : EK [(0, 0), (1, 1), (3, 2)] e k) : ∃ ot', F_L_policyText c_filled c_rule ot tn tb p1 p2 = some (k, ot') ∧ (k = 0 → e = 0 ∧ ot' 0 = Int32.toInt64 r) := by
  unfold F_L_policyText
  obtain ⟨q, hq, rfl, rfl⟩ := hk
  simp only [List.mem_cons, List.not_mem_nil, or_false] at hq
  rcases hq with rfl | rfl | rfl
  · exact ⟨vp_updL ot 0 (Int32.toInt64 r), ob h ((if_pos rfl).trans (g0L _ _ _)), fun _ => ⟨rfl, uL_s _ _ _⟩⟩
  · exact ⟨ot, ob h ((if_neg (show ¬ (1 : Nat) = 0 by decide)).trans ((if_pos rfl).trans rfl)), fun z => absurd z (by decide)⟩
  · exact ⟨ot, ob h ((if_neg (show ¬ (3 : Nat) = 0 by decide)).trans ((if_neg (show ¬ (3 : Nat) = 1 by decide)).trans ((if_pos rfl).trans rfl))), fun z => absurd z (by decide)⟩
theorem W_policy {c_filled : Int32} {c_rule : Option Nat} {ot : Nat → Int64} {pparts : Int32} {pnest : Int32} {pnamed : Int32} {p1 : Int32} {p2 : Int32}  {e : Nat} {r : Int32} {k : Int32} (h : F_X10_policy c_filled c_rule pparts pnest pnamed p1 p2 = some (e, r)) (hk : EK [(0, 0), (1, 1), (2, 2), (3, 3)] e k) : ∃ ot', F_L_policy c_filled c_rule ot pparts pnest pnamed p1 p2 = some (k, ot') ∧ (k = 0 → e = 0 ∧ ot' 0 = Int32.toInt64 r) := by
  unfold F_L_policy
  obtain ⟨q, hq, rfl, rfl⟩ := hk
  simp only [List.mem_cons, List.not_mem_nil, or_false] at hq
  rcases hq with rfl | rfl | rfl | rfl
  · exact ⟨vp_updL ot 0 (Int32.toInt64 r), ob h ((if_pos rfl).trans (g0L _ _ _)), fun _ => ⟨rfl, uL_s _ _ _⟩⟩
  · exact ⟨ot, ob h ((if_neg (show ¬ (1 : Nat) = 0 by decide)).trans ((if_pos rfl).trans rfl)), fun z => absurd z (by decide)⟩
  · exact ⟨ot, ob h ((if_neg (show ¬ (2 : Nat) = 0 by decide)).trans ((if_neg (show ¬ (2 : Nat) = 1 by decide)).trans ((if_pos rfl).trans rfl))), fun z => absurd z (by decide)⟩
  · exact ⟨ot, ob h ((if_neg (show ¬ (3 : Nat) = 0 by decide)).trans ((if_neg (show ¬ (3 : Nat) = 1 by decide)).trans ((if_neg (show ¬ (3 : Nat) = 2 by decide)).trans ((if_pos rfl).trans rfl)))), fun z => absurd z (by decide)⟩
theorem W_groups {gs : Nat → Int32} {op : Nat → Int32} {pr : Int32} {c_filled : Int32} {c_th : Int32} {c_ep : Int32} {c_rule : Option Nat} {c_cm : Nat → Int32} {c_vs : Nat → Int32} {c_es : Nat → Int32} {ot : Nat → Int64} {ful : Nat → Int32} {p1 : Int32} {o0 : (Nat → Int32)} {o1 : (Nat → Int32)} {e : Nat} {r : Int32} {k : Int32} (h : F_X10_groups gs op pr c_filled c_th c_ep c_rule c_cm c_vs c_es ful p1 = some (e, r, o0, o1)) (hk : EK [(0, 0), (1, 1), (3, 2)] e k) : ∃ ot', F_L_groups gs op pr c_filled c_th c_ep c_rule c_cm c_vs c_es ot ful p1 = some (k, o0, o1, ot') ∧ (k = 0 → e = 0 ∧ ot' 0 = Int32.toInt64 r) := by
  unfold F_L_groups
  obtain ⟨q, hq, rfl, rfl⟩ := hk
  simp only [List.mem_cons, List.not_mem_nil, or_false] at hq
  rcases hq with rfl | rfl | rfl
  · exact ⟨vp_updL ot 0 (Int32.toInt64 r), ob h ((if_pos rfl).trans (g0L _ _ _)), fun _ => ⟨rfl, uL_s _ _ _⟩⟩
  · exact ⟨ot, ob h ((if_neg (show ¬ (1 : Nat) = 0 by decide)).trans ((if_pos rfl).trans rfl)), fun z => absurd z (by decide)⟩
  · exact ⟨ot, ob h ((if_neg (show ¬ (3 : Nat) = 0 by decide)).trans ((if_neg (show ¬ (3 : Nat) = 1 by decide)).trans ((if_pos rfl).trans rfl))), fun z => absurd z (by decide)⟩
theorem W_smallest {gs : Nat → Int32} {op : Nat → Int32} {pr : Int32} {c_filled : Int32} {c_th : Int32} {c_ep : Int32} {c_rule : Option Nat} {c_cm : Nat → Int32} {c_vs : Nat → Int32} {c_es : Nat → Int32} {ot : Nat → Int64} {ful : Nat → Int32} {p1 : Int32} {p2 : Int32} {o0 : (Nat → Int32)} {o1 : (Nat → Int32)} {e : Nat} {r : Int32} {k : Int32} (h : F_X10_smallest gs op pr c_filled c_th c_ep c_rule c_cm c_vs c_es ful p1 p2 = some (e, r, o0, o1)) (hk : EK [(0, 0), (1, 1), (3, 2)] e k) : ∃ ot', F_L_smallest gs op pr c_filled c_th c_ep c_rule c_cm c_vs c_es ot ful p1 p2 = some (k, o0, o1, ot') ∧ (k = 0 → e = 0 ∧ ot' 0 = Int32.toInt64 r) := by
  unfold F_L_smallest
  obtain ⟨q, hq, rfl, rfl⟩ := hk
  simp only [List.mem_cons, List.not_mem_nil, or_false] at hq
  rcases hq with rfl | rfl | rfl
  · exact ⟨vp_updL ot 0 (Int32.toInt64 r), ob h ((if_pos rfl).trans (g0L _ _ _)), fun _ => ⟨rfl, uL_s _ _ _⟩⟩
  · exact ⟨ot, ob h ((if_neg (show ¬ (1 : Nat) = 0 by decide)).trans ((if_pos rfl).trans rfl)), fun z => absurd z (by decide)⟩
  · exact ⟨ot, ob h ((if_neg (show ¬ (3 : Nat) = 0 by decide)).trans ((if_neg (show ¬ (3 : Nat) = 1 by decide)).trans ((if_pos rfl).trans rfl))), fun z => absurd z (by decide)⟩
theorem W_powerBits {gs : Nat → Int32} {op : Nat → Int32} {pr : Int32} {c_filled : Int32} {c_th : Int32} {c_ep : Int32} {c_rule : Option Nat} {c_cm : Nat → Int32} {c_vs : Nat → Int32} {c_es : Nat → Int32} {ot : Nat → Int64} {ful : Nat → Int32} {p1 : Int32} {p2 : Int32} {o0 : (Nat → Int32)} {o1 : (Nat → Int32)} {e : Nat} {r : Int64} {k : Int32} (h : F_X10_powerBits gs op pr c_filled c_th c_ep c_rule c_cm c_vs c_es ful p1 p2 = some (e, r, o0, o1)) (hk : EK [(0, 0), (1, 1), (3, 2)] e k) : ∃ ot', F_L_powerBits gs op pr c_filled c_th c_ep c_rule c_cm c_vs c_es ot ful p1 p2 = some (k, o0, o1, ot') ∧ (k = 0 → e = 0 ∧ ot' 0 = r) := by
  unfold F_L_powerBits
  obtain ⟨q, hq, rfl, rfl⟩ := hk
  simp only [List.mem_cons, List.not_mem_nil, or_false] at hq
  rcases hq with rfl | rfl | rfl
  · exact ⟨vp_updL ot 0 (r), ob h ((if_pos rfl).trans (g0L _ _ _)), fun _ => ⟨rfl, uL_s _ _ _⟩⟩
  · exact ⟨ot, ob h ((if_neg (show ¬ (1 : Nat) = 0 by decide)).trans ((if_pos rfl).trans rfl)), fun z => absurd z (by decide)⟩
  · exact ⟨ot, ob h ((if_neg (show ¬ (3 : Nat) = 0 by decide)).trans ((if_neg (show ¬ (3 : Nat) = 1 by decide)).trans ((if_pos rfl).trans rfl))), fun z => absurd z (by decide)⟩
theorem W_healthBits {c_filled : Int32} {c_th : Int32} {c_ep : Int32} {c_cm : Nat → Int32} {c_vs : Nat → Int32} {c_es : Nat → Int32} {ot : Nat → Int64} {p1 : Int32}  {e : Nat} {r : Int32} {k : Int32} (h : F_X10_healthBits c_filled c_th c_ep c_cm c_vs c_es p1 = some (e, r)) (hk : EK [(0, 0), (1, 1), (3, 2), (6, 3)] e k) : ∃ ot', F_L_healthBits c_filled c_th c_ep c_cm c_vs c_es ot p1 = some (k, ot') ∧ (k = 0 → e = 0 ∧ ot' 0 = Int32.toInt64 r) := by
  unfold F_L_healthBits
  obtain ⟨q, hq, rfl, rfl⟩ := hk
  simp only [List.mem_cons, List.not_mem_nil, or_false] at hq
  rcases hq with rfl | rfl | rfl | rfl
  · exact ⟨vp_updL ot 0 (Int32.toInt64 r), ob h ((if_pos rfl).trans (g0L _ _ _)), fun _ => ⟨rfl, uL_s _ _ _⟩⟩
  · exact ⟨ot, ob h ((if_neg (show ¬ (1 : Nat) = 0 by decide)).trans ((if_pos rfl).trans rfl)), fun z => absurd z (by decide)⟩
  · exact ⟨ot, ob h ((if_neg (show ¬ (3 : Nat) = 0 by decide)).trans ((if_neg (show ¬ (3 : Nat) = 1 by decide)).trans ((if_pos rfl).trans rfl))), fun z => absurd z (by decide)⟩
  · exact ⟨ot, ob h ((if_neg (show ¬ (6 : Nat) = 0 by decide)).trans ((if_neg (show ¬ (6 : Nat) = 1 by decide)).trans ((if_neg (show ¬ (6 : Nat) = 3 by decide)).trans ((if_pos rfl).trans rfl)))), fun z => absurd z (by decide)⟩
theorem W_report {rs : Int32} {rc : Nat → Int32} {rd : Nat → Int32} {ot : Nat → Int64} {p1 : Int32} {p2 : Int32}  {e : Nat} {r : Int32} {k : Int32} (h : F_X10_report rs rc rd p1 p2 = some (e, r)) (hk : EK [(0, 0), (3, 1), (2, 2)] e k) : ∃ ot', F_L_report rs rc rd ot p1 p2 = some (k, ot') ∧ (k = 0 → e = 0 ∧ ot' 0 = Int32.toInt64 r) := by
  unfold F_L_report
  obtain ⟨q, hq, rfl, rfl⟩ := hk
  simp only [List.mem_cons, List.not_mem_nil, or_false] at hq
  rcases hq with rfl | rfl | rfl
  · exact ⟨vp_updL ot 0 (Int32.toInt64 r), ob h ((if_pos rfl).trans (g0L _ _ _)), fun _ => ⟨rfl, uL_s _ _ _⟩⟩
  · exact ⟨ot, ob h ((if_neg (show ¬ (3 : Nat) = 0 by decide)).trans ((if_pos rfl).trans rfl)), fun z => absurd z (by decide)⟩
  · exact ⟨ot, ob h ((if_neg (show ¬ (2 : Nat) = 0 by decide)).trans ((if_neg (show ¬ (2 : Nat) = 3 by decide)).trans ((if_pos rfl).trans rfl))), fun z => absurd z (by decide)⟩
theorem W_event {le : Int32} {ec : Int32} {ev : Nat → Int32} {ot : Nat → Int64} {p1 : Int32}  {e : Nat} {r : Int32} {k : Int32} (h : F_X10_event le ec ev p1 = some (e, r)) (hk : EK [(0, 0), (3, 1)] e k) : ∃ ot', F_L_event le ec ev ot p1 = some (k, ot') ∧ (k = 0 → e = 0 ∧ ot' 0 = Int32.toInt64 r) := by
  unfold F_L_event
  obtain ⟨q, hq, rfl, rfl⟩ := hk
  simp only [List.mem_cons, List.not_mem_nil, or_false] at hq
  rcases hq with rfl | rfl
  · exact ⟨vp_updL ot 0 (Int32.toInt64 r), ob h ((if_pos rfl).trans (g0L _ _ _)), fun _ => ⟨rfl, uL_s _ _ _⟩⟩
  · exact ⟨ot, ob h ((if_neg (show ¬ (3 : Nat) = 0 by decide)).trans ((if_pos rfl).trans rfl)), fun z => absurd z (by decide)⟩
theorem W_restore {ak : Int32} {z : Int32} {pr : Int32} {le : Int32} {ec : Int32} {wt : Nat → Int32} {ev : Nat → Int32} {s0_filled : Int32} {s0_th : Int32} {s0_ep : Int32} {s0_rule : Option Nat} {s0_cm : Nat → Int32} {s0_vs : Nat → Int32} {s0_es : Nat → Int32} {s1_filled : Int32} {s1_th : Int32} {s1_ep : Int32} {s1_rule : Option Nat} {s1_cm : Nat → Int32} {s1_vs : Nat → Int32} {s1_es : Nat → Int32} {s2_filled : Int32} {s2_th : Int32} {s2_ep : Int32} {s2_rule : Option Nat} {s2_cm : Nat → Int32} {s2_vs : Nat → Int32} {s2_es : Nat → Int32} {s3_filled : Int32} {s3_th : Int32} {s3_ep : Int32} {s3_rule : Option Nat} {s3_cm : Nat → Int32} {s3_vs : Nat → Int32} {s3_es : Nat → Int32} {k_z : Int32} {k_pr : Int32} {k_le : Int32} {k_ec : Int32} {k_wt : Nat → Int32} {k_ev : Nat → Int32} {u0_filled : Int32} {u0_th : Int32} {u0_ep : Int32} {u0_rule : Option Nat} {u0_cm : Nat → Int32} {u0_vs : Nat → Int32} {u0_es : Nat → Int32} {u1_filled : Int32} {u1_th : Int32} {u1_ep : Int32} {u1_rule : Option Nat} {u1_cm : Nat → Int32} {u1_vs : Nat → Int32} {u1_es : Nat → Int32} {u2_filled : Int32} {u2_th : Int32} {u2_ep : Int32} {u2_rule : Option Nat} {u2_cm : Nat → Int32} {u2_vs : Nat → Int32} {u2_es : Nat → Int32} {u3_filled : Int32} {u3_th : Int32} {u3_ep : Int32} {u3_rule : Option Nat} {u3_cm : Nat → Int32} {u3_vs : Nat → Int32} {u3_es : Nat → Int32} {ot : Nat → Int64} {o0 : Int32} {o1 : Int32} {o2 : Int32} {o3 : Int32} {o4 : (Nat → Int32)} {o5 : (Nat → Int32)} {o6 : Int32} {o7 : Int32} {o8 : Int32} {o9 : Option Nat} {o10 : (Nat → Int32)} {o11 : (Nat → Int32)} {o12 : (Nat → Int32)} {o13 : Int32} {o14 : Int32} {o15 : Int32} {o16 : Option Nat} {o17 : (Nat → Int32)} {o18 : (Nat → Int32)} {o19 : (Nat → Int32)} {o20 : Int32} {o21 : Int32} {o22 : Int32} {o23 : Option Nat} {o24 : (Nat → Int32)} {o25 : (Nat → Int32)} {o26 : (Nat → Int32)} {o27 : Int32} {o28 : Int32} {o29 : Int32} {o30 : Option Nat} {o31 : (Nat → Int32)} {o32 : (Nat → Int32)} {o33 : (Nat → Int32)} {e : Nat} {r : Int32} {k : Int32} (h : F_X10_restore ak z pr le ec wt ev s0_filled s0_th s0_ep s0_rule s0_cm s0_vs s0_es s1_filled s1_th s1_ep s1_rule s1_cm s1_vs s1_es s2_filled s2_th s2_ep s2_rule s2_cm s2_vs s2_es s3_filled s3_th s3_ep s3_rule s3_cm s3_vs s3_es k_z k_pr k_le k_ec k_wt k_ev u0_filled u0_th u0_ep u0_rule u0_cm u0_vs u0_es u1_filled u1_th u1_ep u1_rule u1_cm u1_vs u1_es u2_filled u2_th u2_ep u2_rule u2_cm u2_vs u2_es u3_filled u3_th u3_ep u3_rule u3_cm u3_vs u3_es = some (e, r, o0, o1, o2, o3, o4, o5, o6, o7, o8, o9, o10, o11, o12, o13, o14, o15, o16, o17, o18, o19, o20, o21, o22, o23, o24, o25, o26, o27, o28, o29, o30, o31, o32, o33)) (hk : EK [(0, 0), (5, 1)] e k) : ∃ ot', F_L_restore ak z pr le ec wt ev s0_filled s0_th s0_ep s0_rule s0_cm s0_vs s0_es s1_filled s1_th s1_ep s1_rule s1_cm s1_vs s1_es s2_filled s2_th s2_ep s2_rule s2_cm s2_vs s2_es s3_filled s3_th s3_ep s3_rule s3_cm s3_vs s3_es k_z k_pr k_le k_ec k_wt k_ev u0_filled u0_th u0_ep u0_rule u0_cm u0_vs u0_es u1_filled u1_th u1_ep u1_rule u1_cm u1_vs u1_es u2_filled u2_th u2_ep u2_rule u2_cm u2_vs u2_es u3_filled u3_th u3_ep u3_rule u3_cm u3_vs u3_es ot = some (k, o0, o1, o2, o3, o4, o5, o6, o7, o8, o9, o10, o11, o12, o13, o14, o15, o16, o17, o18, o19, o20, o21, o22, o23, o24, o25, o26, o27, o28, o29, o30, o31, o32, o33, ot') ∧ (k = 0 → e = 0 ∧ ot' 0 = Int32.toInt64 r) := by
  unfold F_L_restore
  obtain ⟨q, hq, rfl, rfl⟩ := hk
  simp only [List.mem_cons, List.not_mem_nil, or_false] at hq
  rcases hq with rfl | rfl
  · exact ⟨vp_updL ot 0 (Int32.toInt64 r), ob h ((if_pos rfl).trans (g0L _ _ _)), fun _ => ⟨rfl, uL_s _ _ _⟩⟩
  · exact ⟨ot, ob h ((if_neg (show ¬ (5 : Nat) = 0 by decide)).trans ((if_pos rfl).trans rfl)), fun z => absurd z (by decide)⟩
theorem W_setPolicy {fa : Int32} {c_filled : Int32} {c_rule : Option Nat} {ml : Int32} {n : Int32} {cap : Nat} {bs : Nat → Int32} {ot : Nat → Int64} {p1 : Int32} {o0 o1 o2 : Int32} {o3 : Nat} {o4 : Nat → Int32} {o5 : gNP} {e : Nat} {r k : Int32} (h : F_X10_setPolicy fa c_filled c_rule ml n cap bs p1 = some (e, r, o0, o1, o2, o3, o4, o5)) (hk : EK [(0, 0), (1, 1), (3, 2), (2, 3)] e k) : ∃ ot', F_L_setPolicy fa c_filled c_rule ml n cap bs ot p1 = some (k, o0, o1, o2, o3, o4, ot', o5) ∧ (k = 0 → e = 0 ∧ ot' 0 = if r = 0 then 0 else 1) := by
  unfold F_L_setPolicy
  obtain ⟨q, hq, rfl, rfl⟩ := hk
  simp only [List.mem_cons, List.not_mem_nil, or_false] at hq
  rcases o5 with _ | _ | ⟨x1, x2, x3, x4, x5, x6, x7, x8⟩ <;> rcases hq with rfl | rfl | rfl | rfl
  · by_cases h0 : r = 0
    · exact ⟨vp_updL ot 0 0, ob h ((if_pos rfl).trans ((if_pos h0).trans (g0L _ _ _))), fun _ => ⟨rfl, by rw [if_pos h0]; exact uL_s _ _ _⟩⟩
    · exact ⟨vp_updL ot 0 1, ob h ((if_pos rfl).trans ((if_neg h0).trans (g0L _ _ _))), fun _ => ⟨rfl, by rw [if_neg h0]; exact uL_s _ _ _⟩⟩
  · exact ⟨ot, ob h ((if_neg (show ¬ (1 : Nat) = 0 by decide)).trans ((if_pos rfl).trans rfl)), fun z => absurd z (by decide)⟩
  · exact ⟨ot, ob h ((if_neg (show ¬ (3 : Nat) = 0 by decide)).trans ((if_neg (show ¬ (3 : Nat) = 1 by decide)).trans ((if_pos rfl).trans rfl))), fun z => absurd z (by decide)⟩
  · exact ⟨ot, ob h ((if_neg (show ¬ (2 : Nat) = 0 by decide)).trans ((if_neg (show ¬ (2 : Nat) = 1 by decide)).trans ((if_neg (show ¬ (2 : Nat) = 3 by decide)).trans ((if_pos rfl).trans rfl)))), fun z => absurd z (by decide)⟩
  · by_cases h0 : r = 0
    · exact ⟨vp_updL ot 0 0, ob h ((if_pos rfl).trans ((if_pos h0).trans (g0L _ _ _))), fun _ => ⟨rfl, by rw [if_pos h0]; exact uL_s _ _ _⟩⟩
    · exact ⟨vp_updL ot 0 1, ob h ((if_pos rfl).trans ((if_neg h0).trans (g0L _ _ _))), fun _ => ⟨rfl, by rw [if_neg h0]; exact uL_s _ _ _⟩⟩
  · exact ⟨ot, ob h ((if_neg (show ¬ (1 : Nat) = 0 by decide)).trans ((if_pos rfl).trans rfl)), fun z => absurd z (by decide)⟩
  · exact ⟨ot, ob h ((if_neg (show ¬ (3 : Nat) = 0 by decide)).trans ((if_neg (show ¬ (3 : Nat) = 1 by decide)).trans ((if_pos rfl).trans rfl))), fun z => absurd z (by decide)⟩
  · exact ⟨ot, ob h ((if_neg (show ¬ (2 : Nat) = 0 by decide)).trans ((if_neg (show ¬ (2 : Nat) = 1 by decide)).trans ((if_neg (show ¬ (2 : Nat) = 3 by decide)).trans ((if_pos rfl).trans rfl)))), fun z => absurd z (by decide)⟩
  · by_cases h0 : r = 0
    · exact ⟨vp_updL ot 0 0, ob h ((if_pos rfl).trans ((if_pos h0).trans (g0L _ _ _))), fun _ => ⟨rfl, by rw [if_pos h0]; exact uL_s _ _ _⟩⟩
    · exact ⟨vp_updL ot 0 1, ob h ((if_pos rfl).trans ((if_neg h0).trans (g0L _ _ _))), fun _ => ⟨rfl, by rw [if_neg h0]; exact uL_s _ _ _⟩⟩
  · exact ⟨ot, ob h ((if_neg (show ¬ (1 : Nat) = 0 by decide)).trans ((if_pos rfl).trans rfl)), fun z => absurd z (by decide)⟩
  · exact ⟨ot, ob h ((if_neg (show ¬ (3 : Nat) = 0 by decide)).trans ((if_neg (show ¬ (3 : Nat) = 1 by decide)).trans ((if_pos rfl).trans rfl))), fun z => absurd z (by decide)⟩
  · exact ⟨ot, ob h ((if_neg (show ¬ (2 : Nat) = 0 by decide)).trans ((if_neg (show ¬ (2 : Nat) = 1 by decide)).trans ((if_neg (show ¬ (2 : Nat) = 3 by decide)).trans ((if_pos rfl).trans rfl)))), fun z => absurd z (by decide)⟩
