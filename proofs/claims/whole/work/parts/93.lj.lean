/-! LAW: what both sides have in common -/
def upA {α : Type} (f : Nat → α) (k : Nat) (x : α) : Nat → α := fun j => if j = k then x else f j
theorem upA_s {α : Type} (f : Nat → α) (k : Nat) (x : α) : upA f k x k = x := if_pos rfl
theorem upA_n {α : Type} (f : Nat → α) {k j : Nat} (x : α) (h : j ≠ k) : upA f k x j = f j := if_neg h
theorem upA_id {α : Type} (f : Nat → α) (k : Nat) : upA f k (f k) = f := by
  funext j
  by_cases h : j = k
  · rw [h, upA_s]
  · rw [upA_n _ _ h]
def JP (cy : Nat → ClassId) (PW : va_W) (w : Nat → Nat) (s fi : Nat) (ru : Option Nat) : Prop := ∃ (q1 t0 t1 : Nat) (pp pn pm : Int32) (ful : Nat → Int32) (hash hz : Int32) (tn : Nat) (tb : Nat → Nat), (∀ q0, ru = some q0 → ∀ x ∈ wPo cy q0 q1 t0 t1 pp pn pm ful hash hz tn (L tb), x ∈ PW) ∧ (fi = 1 → PolR w s ru pp pn pm ful tn tb)
def JS1 (cy : Nat → ClassId) (PW : va_W) (w : Nat → Nat) (c : Nat) (z : Int32) (pr le ec : Nat) (wt ev : Nat → Nat) (fi th ep : Nat → Nat) (ru : Nat → Option Nat) (cm vs es : Nat → Nat → Nat) : Prop := z = nI (w 0) ∧ HW w pr wt ∧ REv w le ec ev ∧ (∀ s, s < 4 → RSl w s c (fi s) (th s) (ep s) (cm s) (vs s) (es s)) ∧ ∀ s, s < 4 → JP cy PW w s (fi s) (ru s)
section JSS
variable {cy : Nat → ClassId} {PW PW' : va_W} {w w' : Nat → Nat} {c : Nat} {z z' : Int32} {pr le ec pr' le' ec' : Nat} {wt ev wt' ev' : Nat → Nat} {fi th ep : Nat → Nat} {ru : Nat → Option Nat} {cm vs es : Nat → Nat → Nat} {s : Nat}
theorem JP.of {f : Nat} {r : Option Nat} (h : JP cy PW w s f r) (e : Ag w w' (ix s 11) (ix s 51)) (hP : ∀ x ∈ PW, x ∈ PW') : JP cy PW' w' s f r := by
  obtain ⟨q1, t0, t1, pp, pn, pm, ful, hash, hz, tn, tb, h1, h2⟩ := h
  exact ⟨q1, t0, t1, pp, pn, pm, ful, hash, hz, tn, tb, fun q0 hq x hx => hP x (h1 q0 hq x hx), fun hf => (h2 hf).of e⟩
theorem JP.none {f : Nat} (h : w (ix s 11) = 0) : JP cy PW w s f none := ⟨0, 0, 0, 0, 0, 0, fun _ => 0, 0, 0, 0, fun _ => 0, fun q0 hq => (nomatch hq), fun _ => Or.inl ⟨rfl, h⟩⟩
theorem HW.lo {w w' wt : Nat → Nat} {pr : Nat} (h : HW w pr wt) (e : ∀ i, 1 ≤ i → i < 17 → w' i = w i) : HW w' pr wt := ⟨h.1, fun m hm => by rw [e _ (by omega) (by omega), e _ (by omega) (by omega)]; exact h.2 m hm⟩
theorem REv.lo {w w' ev : Nat → Nat} {le ec : Nat} (h : REv w le ec ev) (e : ∀ i, 17 ≤ i → i < 38 → w' i = w i) : REv w' le ec ev := ⟨h.1, h.2.1, (e _ (by omega) (by omega)).trans h.2.2.1, fun k hk => by
  have := h.2.1
  rw [e _ (by omega) (by omega)]
  exact h.2.2.2 k hk⟩
theorem JS1.Z (h : JS1 cy PW w c z pr le ec wt ev fi th ep ru cm vs es) : z = nI (w 0) := h.1
theorem JS1.H (h : JS1 cy PW w c z pr le ec wt ev fi th ep ru cm vs es) : HW w pr wt := h.2.1
theorem JS1.E (h : JS1 cy PW w c z pr le ec wt ev fi th ep ru cm vs es) : REv w le ec ev := h.2.2.1
theorem JS1.R (h : JS1 cy PW w c z pr le ec wt ev fi th ep ru cm vs es) (hs : s < 4) : RSl w s c (fi s) (th s) (ep s) (cm s) (vs s) (es s) := h.2.2.2.1 s hs
theorem JS1.P (h : JS1 cy PW w c z pr le ec wt ev fi th ep ru cm vs es) (hs : s < 4) : JP cy PW w s (fi s) (ru s) := h.2.2.2.2 s hs
theorem JS1.head (h : JS1 cy PW w c z pr le ec wt ev fi th ep ru cm vs es) (hw : ∀ i, 38 ≤ i → w' i = w i) (hz : z' = nI (w' 0)) (hH : HW w' pr' wt') (hE : REv w' le' ec' ev') : JS1 cy PW w' (c + 1) z' pr' le' ec' wt' ev' fi th ep ru cm vs es :=
  ⟨hz, hH, hE, fun s hs => (h.R hs).of (Nat.le_succ c) (fun i h1 _ => hw i (by simp only [ix] at *; omega)) (fun i h1 _ => hw i (by simp only [ix] at *; omega)), fun s hs => (h.P hs).of (fun i h1 _ => hw i (by simp only [ix] at *; omega)) (fun _ hx => hx)⟩
theorem JS1.same (h : JS1 cy PW w c z pr le ec wt ev fi th ep ru cm vs es) : JS1 cy PW w (c + 1) z pr le ec wt ev fi th ep ru cm vs es := h.head (fun _ _ => rfl) h.Z h.H h.E
theorem JS1.more (h : JS1 cy PW w c z pr le ec wt ev fi th ep ru cm vs es) (hP : ∀ x ∈ PW, x ∈ PW') : JS1 cy PW' w c z pr le ec wt ev fi th ep ru cm vs es := ⟨h.1, h.2.1, h.2.2.1, h.2.2.2.1, fun s hs => (h.P hs).of (fun _ _ _ => rfl) hP⟩
theorem JS1.slot {f t e : Nat} {r : Option Nat} {cm' vs' es' : Nat → Nat} (h : JS1 cy PW w c z pr le ec wt ev fi th ep ru cm vs es) (hP : ∀ x ∈ PW, x ∈ PW') (hz : z' = nI (w' 0)) (hH : HW w' pr' wt') (hE : REv w' le' ec' ev') (hR : RSl w' s (c + 1) f t e cm' vs' es') (hJ : JP cy PW' w' s f r) (hF : Fr w w' s) : JS1 cy PW' w' (c + 1) z' pr' le' ec' wt' ev' (upA fi s f) (upA th s t) (upA ep s e) (upA ru s r) (upA cm s cm') (upA vs s vs') (upA es s es') := by
  refine ⟨hz, hH, hE, fun j hj => ?_, fun j hj => ?_⟩
  · by_cases hjs : j = s
    · subst hjs
      rw [upA_s, upA_s, upA_s, upA_s, upA_s, upA_s]
      exact hR
    · rw [upA_n _ _ hjs, upA_n _ _ hjs, upA_n _ _ hjs, upA_n _ _ hjs, upA_n _ _ hjs, upA_n _ _ hjs]
      exact (h.R hj).of (Nat.le_succ c) (fun i h1 h2 => hF i (by simp only [ix] at *; omega) (by simp only [ix] at *; omega)) (fun i h1 h2 => hF i (by simp only [ix] at *; omega) (by simp only [ix] at *; omega))
  · by_cases hjs : j = s
    · subst hjs
      rw [upA_s, upA_s]
      exact hJ
    · rw [upA_n _ _ hjs, upA_n _ _ hjs]
      exact (h.P hj).of (fun i h1 h2 => hF i (by simp only [ix] at *; omega) (by simp only [ix] at *; omega)) hP
theorem JS1.full (h : JS1 cy PW w c z pr le ec wt ev fi th ep ru cm vs es) (s : Nat) : JS1 cy PW w c z pr le ec wt ev (upA fi s (fi s)) (upA th s (th s)) (upA ep s (ep s)) (upA ru s (ru s)) (upA cm s (cm s)) (upA vs s (vs s)) (upA es s (es s)) := by
  simp only [upA_id]
  exact h
end JSS
/-- an argument for a slot -/
def SA (x : Int32) (s : Nat) : Prop := s < 4 ∧ (gi x 4 = true → x = nI s) ∧ ((x = nI s ∧ F_X10_checkSlot (nI s) = some 0 ∧ F_X11_isSlot (nI s) = some (nI 1)) ∨ (F_X10_checkSlot x = some 1 ∧ F_X11_isSlot x = some (nI 0)))
theorem SA_4 : ∀ j, j < 4 → F_X10_checkSlot (nI j) = some 0 ∧ F_X11_isSlot (nI j) = some (nI 1) := by
  intro j hj
  rcases a_slot (nI j) with ⟨s, h1, h2, h3, h4⟩ | ⟨h1, h2⟩
  · exact ⟨h3, h4⟩
  · exfalso
    unfold F_X10_checkSlot F_X10_checkSlot_L9 at h1
    simp (disch := omega) only [q_lit, q_ltI, hj, if_true, Nat.not_lt_zero, if_false] at h1
    revert h1
    decide
theorem a_SA (x : Int32) : ∃ s, SA x s := by
  rcases z_arg x 4 (by omega) (by omega) with ⟨j, hj, rfl⟩ | ⟨h1, h2⟩
  · exact ⟨j, hj, fun _ => rfl, Or.inl ⟨rfl, SA_4 j hj⟩⟩
  · refine ⟨0, by omega, fun hg => ?_, ?_⟩
    · exfalso
      unfold gi at hg
      simp only [Bool.not_eq_true', Bool.or_eq_false_iff, decide_eq_false_iff_not] at hg
      rcases h2 with h2 | ⟨h2, h3⟩
      · exact hg.1 h2
      · obtain ⟨j, hj, rfl⟩ := nI_of h2
        have h4 := (nI_leI (a := 4) (b := j) (by omega) hj).mp h3
        rw [q_cl hj] at hg
        omega
    · rcases a_slot x with ⟨s, g1, g2, g3, g4⟩ | g
      · exfalso
        subst g2
        rcases h2 with h2 | ⟨h2, h3⟩
        · exact nI_pos (show s < 2 ^ 31 by omega) h2
        · exact nI_ge g1 (by omega) h3
      · exact Or.inr g
theorem N_lacks {g : Nat → Int32} {x : Int32} (h : F_X11_isSlot x = some (nI 0)) : F_X11_lacks g x = some (nI 1) := by
  unfold F_X11_lacks F_X11_lacks_L25
  exact ob h ((if_pos rfl).trans rfl)
theorem N_lacksSet {g : Nat → Int32} {x y : Int32} (h : F_X11_isSlot x = some (nI 0)) : F_X11_lacksSet g x y = some (nI 1) := by
  unfold F_X11_lacksSet F_X11_lacksSet_L36
  exact ob h ((if_pos rfl).trans rfl)
