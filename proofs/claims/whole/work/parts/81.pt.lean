/-! PURE: the judge on a list -/
abbrev JFr : Type := Nat × Nat × Nat × Nat
def jreq (f : JFr) (b : Nat) : JFr := (f.1, f.2.1, f.2.2.1, f.2.2.2 * b)
def jall (f : JFr) : JFr := (f.1, f.2.1, max f.2.2.1 f.2.2.2, 1)
def jcon (f : JFr) : JFr := (f.1, f.2.1 + max f.2.2.1 f.2.2.2, 0, 1)
def jend (f : JFr) : Nat := (decide (f.1 ≤ f.2.1 + max f.2.2.1 f.2.2.2)).toNat
def jmem (c : Nat) (r : List Nat) : Bool := decide (48 ≤ c) && (decide (c ≤ 55) && !isCnt c r)
def jdc (K : JFr → List JFr → Nat) (f : JFr) : List JFr → Nat
  | [] => K f []
  | g :: st => K (jreq g (jend f)) st
def jd (m : Nat) : List Nat → JFr → List JFr → Nat → Nat
  | [], f, _, _ => jend f
  | x :: r, f, st, c => if isCnt x r = true then jd m r f st (x - 48) else if jmem x r = true then jd m r (jreq f (m.testBit (x - 48)).toNat) st c else if x = 40 then jd m r (c, 0, 0, 1) (f :: st) 1 else if x = 124 then jd m r (jall f) st c else if x = 44 then jd m r (jcon f) st c else if x = 41 then jdc (fun f' st' => jd m r f' st' c) f st else jd m r f st c
def FB (B : Nat) (f : JFr) : Prop := f.1 ≤ 9 ∧ f.2.1 ≤ B ∧ f.2.2.1 ≤ 1 ∧ f.2.2.2 ≤ 1
def Fa (du me an al : Nat → Nat) (o : Nat) (f : JFr) : Prop := du o = f.1 ∧ me o = f.2.1 ∧ an o = f.2.2.1 ∧ al o = f.2.2.2
def JS (B : Nat) (du me an al : Nat → Nat) : Nat → List JFr → Prop
  | 0, st => st = []
  | _ + 1, [] => False
  | o + 1, g :: st => Fa du me an al o g ∧ FB B g ∧ JS B du me an al o st
theorem JS_ext {B B' : Nat} {du me an al du' me' an' al' : Nat → Nat} (hB : B ≤ B') : ∀ (o : Nat) (st : List JFr), JS B du me an al o st → (∀ i, i < o → du' i = du i ∧ me' i = me i ∧ an' i = an i ∧ al' i = al i) → JS B' du' me' an' al' o st := by
  intro o
  induction o with
  | zero => intro st h _; exact h
  | succ o ih =>
    intro st h he
    cases st with
    | nil => exact h
    | cons g st =>
      obtain ⟨⟨a1, a2, a3, a4⟩, ⟨b1, b2, b3, b4⟩, h3⟩ := h
      obtain ⟨e1, e2, e3, e4⟩ := he o (Nat.lt_succ_self o)
      exact ⟨⟨e1.trans a1, e2.trans a2, e3.trans a3, e4.trans a4⟩, ⟨b1, by omega, b3, b4⟩, ih st h3 (fun i hi => he i (by omega))⟩
theorem z_bol : ∀ b, b < 2 → vp_nar .boolean (nI b) = nI b := by decide
theorem z_begin1 {o c M : Nat} {du me an al : Nat → Nat} (ho : o < M) (hM : M < 1000) : F_X1_begin (nI o) M (L du) M (L me) M (L an) M (L al) (nI c) = some (L (updN du o c), L (updN me o 0), L (updN an o 0), L (updN al o 1)) := by
  unfold F_X1_begin
  have e0 : vp_nar .boolean 0 = nI 0 := z_bol 0 (by omega)
  have e1 : vp_nar .boolean 1 = nI 1 := z_bol 1 (by omega)
  rw [q_gi ho (by omega), e0, e1, q_cl (show o < 2 ^ 31 by omega)]
  simp only [q_gg, q_gl, show (0 : Int32) = nI 0 from rfl, L_upd]
theorem z_endAll {o M : Nat} {an al : Nat → Nat} (ho : o < M) (hM : M < 1000) (h1 : an o ≤ 1) (h2 : al o ≤ 1) : F_X1_endAll (nI o) M (L an) M (L al) = some (L (updN an o (max (an o) (al o))), L (updN al o 1)) := by
  have e0 : vp_nar .boolean 0 = nI 0 := z_bol 0 (by omega)
  have e1 : vp_nar .boolean 1 = nI 1 := z_bol 1 (by omega)
  unfold F_X1_endAll F_X1_endAll_L32 F_X1_endAll_L37
  rw [q_gi ho (by omega), e0, e1, q_cl (show o < 2 ^ 31 by omega)]
  simp only [q_gg, q_gl, L_upd, L_app]
  have hA : an o = 0 ∨ an o = 1 := by omega
  have hB : al o = 0 ∨ al o = 1 := by omega
  have n1 : ¬ nI 1 = 0 := by decide
  rcases hA with hA | hA <;> rcases hB with hB | hB <;> rw [hA, hB]
  · exact (if_pos rfl).trans (if_pos rfl)
  · exact (if_pos rfl).trans (if_neg n1)
  · exact if_neg n1
  · exact if_neg n1
theorem z_endCon {o M : Nat} {me an al : Nat → Nat} (ho : o < M) (hM : M < 1000) (h1 : an o ≤ 1) (h2 : al o ≤ 1) : ∃ an', F_X1_endCondition (nI o) M (L me) M (L an) M (L al) = some (L (updN me o (me o + max (an o) (al o))), L an', L (updN al o 1)) ∧ an' o = 0 ∧ ∀ i, i < o → an' i = an i := by
  have e0 : vp_nar .boolean 0 = nI 0 := z_bol 0 (by omega)
  refine ⟨updN (updN an o (max (an o) (al o))) o 0, ?_, uN_s _ _ _, fun i hi => by rw [uN_n _ _ (by omega), uN_n _ _ (by omega)]⟩
  unfold F_X1_endCondition F_X1_endCondition_L31
  refine ob (z_endAll ho hM h1 h2) ?_
  rw [q_gi ho (by omega), e0, q_cl (show o < 2 ^ 31 by omega)]
  simp only [q_gg, q_gl, L_upd, L_app, uN_s]
  have hA : max (an o) (al o) = 0 ∨ max (an o) (al o) = 1 := by omega
  rcases hA with hA | hA <;> rw [hA]
  · refine (if_pos rfl).trans ?_
    rw [show nI (me o) + 0 = nI (me o + 0) from nI_add _ 0, L_upd]
  · refine (if_neg (by decide)).trans ?_
    rw [show nI (me o) + 1 = nI (me o + 1) from nI_1 _, L_upd]
theorem z_end1 {o M : Nat} {du me an al : Nat → Nat} (ho : o < M) (hM : M < 1000) (h1 : an o ≤ 1) (h2 : al o ≤ 1) (h3 : me o ≤ 100) (h4 : du o ≤ 9) : ∃ an', F_X1_end (nI o) M (L du) M (L me) M (L an) M (L al) = some (nI (jend (du o, me o, an o, al o)), L (updN me o (me o + max (an o) (al o))), L an', L (updN al o 1)) ∧ an' o = 0 ∧ ∀ i, i < o → an' i = an i := by
  obtain ⟨an', g1, g2, g3⟩ := z_endCon (me := me) ho hM h1 h2
  refine ⟨an', ?_, g2, g3⟩
  unfold F_X1_end F_X1_end_L30 jend
  refine ob g1 ?_
  rw [q_gi ho (by omega), q_cl (show o < 2 ^ 31 by omega)]
  simp only [q_gg, L_app, uN_s]
  by_cases h : du o ≤ me o + max (an o) (al o)
  · rw [decide_eq_true h]
    exact (if_neg (nI_nlt h (by omega))).trans (by rw [show (1 : Int32) = nI 1 from rfl, q_nar1, q_gg]; rfl)
  · rw [decide_eq_false h]
    exact (if_pos (nI_lt (by omega) (by omega))).trans (by rw [show (0 : Int32) = nI 0 from rfl, q_nar0, q_gg]; rfl)
theorem z_req {o M b : Nat} {al : Nat → Nat} (ho : o < M) (hM : M < 1000) (h2 : al o ≤ 1) (hb : b ≤ 1) : F_X1_require (nI o) M (L al) (nI b) = some (L (updN al o (al o * b))) := by
  have e0 : vp_nar .boolean 0 = nI 0 := z_bol 0 (by omega)
  have e1 : vp_nar .boolean 1 = nI 1 := z_bol 1 (by omega)
  unfold F_X1_require F_X1_require_L28 F_X1_require_L29
  rw [q_gi ho (by omega), e0, e1, q_cl (show o < 2 ^ 31 by omega)]
  simp only [q_gg, q_gl, L_upd, L_app]
  have n1 : ¬ nI 1 = 0 := by decide
  have hA : al o = 0 ∨ al o = 1 := by omega
  have hB : b = 0 ∨ b = 1 := by omega
  rcases hA with hA | hA <;> rcases hB with hB | hB <;> rw [hA, hB]
  · exact if_pos rfl
  · exact if_pos rfl
  · exact (if_neg n1).trans (if_pos rfl)
  · exact (if_neg n1).trans (if_neg n1)
