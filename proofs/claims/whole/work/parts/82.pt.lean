/-! PURE: the class's judge is jd -/
theorem jreq_B {a : Nat} {f : JFr} {b : Nat} (h : FB a f) (hb : b ≤ 1) : FB (a + 1) (jreq f b) := by
  obtain ⟨h1, h2, h3, h4⟩ := h
  have h5 : f.2.2.2 * b ≤ 1 * 1 := Nat.mul_le_mul h4 hb
  exact ⟨h1, by show f.2.1 ≤ a + 1; omega, h3, by show f.2.2.2 * b ≤ 1; omega⟩
theorem jend_le (f : JFr) : jend f ≤ 1 := Bool.toNat_le _
theorem z_jd {N m : Nat} {tf tp : Nat → Nat} (h : TX N tf tp) (hm : m < 256) : ∀ k n a o f st c (du me an al : Nat → Nat), a + k = N → k < n → o ≤ a → c ≤ 9 → Fa du me an al o f → FB a f → JS a du me an al o st → ∃ o' du' me' an' al', F_X1_isFulfilledBy_L14 (N + 1) (N + 1) (N + 1) (N + 1) N (L tf) (nI m) n (nI o) (L du) (L me) (L an) (L al) (nI c) (nI a) = some (nI (jd m (sfx N tp a) f st c), nI o', L du', L me', L an', L al') := by
  have hN := h.1
  intro k
  induction k with
  | zero =>
    intro n a o f st c du me an al ha hn ho hc hF hB hS
    obtain ⟨n, rfl⟩ := z_fuel hn
    obtain ⟨f1, f2, f3, f4⟩ := hF
    obtain ⟨b1, b2, b3, b4⟩ := hB
    obtain ⟨an', g1, g2, g3⟩ := z_end1 (o := o) (M := N + 1) (du := du) (me := me) (an := an) (al := al) (by omega) (by omega) (by omega) (by omega) (by omega) (by omega)
    rw [F_X1_isFulfilledBy_L14, sfx_nil (by omega), jd]
    refine ⟨o, du, updN me o (me o + max (an o) (al o)), an', updN al o 1, ob z_tLen ((if_pos (nI_le (by omega) (by omega))).trans (ob g1 ?_))⟩
    have hf : (du o, me o, an o, al o) = f := by rw [f1, f2, f3, f4]
    show gg (gnar .boolean (nI (jend (du o, me o, an o, al o)))) _ = _
    rw [hf]
    unfold jend
    rw [q_nar, q_gg]
  | succ k ih =>
    intro n a o f st c du me an al ha hn ho hc hF hB hS
    obtain ⟨n, rfl⟩ := z_fuel (show 0 < n by omega)
    have haN : a < N := by omega
    obtain ⟨h3, h4, h5⟩ := h.2 a haN
    have hch := z_tChar (N := N) (i := a) (tf := tf) (by omega) haN (by omega)
    rw [h3] at hch
    have hct := z_isCnt h haN
    have hmb := z_isMem h haN
    have nx : nI a + 1 = nI (a + 1) := nI_1 a
    have n1 : ¬ nI 1 = 0 := by decide
    have hBm : FB (a + 1) f := ⟨hB.1, by have := hB.2.1; omega, hB.2.2.1, hB.2.2.2⟩
    have hF0 := hF
    obtain ⟨f1, f2, f3, f4⟩ := hF0
    have hB0 := hB
    obtain ⟨b1, b2, b3, b4⟩ := hB0
    have hSm : JS (a + 1) du me an al o st := JS_ext (by omega) o st hS (fun _ _ => ⟨rfl, rfl, rfl, rfl⟩)
    have hne : ∀ x, x < 127 → tp a ≠ x → ¬ nI (tp a) = nI x := fun x hx e g => e ((q_eqI (by omega) (by omega)).mp g)
    rw [F_X1_isFulfilledBy_L14, sfx_cons haN, jd]
    unfold F_X1_isFulfilledBy_L173
    rw [nx]
    cases hcn : isCnt (tp a) (sfx N tp (a + 1)) with
    | true =>
      have hd9 : 49 ≤ tp a ∧ tp a ≤ 57 := by
        unfold isCnt at hcn
        simp only [Bool.and_eq_true, decide_eq_true_eq] at hcn
        exact ⟨hcn.1, hcn.2.1⟩
      rw [hcn] at hct
      obtain ⟨o', du', me', an', al', e⟩ := ih n (a + 1) o f st (tp a - 48) du me an al (by omega) (by omega) (by omega) (by omega) hF hBm hSm
      refine ⟨o', du', me', an', al', ob z_tLen ((if_neg (nI_ge haN (by omega))).trans (ob hch (ob hct ((if_neg n1).trans ?_))))⟩
      rw [if_pos rfl, show nI (tp a) - 48 = nI (tp a - 48) from pk_sub (a := tp a) (b := 48) (by omega)]
      exact e
    | false =>
      rw [hcn] at hct hmb
      rw [if_neg (show ¬ false = true by decide)]
      have hjm : jmem (tp a) (sfx N tp (a + 1)) = (decide (48 ≤ tp a) && (decide (tp a ≤ 55) && !false)) := by
        unfold jmem
        rw [hcn]
      rw [← hjm] at hmb
      cases hmm : jmem (tp a) (sfx N tp (a + 1)) with
      | true =>
        have hd9 : 48 ≤ tp a ∧ tp a ≤ 55 := by
          rw [hmm] at hjm
          have := hjm.symm
          simp only [Bool.and_eq_true, decide_eq_true_eq] at this
          exact ⟨this.1, this.2.1⟩
        rw [hmm] at hmb
        rw [if_pos rfl]
        have hb1 : (m.testBit (tp a - 48)).toNat ≤ 1 := Bool.toNat_le _
        obtain ⟨o', du', me', an', al', e⟩ := ih n (a + 1) o (jreq f (m.testBit (tp a - 48)).toNat) st c du me an (updN al o (al o * (m.testBit (tp a - 48)).toNat)) (by omega) (by omega) (by omega) hc ⟨f1, f2, f3, by rw [uN_s, f4]; rfl⟩ (jreq_B hB hb1) (JS_ext (Nat.le_refl _) o st hSm (fun i hi => ⟨rfl, rfl, rfl, uN_n _ _ (by omega)⟩))
        refine ⟨o', du', me', an', al', ob z_tLen ((if_neg (nI_ge haN (by omega))).trans (ob hch (ob hct ((if_pos rfl).trans (ob hmb ((if_neg n1).trans ?_))))))⟩
        rw [show nI (tp a) - 48 = nI (tp a - 48) from pk_sub (a := tp a) (b := 48) (by omega)]
        refine ob (z_contains (by omega) (by omega)) (ob (z_req (by omega) (by omega) (by omega) hb1) e)
      | false =>
        rw [hmm] at hmb
        rw [if_neg (show ¬ false = true by decide)]
        by_cases c40 : tp a = 40
        · rw [if_pos c40]
          have hS2 : JS (a + 1) (updN du (o + 1) c) (updN me (o + 1) 0) (updN an (o + 1) 0) (updN al (o + 1) 1) (o + 1) (f :: st) := by
            refine JS_ext (B := a + 1) (Nat.le_refl _) (o + 1) (f :: st) ⟨hF, hBm, hSm⟩ (fun i hi => ?_)
            exact ⟨uN_n _ _ (by omega), uN_n _ _ (by omega), uN_n _ _ (by omega), uN_n _ _ (by omega)⟩
          obtain ⟨o', du', me', an', al', e⟩ := ih n (a + 1) (o + 1) (c, 0, 0, 1) (f :: st) 1 _ _ _ _ (by omega) (by omega) (by omega) (by omega) ⟨uN_s _ _ _, uN_s _ _ _, uN_s _ _ _, uN_s _ _ _⟩ ⟨hc, Nat.zero_le _, Nat.zero_le _, Nat.le_refl _⟩ hS2
          refine ⟨o', du', me', an', al', ob z_tLen ((if_neg (nI_ge haN (by omega))).trans (ob hch (ob hct ((if_pos rfl).trans (ob hmb ((if_pos rfl).trans ((if_pos (congrArg nI c40)).trans ?_)))))))⟩
          rw [show nI o + 1 = nI (o + 1) from nI_1 o]
          exact ob (z_begin1 (by omega) (by omega)) e
        rw [if_neg c40]
        by_cases c124 : tp a = 124
        · rw [if_pos c124]
          obtain ⟨o', du', me', an', al', e⟩ := ih n (a + 1) o (jall f) st c du me (updN an o (max (an o) (al o))) (updN al o 1) (by omega) (by omega) (by omega) hc ⟨f1, f2, by rw [uN_s, f3, f4]; rfl, uN_s _ _ _⟩ ⟨b1, by show f.2.1 ≤ a + 1; omega, by show max f.2.2.1 f.2.2.2 ≤ 1; omega, Nat.le_refl _⟩ (JS_ext (Nat.le_refl _) o st hSm (fun i hi => ⟨rfl, rfl, uN_n _ _ (by omega), uN_n _ _ (by omega)⟩))
          refine ⟨o', du', me', an', al', ob z_tLen ((if_neg (nI_ge haN (by omega))).trans (ob hch (ob hct ((if_pos rfl).trans (ob hmb ((if_pos rfl).trans ((if_neg (hne 40 (by omega) c40)).trans ((if_pos (congrArg nI c124)).trans ?_))))))))⟩
          exact ob (z_endAll (by omega) (by omega) (by omega) (by omega)) e
        rw [if_neg c124]
        by_cases c44 : tp a = 44
        · rw [if_pos c44]
          obtain ⟨an2, g1, g2, g3⟩ := z_endCon (o := o) (M := N + 1) (me := me) (an := an) (al := al) (by omega) (by omega) (by omega) (by omega)
          obtain ⟨o', du', me', an', al', e⟩ := ih n (a + 1) o (jcon f) st c du (updN me o (me o + max (an o) (al o))) an2 (updN al o 1) (by omega) (by omega) (by omega) hc ⟨f1, by rw [uN_s, f2, f3, f4]; rfl, g2, uN_s _ _ _⟩ ⟨b1, by show f.2.1 + max f.2.2.1 f.2.2.2 ≤ a + 1; omega, Nat.zero_le _, Nat.le_refl _⟩ (JS_ext (Nat.le_refl _) o st hSm (fun i hi => ⟨rfl, uN_n _ _ (by omega), g3 i hi, uN_n _ _ (by omega)⟩))
          refine ⟨o', du', me', an', al', ob z_tLen ((if_neg (nI_ge haN (by omega))).trans (ob hch (ob hct ((if_pos rfl).trans (ob hmb ((if_pos rfl).trans ((if_neg (hne 40 (by omega) c40)).trans ((if_neg (hne 124 (by omega) c124)).trans ((if_pos (congrArg nI c44)).trans ?_)))))))))⟩
          exact ob g1 e
        rw [if_neg c44]
        by_cases c41 : tp a = 41
        · rw [if_pos c41]
          cases o with
          | zero =>
            have hst : st = [] := hS
            subst hst
            obtain ⟨o', du', me', an', al', e⟩ := ih n (a + 1) 0 f [] c du me an al (by omega) (by omega) (by omega) hc hF hBm hSm
            exact ⟨o', du', me', an', al', ob z_tLen ((if_neg (nI_ge haN (by omega))).trans (ob hch (ob hct ((if_pos rfl).trans (ob hmb ((if_pos rfl).trans ((if_neg (hne 40 (by omega) c40)).trans ((if_neg (hne 124 (by omega) c124)).trans ((if_neg (hne 44 (by omega) c44)).trans ((if_pos (congrArg nI c41)).trans ((if_pos (show nI 0 ≤ 0 by decide)).trans e)))))))))))⟩
          | succ o =>
            cases st with
            | nil => exact absurd hS (by intro x; exact x)
            | cons g st =>
              obtain ⟨⟨s1, s2, s3, s4⟩, hBg, hS3⟩ := hS
              obtain ⟨an2, g1, g2, g3⟩ := z_end1 (o := o + 1) (M := N + 1) (du := du) (me := me) (an := an) (al := al) (by omega) (by omega) (by omega) (by omega) (by omega) (by omega)
              have hf : (du (o + 1), me (o + 1), an (o + 1), al (o + 1)) = f := by rw [f1, f2, f3, f4]
              rw [hf] at g1
              have hq := z_req (o := o) (M := N + 1) (b := jend f) (al := updN al (o + 1) 1) (by omega) (by omega) (by rw [uN_n _ _ (by omega), s4]; exact hBg.2.2.2) (jend_le f)
              obtain ⟨o', du', me', an', al', e⟩ := ih n (a + 1) o (jreq g (jend f)) st c du (updN me (o + 1) (me (o + 1) + max (an (o + 1)) (al (o + 1)))) an2 (updN (updN al (o + 1) 1) o (updN al (o + 1) 1 o * jend f)) (by omega) (by omega) (by omega) hc ⟨s1, (uN_n _ _ (by omega)).trans s2, (g3 o (by omega)).trans s3, by rw [uN_s, uN_n _ _ (by omega), s4]; rfl⟩ (jreq_B hBg (jend_le f)) (JS_ext (Nat.le_succ a) o st hS3 (fun i hi => ⟨rfl, uN_n _ _ (by omega), g3 i (by omega), by rw [uN_n _ _ (by omega), uN_n _ _ (by omega)]⟩))
              refine ⟨o', du', me', an', al', ob z_tLen ((if_neg (nI_ge haN (by omega))).trans (ob hch (ob hct ((if_pos rfl).trans (ob hmb ((if_pos rfl).trans ((if_neg (hne 40 (by omega) c40)).trans ((if_neg (hne 124 (by omega) c124)).trans ((if_neg (hne 44 (by omega) c44)).trans ((if_pos (congrArg nI c41)).trans ((if_neg (show ¬ nI (o + 1) ≤ 0 from nI_ge (show 0 < o + 1 by omega) (by omega))).trans ?_)))))))))))⟩
              refine ob g1 ?_
              rw [show nI (o + 1) - 1 = nI o from pk_sub (a := o + 1) (b := 1) (by omega)]
              exact ob hq e
        rw [if_neg c41]
        obtain ⟨o', du', me', an', al', e⟩ := ih n (a + 1) o f st c du me an al (by omega) (by omega) (by omega) hc hF hBm hSm
        exact ⟨o', du', me', an', al', ob z_tLen ((if_neg (nI_ge haN (by omega))).trans (ob hch (ob hct ((if_pos rfl).trans (ob hmb ((if_pos rfl).trans ((if_neg (hne 40 (by omega) c40)).trans ((if_neg (hne 124 (by omega) c124)).trans ((if_neg (hne 44 (by omega) c44)).trans ((if_neg (hne 41 (by omega) c41)).trans e))))))))))⟩
