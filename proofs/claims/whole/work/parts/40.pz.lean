/-! PURE: numbers, arrays of numbers, the small words of the functions -/
theorem q_lit (n : Nat) : (no_index (OfNat.ofNat n) : Int32) = nI n := rfl
theorem q_gl {α β : Type} (x : α) (k : α → β) : gl x k = k x := rfl
theorem q_gg {α : Type} (o : Option α) : gg true o = o := rfl
theorem q_gi {a n : Nat} (h : a < n) (hn : n < 2 ^ 31) : gi (nI a) n = true := by
  have h1 := nI_pos (n := a) (by omega)
  have h2 := nI_clamp (n := a) (by omega)
  have h3 : ¬ n ≤ a := by omega
  simp [gi, h1, h2, h3]
theorem q_gz {a : Nat} (h : 0 < a) (hn : a < 2 ^ 31) : gz (nI a) = true := by
  have := nI_ne0 h hn
  simp [gz, this]
theorem q_narb (b : Bool) : gnar .boolean (nI b.toNat) = true := by cases b <;> decide
theorem q_nar (b : Bool) : gnar .boolean (nI b.toNat) = true := q_narb b
theorem q_nar0 : gnar .boolean (nI 0) = true := by decide
theorem q_nar1 : gnar .boolean (nI 1) = true := by decide
theorem q_narl {a : Nat} (h : a < 2) : gnar .boolean (nI a) = true := by
  match a, h with
  | 0, _ => decide
  | 1, _ => decide
theorem q_b0 (b : Bool) : (nI b.toNat = nI 0) = (b = false) := by cases b <;> decide
theorem q_b0b (b : Bool) : (nI b.toNat = nI 1) = (b = true) := by cases b <;> decide
theorem q_mod (a d : Nat) : a - a / d * d = a % d := by
  have := Nat.div_add_mod a d
  rw [Nat.mul_comm] at this
  omega
theorem q_rem (a d : Nat) : nI a - nI (a / d * d) = nI (a % d) := by
  rw [pk_sub (Nat.div_mul_le_self a d), q_mod]
theorem q_m1 {a : Nat} (h : 1 ≤ a) : nI a + -nI 1 = nI (a - 1) := by
  obtain ⟨b, rfl⟩ : ∃ b, a = b + 1 := ⟨a - 1, by omega⟩
  exact pk_m1 b
theorem q_m10 : nI 0 + -nI 1 = -nI 1 := by decide
theorem q_mlt : (-nI 1 < nI 0) = True := by decide
theorem q_cl {n : Nat} (h : n < 2 ^ 31) : (nI n).toNatClampNeg = n := nI_clamp h
theorem q_ltI {a b : Nat} (ha : a < 2 ^ 31) (hb : b < 2 ^ 31) : (nI a < nI b) = (a < b) := propext (nI_ltI ha hb)
theorem q_leI {a b : Nat} (ha : a < 2 ^ 31) (hb : b < 2 ^ 31) : (nI a ≤ nI b) = (a ≤ b) := propext (nI_leI ha hb)
theorem q_eqI {a b : Nat} (ha : a < 2 ^ 31) (hb : b < 2 ^ 31) : (nI a = nI b) = (a = b) := propext (nI_eq ha hb)
theorem q_if {α : Sort _} {c : Prop} [Decidable c] (a : α) : (if c then a else a) = a := by split <;> rfl
theorem q_d0 {n : Nat} (h : n < 1) : (n = 0) = True := by simp; omega
theorem q_dn {a b : Nat} (h : b < a) : (a ≤ b) = False := by simp; omega
/-- an array of numbers -/
def L (f : Nat → Nat) : Nat → Int32 := fun i => nI (f i)
theorem L_app (f : Nat → Nat) (i : Nat) : L f i = nI (f i) := rfl
def updN (f : Nat → Nat) (k x : Nat) : Nat → Nat := fun j => if j = k then x else f j
theorem L_upd (f : Nat → Nat) (k x : Nat) : upd (L f) k (nI x) = L (updN f k x) := by
  funext j
  by_cases h : j = k <;> simp [upd, L, updN, h]
theorem uN_s (f : Nat → Nat) (k x : Nat) : updN f k x k = x := by simp [updN]
theorem uN_n (f : Nat → Nat) {k j : Nat} (x : Nat) (h : j ≠ k) : updN f k x j = f j := by simp [updN, h]
def tw (x : Int32) : Nat := x.toBitVec.toNat
theorem tw_lt (x : Int32) : tw x < 2 ^ 32 := x.toBitVec.isLt
theorem nI_tw (x : Int32) : nI (tw x) = x := by
  apply Int32.toBitVec_inj.1
  show BitVec.ofNat 32 x.toBitVec.toNat = x.toBitVec
  simp
theorem tw_nI {n : Nat} (h : n < 2 ^ 32) : tw (nI n) = n := pk_tn h
theorem L_tw (f : Nat → Int32) : L (fun i => tw (f i)) = f := by
  funext i
  exact nI_tw (f i)
theorem q_sm : ∀ k, k < 32 → ((nI k &&& nI 31).toBitVec.smod 32).toNat = k := by decide
theorem q_shr {a k : Nat} (ha : a < 2 ^ 31) (hk : k < 32) : nI a >>> (nI k &&& nI 31) = nI (a / 2 ^ k) := pk_shrN ha _ k (q_sm k hk)
theorem q_and (a b : Nat) : nI a &&& nI b = nI (a &&& b) := by
  apply Int32.toBitVec_inj.1
  show BitVec.ofNat 32 a &&& BitVec.ofNat 32 b = BitVec.ofNat 32 (a &&& b)
  apply BitVec.eq_of_getLsbD_eq
  intro i hi
  simp [hi]
theorem q_or (a b : Nat) : nI a ||| nI b = nI (a ||| b) := by
  apply Int32.toBitVec_inj.1
  show BitVec.ofNat 32 a ||| BitVec.ofNat 32 b = BitVec.ofNat 32 (a ||| b)
  apply BitVec.eq_of_getLsbD_eq
  intro i hi
  simp [hi]
theorem q_xor (a b : Nat) : nI a ^^^ nI b = nI (a ^^^ b) := by
  apply Int32.toBitVec_inj.1
  show BitVec.ofNat 32 a ^^^ BitVec.ofNat 32 b = BitVec.ofNat 32 (a ^^^ b)
  apply BitVec.eq_of_getLsbD_eq
  intro i hi
  simp [hi]
theorem q_and1 (a : Nat) : nI a &&& nI 1 = nI (a % 2) := by
  rw [q_and]
  congr 1
  exact Nat.and_one_is_mod a
theorem q_tb (a k : Nat) : (a / 2 ^ k % 2 = 1) = (a.testBit k = true) := by
  rw [Nat.testBit_eq_decide_div_mod_eq]
  simp
theorem q_bit {a k : Nat} (ha : a < 2 ^ 31) (hk : k < 32) : ((nI a >>> (nI k &&& nI 31)) &&& nI 1 = nI 1) = (a.testBit k = true) := by
  rw [q_shr ha hk, q_and1, q_eqI (by omega) (by omega), q_tb]
theorem q_shl1 : ∀ k, k < 8 → nI 1 <<< (nI k &&& nI 31) = nI (2 ^ k) := by decide
theorem q_ix (x : Int32) (n : Nat) (hn : n < 2 ^ 31) : (∃ j, j < n ∧ x = nI j) ∨ x < 0 ∨ (¬ x < 0 ∧ nI n ≤ x) := by
  rcases pk_ix x hn with h | h | h
  · exact Or.inr (Or.inl h)
  · refine Or.inr (Or.inr ⟨?_, h⟩)
    intro h0
    rw [Int32.lt_iff_toInt_lt] at h0
    rw [Int32.le_iff_toInt_le, nI_toInt hn] at h
    have : (0 : Int32).toInt = 0 := by decide
    omega
  · exact Or.inl h
/-! sums over places -/
def cntP (P : Nat → Bool) : Nat → Nat → Nat
  | _, 0 => 0
  | s, k + 1 => (P s).toNat + cntP P (s + 1) k
theorem cntP_s (P : Nat → Bool) (s k : Nat) : cntP P s (k + 1) = (P s).toNat + cntP P (s + 1) k := rfl
theorem cntP_le (P : Nat → Bool) : ∀ k s, cntP P s k ≤ k := by
  intro k
  induction k with
  | zero => intro s; exact Nat.le_refl 0
  | succ k ih =>
    intro s
    have := ih (s + 1)
    have h2 := Bool.toNat_le (P s)
    show (P s).toNat + cntP P (s + 1) k ≤ k + 1
    omega
theorem cntP_congr {P Q : Nat → Bool} : ∀ k s, (∀ i, s ≤ i → i < s + k → P i = Q i) → cntP P s k = cntP Q s k := by
  intro k
  induction k with
  | zero => intro s _; rfl
  | succ k ih =>
    intro s h
    show (P s).toNat + cntP P (s + 1) k = (Q s).toNat + cntP Q (s + 1) k
    rw [h s (Nat.le_refl s) (by omega), ih (s + 1) (fun i h1 h2 => h i (by omega) (by omega))]
theorem cntP_add (P : Nat → Bool) : ∀ a s b, cntP P s (a + b) = cntP P s a + cntP P (s + a) b := by
  intro a
  induction a with
  | zero => intro s b; simp [cntP]
  | succ a ih =>
    intro s b
    rw [Nat.succ_add]
    show (P s).toNat + cntP P (s + 1) (a + b) = (P s).toNat + cntP P (s + 1) a + cntP P (s + (a + 1)) b
    rw [ih, show s + 1 + a = s + (a + 1) by omega]
    omega
theorem cntP_none {P : Nat → Bool} : ∀ k s, (∀ i, s ≤ i → i < s + k → P i = false) → cntP P s k = 0 := by
  intro k
  induction k with
  | zero => intro s _; rfl
  | succ k ih =>
    intro s h
    show (P s).toNat + cntP P (s + 1) k = 0
    rw [h s (Nat.le_refl s) (by omega), ih (s + 1) (fun i h1 h2 => h i (by omega) (by omega))]
    rfl
/-! the modular powers -/
theorem pw_sq (s m e : Nat) : (s * s % m) ^ e % m = (s ^ (2 * e)) % m := by
  rw [← Nat.pow_mod, Nat.pow_mul, Nat.pow_two]
theorem q_mulle {a b n m : Nat} (h : a ≤ n) (h2 : b ≤ m) : a * b ≤ n * m := Nat.mul_le_mul h h2
theorem z_power_L (m : Nat) (hm : 2 ≤ m) (hm2 : m ≤ 2039) : ∀ (e v s n : Nat), (e = 0 ∧ 0 < n) ∨ e / 2 + 1 < n → e < 2 ^ 31 → v < m → s < m → F_X11_power_L10 (nI m) n (nI v) (nI s) (nI e) = some (nI (v * s ^ e % m)) := by
  intro e
  induction e using Nat.strongRecOn with
  | ind e ih =>
    intro v s n hn he hv hs
    obtain ⟨n, rfl⟩ : ∃ k, n = k + 1 := ⟨n - 1, by omega⟩
    have h1 : v * s ≤ 2038 * 2038 := q_mulle (by omega) (by omega)
    have h2 : s * s ≤ 2038 * 2038 := q_mulle (by omega) (by omega)
    have hp : 0 < m := by omega
    have h3 : s * s % m < m := Nat.mod_lt _ hp
    have h4 : v * s % m < m := Nat.mod_lt _ hp
    rw [F_X11_power_L10]
    rcases Nat.eq_zero_or_pos e with h0 | h0
    · subst h0
      simp (disch := omega) only [q_lit, q_leI, Nat.le_refl, if_true]
      rw [Nat.pow_zero, Nat.mul_one, Nat.mod_eq_of_lt hv]
    · have hsr : nI e >>> (nI 1 &&& nI 31) = nI (e / 2) := by rw [q_shr he (by omega), Nat.pow_one]
      have key : ∀ x : Nat, x < m → F_X11_power_L33 (nI m) (F_X11_power_L10 (nI m) n) (nI s) (nI e) (nI x) = some (nI (x * s ^ (2 * (e / 2)) % m)) := by
        intro x hx
        unfold F_X11_power_L33
        simp (disch := omega) only [q_lit, q_gz, q_gg, q_gl, pk_mul, pk_div, q_rem, pk_sub, q_mod, hsr]
        rw [ih (e / 2) (by omega) x _ n (by omega) (by omega) hx h3]
        congr 2
        rw [Nat.mul_mod, pw_sq, ← Nat.mul_mod]
      have hle : ¬ e ≤ 0 := by omega
      simp (disch := omega) only [q_lit, q_leI, hle, if_false, q_and1, q_eqI]
      by_cases ho : e % 2 = 1
      · simp (disch := omega) only [ho, if_true, q_gz, q_gg, q_gl, pk_mul, pk_div, q_rem, pk_sub, q_mod]
        rw [key _ h4]
        have e2 : s ^ e = s * s ^ (2 * (e / 2)) := by
          rw [← Nat.pow_succ']
          congr 1
          omega
        rw [e2, ← Nat.mul_assoc, Nat.mul_mod (v * s), Nat.mul_mod (v * s % m), Nat.mod_mod]
      · simp only [ho, if_false]
        rw [key _ hv, show 2 * (e / 2) = e by omega]
theorem z_power {b e m : Nat} (hb : b < 2 ^ 31) (he : e < 1024) (hm : 2 ≤ m) (hm2 : m ≤ 2039) : F_X11_power (nI b) (nI e) (nI m) = some (nI (b ^ e % m)) := by
  unfold F_X11_power
  have h3 : b % m < m := Nat.mod_lt _ (by omega)
  have h9 : b / m * m ≤ b := Nat.div_mul_le_self b m
  simp (disch := omega) only [q_lit, q_gz, q_gg, pk_div, pk_mul, q_rem, pk_sub, q_mod]
  rw [z_power_L m hm hm2 e 1 _ 1000 (by omega) (by omega) (by omega) h3]
  congr 2
  rw [Nat.one_mul, ← Nat.pow_mod]
