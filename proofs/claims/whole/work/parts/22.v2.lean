/-! X10_checkMember -/
theorem hd_X10_checkMember : yX10_checkMember.cls ≠ "java/lang/invoke/MethodHandle" ∧ yX10_checkMember.cls ≠ "java/lang/invoke/VarHandle" ∧ (parseMethodDescriptor yX10_checkMember.desc).map (fun d => d.parameters.length) = some 1 := by decide +kernel
def F_X10_checkMember_L10    : Option (Nat) := some 1
def F_X10_checkMember (p0 : Int32) : Option (Nat) := if p0 < 0 then (F_X10_checkMember_L10 ) else (if p0 < 8 then (some 0) else (F_X10_checkMember_L10 ))
set_option maxRecDepth 100000 in
set_option maxHeartbeats 4000000 in
theorem c_X10_checkMember {l : Launch} {D : va_G} {cy : Nat → ClassId}   {p0 : Int32}  {val : Nat} (hf : F_X10_checkMember p0 = some val) : gCt l D cy yX10_checkMember cX10_checkMember 1 none 6 82 1 6 [.int p0] [] ([]) val (fun _ : Unit => none) (fun _ => []) := by
  refine g_begin (by decide +kernel) (Nat.le_of_ble_eq_true rfl) ?_
  intro X Q hl hR hD hy hro hn C hin E
  subst hl; subst hD; subst hy
  replace C : gC X "SecretVault" cX10_checkMember none := C
  unfold F_X10_checkMember at hf
  have H10 :  F_X10_checkMember_L10 = some val → gW X Q 0 0 ([]) [(0, .int p0)] [] 10 := by
    intro hf
    unfold F_X10_checkMember_L10 at hf
    obtain rfl := Option.some.inj hf
    exact g_throwSW C E () (text := "no such member") gTh_1 ms_358 dX10_checkMember_10 dX10_checkMember_13 dX10_checkMember_14 dX10_checkMember_17 dX10_checkMember_20 (g_th hR rfl rfl) (g_rc hR (Nat.le_of_ble_eq_true rfl) (Nat.le_of_ble_eq_true rfl)) (Nat.succ_ne_zero 0) rfl rfl (Nat.le_of_ble_eq_true rfl) (Nat.le_of_ble_eq_true rfl)
  show gW X Q 0 0 ([]) [(0, .int p0)] [] 0
  refine g_iload_n C 0 dX10_checkMember_0 rfl ?_
  refine g_if_lt C 10 dX10_checkMember_1 (by decide) (fun c1 => ?_) (fun c1 => ?_)
  · have hf := opt_pos c1 hf
    exact H10 hf
  · have hf := opt_neg c1 hf
    refine g_iload_n C 0 dX10_checkMember_4 rfl ?_
    refine g_bipush C (v := 8) dX10_checkMember_5 (by decide) ?_
    refine g_icmp_lt C 21 dX10_checkMember_7 (by decide) (fun c2 => ?_) (fun c2 => ?_)
    · have hf := opt_pos c2 hf
      obtain rfl := Option.some.inj hf
      exact g_vret C E () dX10_checkMember_21 rfl rfl rfl (Nat.le_of_ble_eq_true rfl) (Nat.le_of_ble_eq_true rfl)
    · have hf := opt_neg c2 hf
      exact H10 hf
/-! X10_checkSlot -/
theorem hd_X10_checkSlot : yX10_checkSlot.cls ≠ "java/lang/invoke/MethodHandle" ∧ yX10_checkSlot.cls ≠ "java/lang/invoke/VarHandle" ∧ (parseMethodDescriptor yX10_checkSlot.desc).map (fun d => d.parameters.length) = some 1 := by decide +kernel
def F_X10_checkSlot_L9    : Option (Nat) := some 1
def F_X10_checkSlot (p0 : Int32) : Option (Nat) := if p0 < 0 then (F_X10_checkSlot_L9 ) else (if p0 < 4 then (some 0) else (F_X10_checkSlot_L9 ))
set_option maxRecDepth 100000 in
set_option maxHeartbeats 4000000 in
theorem c_X10_checkSlot {l : Launch} {D : va_G} {cy : Nat → ClassId}   {p0 : Int32}  {val : Nat} (hf : F_X10_checkSlot p0 = some val) : gCt l D cy yX10_checkSlot cX10_checkSlot 1 none 6 82 1 6 [.int p0] [] ([]) val (fun _ : Unit => none) (fun _ => []) := by
  refine g_begin (by decide +kernel) (Nat.le_of_ble_eq_true rfl) ?_
  intro X Q hl hR hD hy hro hn C hin E
  subst hl; subst hD; subst hy
  replace C : gC X "SecretVault" cX10_checkSlot none := C
  unfold F_X10_checkSlot at hf
  have H9 :  F_X10_checkSlot_L9 = some val → gW X Q 0 0 ([]) [(0, .int p0)] [] 9 := by
    intro hf
    unfold F_X10_checkSlot_L9 at hf
    obtain rfl := Option.some.inj hf
    exact g_throwSW C E () (text := "no such slot") gTh_1 ms_361 dX10_checkSlot_9 dX10_checkSlot_12 dX10_checkSlot_13 dX10_checkSlot_16 dX10_checkSlot_19 (g_th hR rfl rfl) (g_rc hR (Nat.le_of_ble_eq_true rfl) (Nat.le_of_ble_eq_true rfl)) (Nat.succ_ne_zero 0) rfl rfl (Nat.le_of_ble_eq_true rfl) (Nat.le_of_ble_eq_true rfl)
  show gW X Q 0 0 ([]) [(0, .int p0)] [] 0
  refine g_iload_n C 0 dX10_checkSlot_0 rfl ?_
  refine g_if_lt C 9 dX10_checkSlot_1 (by decide) (fun c1 => ?_) (fun c1 => ?_)
  · have hf := opt_pos c1 hf
    exact H9 hf
  · have hf := opt_neg c1 hf
    refine g_iload_n C 0 dX10_checkSlot_4 rfl ?_
    refine g_iconst C (v := 4) dX10_checkSlot_5 (by decide) ?_
    refine g_icmp_lt C 20 dX10_checkSlot_6 (by decide) (fun c2 => ?_) (fun c2 => ?_)
    · have hf := opt_pos c2 hf
      obtain rfl := Option.some.inj hf
      exact g_vret C E () dX10_checkSlot_20 rfl rfl rfl (Nat.le_of_ble_eq_true rfl) (Nat.le_of_ble_eq_true rfl)
    · have hf := opt_neg c2 hf
      exact H9 hf
/-! X10_checkPlace -/
theorem hd_X10_checkPlace : yX10_checkPlace.cls ≠ "java/lang/invoke/MethodHandle" ∧ yX10_checkPlace.cls ≠ "java/lang/invoke/VarHandle" ∧ (parseMethodDescriptor yX10_checkPlace.desc).map (fun d => d.parameters.length) = some 1 := by decide +kernel
def F_X10_checkPlace_L11    : Option (Nat) := some 1
def F_X10_checkPlace (p0 : Int32) : Option (Nat) := if p0 < 1 then (F_X10_checkPlace_L11 ) else (if p0 ≤ 24 then (some 0) else (F_X10_checkPlace_L11 ))
set_option maxRecDepth 100000 in
set_option maxHeartbeats 4000000 in
theorem c_X10_checkPlace {l : Launch} {D : va_G} {cy : Nat → ClassId}   {p0 : Int32}  {val : Nat} (hf : F_X10_checkPlace p0 = some val) : gCt l D cy yX10_checkPlace cX10_checkPlace 1 none 6 82 1 6 [.int p0] [] ([]) val (fun _ : Unit => none) (fun _ => []) := by
  refine g_begin (by decide +kernel) (Nat.le_of_ble_eq_true rfl) ?_
  intro X Q hl hR hD hy hro hn C hin E
  subst hl; subst hD; subst hy
  replace C : gC X "SecretVault" cX10_checkPlace none := C
  unfold F_X10_checkPlace at hf
  have H11 :  F_X10_checkPlace_L11 = some val → gW X Q 0 0 ([]) [(0, .int p0)] [] 11 := by
    intro hf
    unfold F_X10_checkPlace_L11 at hf
    obtain rfl := Option.some.inj hf
    exact g_throwS C E () (text := "no such place") gTh_1 ms_241 dX10_checkPlace_11 dX10_checkPlace_14 dX10_checkPlace_15 dX10_checkPlace_17 dX10_checkPlace_20 (g_th hR rfl rfl) (g_rc hR (Nat.le_of_ble_eq_true rfl) (Nat.le_of_ble_eq_true rfl)) (Nat.succ_ne_zero 0) rfl rfl (Nat.le_of_ble_eq_true rfl) (Nat.le_of_ble_eq_true rfl)
  show gW X Q 0 0 ([]) [(0, .int p0)] [] 0
  refine g_iload_n C 0 dX10_checkPlace_0 rfl ?_
  refine g_iconst C (v := 1) dX10_checkPlace_1 (by decide) ?_
  refine g_icmp_lt C 11 dX10_checkPlace_2 (by decide) (fun c1 => ?_) (fun c1 => ?_)
  · have hf := opt_pos c1 hf
    exact H11 hf
  · have hf := opt_neg c1 hf
    refine g_iload_n C 0 dX10_checkPlace_5 rfl ?_
    refine g_bipush C (v := 24) dX10_checkPlace_6 (by decide) ?_
    refine g_icmp_le C 21 dX10_checkPlace_8 (by decide) (fun c2 => ?_) (fun c2 => ?_)
    · have hf := opt_pos c2 hf
      obtain rfl := Option.some.inj hf
      exact g_vret C E () dX10_checkPlace_21 rfl rfl rfl (Nat.le_of_ble_eq_true rfl) (Nat.le_of_ble_eq_true rfl)
    · have hf := opt_neg c2 hf
      exact H11 hf
/-! X10_checkTextIndex -/
theorem hd_X10_checkTextIndex : yX10_checkTextIndex.cls ≠ "java/lang/invoke/MethodHandle" ∧ yX10_checkTextIndex.cls ≠ "java/lang/invoke/VarHandle" ∧ (parseMethodDescriptor yX10_checkTextIndex.desc).map (fun d => d.parameters.length) = some 1 := by decide +kernel
def F_X10_checkTextIndex (p0 : Int32) : Option (Nat) := if (-1) ≤ p0 then (some 0) else (some 1)
set_option maxRecDepth 100000 in
set_option maxHeartbeats 4000000 in
theorem c_X10_checkTextIndex {l : Launch} {D : va_G} {cy : Nat → ClassId}   {p0 : Int32}  {val : Nat} (hf : F_X10_checkTextIndex p0 = some val) : gCt l D cy yX10_checkTextIndex cX10_checkTextIndex 1 none 6 82 1 6 [.int p0] [] ([]) val (fun _ : Unit => none) (fun _ => []) := by
  refine g_begin (by decide +kernel) (Nat.le_of_ble_eq_true rfl) ?_
  intro X Q hl hR hD hy hro hn C hin E
  subst hl; subst hD; subst hy
  replace C : gC X "SecretVault" cX10_checkTextIndex none := C
  unfold F_X10_checkTextIndex at hf
  show gW X Q 0 0 ([]) [(0, .int p0)] [] 0
  refine g_iload_n C 0 dX10_checkTextIndex_0 rfl ?_
  refine g_iconst C (v := (-1)) dX10_checkTextIndex_1 (by decide) ?_
  refine g_icmp_ge C 16 dX10_checkTextIndex_2 (by decide) (fun c1 => ?_) (fun c1 => ?_)
  · have hf := opt_pos c1 hf
    obtain rfl := Option.some.inj hf
    exact g_vret C E () dX10_checkTextIndex_16 rfl rfl rfl (Nat.le_of_ble_eq_true rfl) (Nat.le_of_ble_eq_true rfl)
  · have hf := opt_neg c1 hf
    obtain rfl := Option.some.inj hf
    exact g_throwSW C E () (text := "the index is less than -1") gTh_1 ms_363 dX10_checkTextIndex_5 dX10_checkTextIndex_8 dX10_checkTextIndex_9 dX10_checkTextIndex_12 dX10_checkTextIndex_15 (g_th hR rfl rfl) (g_rc hR (Nat.le_of_ble_eq_true rfl) (Nat.le_of_ble_eq_true rfl)) (Nat.succ_ne_zero 0) rfl rfl (Nat.le_of_ble_eq_true rfl) (Nat.le_of_ble_eq_true rfl)
/-! X10_checkWhat -/
theorem hd_X10_checkWhat : yX10_checkWhat.cls ≠ "java/lang/invoke/MethodHandle" ∧ yX10_checkWhat.cls ≠ "java/lang/invoke/VarHandle" ∧ (parseMethodDescriptor yX10_checkWhat.desc).map (fun d => d.parameters.length) = some 2 := by decide +kernel
def F_X10_checkWhat_L9    : Option (Nat) := some 2
def F_X10_checkWhat (p0 : Int32) (p1 : Int32) : Option (Nat) := if p0 < 0 then (F_X10_checkWhat_L9 ) else (if p0 ≤ p1 then (some 0) else (F_X10_checkWhat_L9 ))
set_option maxRecDepth 100000 in
set_option maxHeartbeats 4000000 in
theorem c_X10_checkWhat {l : Launch} {D : va_G} {cy : Nat → ClassId}   {p0 : Int32} {p1 : Int32}  {val : Nat} (hf : F_X10_checkWhat p0 p1 = some val) : gCt l D cy yX10_checkWhat cX10_checkWhat 2 none 6 82 1 6 [.int p0, .int p1] [] ([]) val (fun _ : Unit => none) (fun _ => []) := by
  refine g_begin (by decide +kernel) (Nat.le_of_ble_eq_true rfl) ?_
  intro X Q hl hR hD hy hro hn C hin E
  subst hl; subst hD; subst hy
  replace C : gC X "SecretVault" cX10_checkWhat none := C
  unfold F_X10_checkWhat at hf
  have H9 :  F_X10_checkWhat_L9 = some val → gW X Q 0 0 ([]) [(0, .int p0), (1, .int p1)] [] 9 := by
    intro hf
    unfold F_X10_checkWhat_L9 at hf
    obtain rfl := Option.some.inj hf
    exact g_throwSW C E () (text := "no such property") gTh_2 ms_365 dX10_checkWhat_9 dX10_checkWhat_12 dX10_checkWhat_13 dX10_checkWhat_16 dX10_checkWhat_19 (g_th hR rfl rfl) (g_rc hR (Nat.le_of_ble_eq_true rfl) (Nat.le_of_ble_eq_true rfl)) (Nat.succ_ne_zero 1) rfl rfl (Nat.le_of_ble_eq_true rfl) (Nat.le_of_ble_eq_true rfl)
  show gW X Q 0 0 ([]) [(0, .int p0), (1, .int p1)] [] 0
  refine g_iload_n C 0 dX10_checkWhat_0 rfl ?_
  refine g_if_lt C 9 dX10_checkWhat_1 (by decide) (fun c1 => ?_) (fun c1 => ?_)
  · have hf := opt_pos c1 hf
    exact H9 hf
  · have hf := opt_neg c1 hf
    refine g_iload_n C 0 dX10_checkWhat_4 rfl ?_
    refine g_iload_n C 1 dX10_checkWhat_5 rfl ?_
    refine g_icmp_le C 20 dX10_checkWhat_6 (by decide) (fun c2 => ?_) (fun c2 => ?_)
    · have hf := opt_pos c2 hf
      obtain rfl := Option.some.inj hf
      exact g_vret C E () dX10_checkWhat_20 rfl rfl rfl (Nat.le_of_ble_eq_true rfl) (Nat.le_of_ble_eq_true rfl)
    · have hf := opt_neg c2 hf
      exact H9 hf
/-! X10_checkSet -/
theorem hd_X10_checkSet : yX10_checkSet.cls ≠ "java/lang/invoke/MethodHandle" ∧ yX10_checkSet.cls ≠ "java/lang/invoke/VarHandle" ∧ (parseMethodDescriptor yX10_checkSet.desc).map (fun d => d.parameters.length) = some 1 := by decide +kernel
def F_X10_checkSet_L11    : Option (Nat) := some 2
def F_X10_checkSet (p0 : Int32) : Option (Nat) := if p0 < 0 then (F_X10_checkSet_L11 ) else (if p0 < 256 then (some 0) else (F_X10_checkSet_L11 ))
set_option maxRecDepth 100000 in
set_option maxHeartbeats 4000000 in
theorem c_X10_checkSet {l : Launch} {D : va_G} {cy : Nat → ClassId}   {p0 : Int32}  {val : Nat} (hf : F_X10_checkSet p0 = some val) : gCt l D cy yX10_checkSet cX10_checkSet 1 none 6 82 1 6 [.int p0] [] ([]) val (fun _ : Unit => none) (fun _ => []) := by
  refine g_begin (by decide +kernel) (Nat.le_of_ble_eq_true rfl) ?_
  intro X Q hl hR hD hy hro hn C hin E
  subst hl; subst hD; subst hy
  replace C : gC X "SecretVault" cX10_checkSet none := C
  unfold F_X10_checkSet at hf
  have H11 :  F_X10_checkSet_L11 = some val → gW X Q 0 0 ([]) [(0, .int p0)] [] 11 := by
    intro hf
    unfold F_X10_checkSet_L11 at hf
    obtain rfl := Option.some.inj hf
    exact g_throwSW C E () (text := "a bit is set for no member") gTh_2 ms_367 dX10_checkSet_11 dX10_checkSet_14 dX10_checkSet_15 dX10_checkSet_18 dX10_checkSet_21 (g_th hR rfl rfl) (g_rc hR (Nat.le_of_ble_eq_true rfl) (Nat.le_of_ble_eq_true rfl)) (Nat.succ_ne_zero 1) rfl rfl (Nat.le_of_ble_eq_true rfl) (Nat.le_of_ble_eq_true rfl)
  show gW X Q 0 0 ([]) [(0, .int p0)] [] 0
  refine g_iload_n C 0 dX10_checkSet_0 rfl ?_
  refine g_if_lt C 11 dX10_checkSet_1 (by decide) (fun c1 => ?_) (fun c1 => ?_)
  · have hf := opt_pos c1 hf
    exact H11 hf
  · have hf := opt_neg c1 hf
    refine g_iload_n C 0 dX10_checkSet_4 rfl ?_
    refine g_sipush C (v := 256) dX10_checkSet_5 (by decide) ?_
    refine g_icmp_lt C 22 dX10_checkSet_8 (by decide) (fun c2 => ?_) (fun c2 => ?_)
    · have hf := opt_pos c2 hf
      obtain rfl := Option.some.inj hf
      exact g_vret C E () dX10_checkSet_22 rfl rfl rfl (Nat.le_of_ble_eq_true rfl) (Nat.le_of_ble_eq_true rfl)
    · have hf := opt_neg c2 hf
      exact H11 hf
/-! X10_checkValue -/
theorem hd_X10_checkValue : yX10_checkValue.cls ≠ "java/lang/invoke/MethodHandle" ∧ yX10_checkValue.cls ≠ "java/lang/invoke/VarHandle" ∧ (parseMethodDescriptor yX10_checkValue.desc).map (fun d => d.parameters.length) = some 1 := by decide +kernel
def F_X10_checkValue_L11    : Option (Nat) := some 2
def F_X10_checkValue (p0 : Int32) : Option (Nat) := if p0 < 0 then (F_X10_checkValue_L11 ) else (if p0 < 1019 then (some 0) else (F_X10_checkValue_L11 ))
set_option maxRecDepth 100000 in
set_option maxHeartbeats 4000000 in
theorem c_X10_checkValue {l : Launch} {D : va_G} {cy : Nat → ClassId}   {p0 : Int32}  {val : Nat} (hf : F_X10_checkValue p0 = some val) : gCt l D cy yX10_checkValue cX10_checkValue 1 none 6 82 1 6 [.int p0] [] ([]) val (fun _ : Unit => none) (fun _ => []) := by
  refine g_begin (by decide +kernel) (Nat.le_of_ble_eq_true rfl) ?_
  intro X Q hl hR hD hy hro hn C hin E
  subst hl; subst hD; subst hy
  replace C : gC X "SecretVault" cX10_checkValue none := C
  unfold F_X10_checkValue at hf
  have H11 :  F_X10_checkValue_L11 = some val → gW X Q 0 0 ([]) [(0, .int p0)] [] 11 := by
    intro hf
    unfold F_X10_checkValue_L11 at hf
    obtain rfl := Option.some.inj hf
    exact g_throwSW C E () (text := "the value is out of range") gTh_2 ms_369 dX10_checkValue_11 dX10_checkValue_14 dX10_checkValue_15 dX10_checkValue_18 dX10_checkValue_21 (g_th hR rfl rfl) (g_rc hR (Nat.le_of_ble_eq_true rfl) (Nat.le_of_ble_eq_true rfl)) (Nat.succ_ne_zero 1) rfl rfl (Nat.le_of_ble_eq_true rfl) (Nat.le_of_ble_eq_true rfl)
  show gW X Q 0 0 ([]) [(0, .int p0)] [] 0
  refine g_iload_n C 0 dX10_checkValue_0 rfl ?_
  refine g_if_lt C 11 dX10_checkValue_1 (by decide) (fun c1 => ?_) (fun c1 => ?_)
  · have hf := opt_pos c1 hf
    exact H11 hf
  · have hf := opt_neg c1 hf
    refine g_iload_n C 0 dX10_checkValue_4 rfl ?_
    refine g_sipush C (v := 1019) dX10_checkValue_5 (by decide) ?_
    refine g_icmp_lt C 22 dX10_checkValue_8 (by decide) (fun c2 => ?_) (fun c2 => ?_)
    · have hf := opt_pos c2 hf
      obtain rfl := Option.some.inj hf
      exact g_vret C E () dX10_checkValue_22 rfl rfl rfl (Nat.le_of_ble_eq_true rfl) (Nat.le_of_ble_eq_true rfl)
    · have hf := opt_neg c2 hf
      exact H11 hf
/-! X10_checkThreshold -/
theorem hd_X10_checkThreshold : yX10_checkThreshold.cls ≠ "java/lang/invoke/MethodHandle" ∧ yX10_checkThreshold.cls ≠ "java/lang/invoke/VarHandle" ∧ (parseMethodDescriptor yX10_checkThreshold.desc).map (fun d => d.parameters.length) = some 1 := by decide +kernel
def F_X10_checkThreshold_L11    : Option (Nat) := some 2
def F_X10_checkThreshold (p0 : Int32) : Option (Nat) := if p0 < 1 then (F_X10_checkThreshold_L11 ) else (if p0 ≤ 8 then (some 0) else (F_X10_checkThreshold_L11 ))
set_option maxRecDepth 100000 in
set_option maxHeartbeats 4000000 in
theorem c_X10_checkThreshold {l : Launch} {D : va_G} {cy : Nat → ClassId}   {p0 : Int32}  {val : Nat} (hf : F_X10_checkThreshold p0 = some val) : gCt l D cy yX10_checkThreshold cX10_checkThreshold 1 none 6 82 1 6 [.int p0] [] ([]) val (fun _ : Unit => none) (fun _ => []) := by
  refine g_begin (by decide +kernel) (Nat.le_of_ble_eq_true rfl) ?_
  intro X Q hl hR hD hy hro hn C hin E
  subst hl; subst hD; subst hy
  replace C : gC X "SecretVault" cX10_checkThreshold none := C
  unfold F_X10_checkThreshold at hf
  have H11 :  F_X10_checkThreshold_L11 = some val → gW X Q 0 0 ([]) [(0, .int p0)] [] 11 := by
    intro hf
    unfold F_X10_checkThreshold_L11 at hf
    obtain rfl := Option.some.inj hf
    exact g_throwSW C E () (text := "the threshold is out of range") gTh_2 ms_371 dX10_checkThreshold_11 dX10_checkThreshold_14 dX10_checkThreshold_15 dX10_checkThreshold_18 dX10_checkThreshold_21 (g_th hR rfl rfl) (g_rc hR (Nat.le_of_ble_eq_true rfl) (Nat.le_of_ble_eq_true rfl)) (Nat.succ_ne_zero 1) rfl rfl (Nat.le_of_ble_eq_true rfl) (Nat.le_of_ble_eq_true rfl)
  show gW X Q 0 0 ([]) [(0, .int p0)] [] 0
  refine g_iload_n C 0 dX10_checkThreshold_0 rfl ?_
  refine g_iconst C (v := 1) dX10_checkThreshold_1 (by decide) ?_
  refine g_icmp_lt C 11 dX10_checkThreshold_2 (by decide) (fun c1 => ?_) (fun c1 => ?_)
  · have hf := opt_pos c1 hf
    exact H11 hf
  · have hf := opt_neg c1 hf
    refine g_iload_n C 0 dX10_checkThreshold_5 rfl ?_
    refine g_bipush C (v := 8) dX10_checkThreshold_6 (by decide) ?_
    refine g_icmp_le C 22 dX10_checkThreshold_8 (by decide) (fun c2 => ?_) (fun c2 => ?_)
    · have hf := opt_pos c2 hf
      obtain rfl := Option.some.inj hf
      exact g_vret C E () dX10_checkThreshold_22 rfl rfl rfl (Nat.le_of_ble_eq_true rfl) (Nat.le_of_ble_eq_true rfl)
    · have hf := opt_neg c2 hf
      exact H11 hf
/-! X10_seed -/
theorem hd_X10_seed : yX10_seed.cls ≠ "java/lang/invoke/MethodHandle" ∧ yX10_seed.cls ≠ "java/lang/invoke/VarHandle" ∧ (parseMethodDescriptor yX10_seed.desc).map (fun d => d.parameters.length) = some 1 := by decide +kernel
def F_X10_seed (z : Int32) (p0 : Int32) : Option (Int32 × Int32) := some (z, p0)
set_option maxRecDepth 100000 in
set_option maxHeartbeats 4000000 in
theorem c_X10_seed {l : Launch} {D : va_G} {cy : Nat → ClassId} {v : Nat → Nat} {b : Nat → Nat} {kp : Nat} {ak : Int32} {bf : Nat} {fa : Int32} {fl : Nat} {ln : Nat} {co : Nat → Int32} {ch : Nat → Int32} {gs : Nat → Int32} {op : Nat → Int32} {z : Int32} {pr : Int32} {le : Int32} {ec : Int32} {wt : Nat → Int32} {sa : Nat → Option Nat} {ev : Nat → Int32} {p0 : Int32}  {val : Int32 × Int32} (hf : F_X10_seed z p0 = some val) : gCt l D cy yX10_seed cX10_seed 3 (some .int) 0 0 0 0 [.ref (v 0), .int p0] [] ((wV cy v (b 0) kp ak bf fa fl ln co ch gs op) ++ (wSt cy b z pr le ec wt sa ev)) 0 (fun _ : Unit => some (.int val.1)) (fun _ => (wV cy v (b 0) kp ak bf fa fl ln co ch gs op) ++ (wSt cy b val.2 pr le ec wt sa ev)) := by
  refine g_begin (by decide +kernel) (Nat.le_of_ble_eq_true rfl) ?_
  intro X Q hl hR hD hy hro hn C hin E
  subst hl; subst hD; subst hy
  replace C : gC X "SecretVault" cX10_seed (some .int) := C
  unfold F_X10_seed at hf
  show gW X Q 0 0 ((wV (x_y X) v (b 0) kp ak bf fa fl ln co ch gs op) ++ (wSt (x_y X) b z pr le ec wt sa ev)) [(0, .ref (v 0)), (1, .int p0)] [] 0
  refine g_aload_n C 0 dX10_seed_0 rfl ?_
  refine g_get C 0 0 rfl rfl wiX10 (by decide) mw_1_171 rfl rfl dX10_seed_1 ?_
  refine g_get C 5 0 rfl rfl wiX9 (by decide) mw_1_91 rfl rfl dX10_seed_4 ?_
  refine g_istore_n C (lv' := [(2, .int z), (0, .ref (v 0)), (1, .int p0)]) dX10_seed_7 (g_nlt hn rfl) rfl ?_
  refine g_aload_n C 1 dX10_seed_8 rfl ?_
  refine g_get C 0 0 rfl rfl wiX10 (by decide) mw_1_171 rfl rfl dX10_seed_9 ?_
  refine g_iload_n C 2 dX10_seed_12 rfl ?_
  refine g_put C (ws' := (wV (x_y X) v (b 0) kp ak bf fa fl ln co ch gs op) ++ (wSt (x_y X) b p0 pr le ec wt sa ev)) 5 0 rfl rfl wiX9 (by decide) tyX9_ok nmX9 mw_1_91 rfl rfl rfl rfl (Nat.le_of_ble_eq_true rfl) rfl dX10_seed_13 ?_
  refine g_iload_n C 0 dX10_seed_16 rfl ?_
  obtain rfl := Option.some.inj hf
  exact g_iret C E () dX10_seed_17 rfl rfl rfl (Nat.le_of_ble_eq_true rfl) (Nat.le_of_ble_eq_true rfl)
/-! X10_draw -/
theorem hd_X10_draw : yX10_draw.cls ≠ "java/lang/invoke/MethodHandle" ∧ yX10_draw.cls ≠ "java/lang/invoke/VarHandle" ∧ (parseMethodDescriptor yX10_draw.desc).map (fun d => d.parameters.length) = some 0 := by decide +kernel
def F_X10_draw (z : Int32) : Option (Int32 × Int32) := (F_X9_nextNumber z).bind fun v1 => some (v1.1, v1.2)
set_option maxRecDepth 100000 in
set_option maxHeartbeats 4000000 in
theorem c_X10_draw {l : Launch} {D : va_G} {cy : Nat → ClassId} {v : Nat → Nat} {b : Nat → Nat} {kp : Nat} {ak : Int32} {bf : Nat} {fa : Int32} {fl : Nat} {ln : Nat} {co : Nat → Int32} {ch : Nat → Int32} {gs : Nat → Int32} {op : Nat → Int32} {z : Int32} {pr : Int32} {le : Int32} {ec : Int32} {wt : Nat → Int32} {sa : Nat → Option Nat} {ev : Nat → Int32}   {val : Int32 × Int32} (hf : F_X10_draw z = some val) : gCt l D cy yX10_draw cX10_draw 1 (some .int) 1 20 0 0 [.ref (v 0)] [] ((wV cy v (b 0) kp ak bf fa fl ln co ch gs op) ++ (wSt cy b z pr le ec wt sa ev)) 0 (fun _ : Unit => some (.int val.1)) (fun _ => (wV cy v (b 0) kp ak bf fa fl ln co ch gs op) ++ (wSt cy b val.2 pr le ec wt sa ev)) := by
  refine g_begin (by decide +kernel) (Nat.le_of_ble_eq_true rfl) ?_
  intro X Q hl hR hD hy hro hn C hin E
  subst hl; subst hD; subst hy
  replace C : gC X "SecretVault" cX10_draw (some .int) := C
  unfold F_X10_draw at hf
  show gW X Q 0 0 ((wV (x_y X) v (b 0) kp ak bf fa fl ln co ch gs op) ++ (wSt (x_y X) b z pr le ec wt sa ev)) [(0, .ref (v 0))] [] 0
  refine g_aload_n C 0 dX10_draw_0 rfl ?_
  refine g_get C 0 0 rfl rfl wiX10 (by decide) mw_1_171 rfl rfl dX10_draw_1 ?_
  obtain ⟨v1, h2, hf⟩ := opt_bind hf
  refine g_callV C (c_X9_nextNumber (l := x_l X) (D := x_D X) (cy := x_y X) (a := b) (z := z) (pr := pr) (le := le) (ec := ec) (wt := wt) (sa := sa) (ev := ev) h2) (As := []) (rest := []) (wr := (wV (x_y X) v (b 0) kp ak bf fa fl ln co ch gs op)) (ws' := fun _ => (wV (x_y X) v (b 0) kp ak bf fa fl ln co ch gs op) ++ (wSt (x_y X) b v1.2 pr le ec wt sa ev)) (st' := fun _ => [.int v1.1]) (ci := 10) 0 5 ⟨_, rfl⟩ rfl rfl mw_1_217 mw_1_2 mw_1_214 mw_1_215 mw_1_216 hd_X9_nextNumber rfl (g_rm hR rfl rfl) [5, 6, 7, 8] [0, 1, 2, 3, 4] [0, 1, 2, 3, 4, 5, 6, 7, 8] ⟨rfl, rfl, rfl, rfl, by decide, gRoIn_0, rfl, fun _ => rfl⟩ rfl (Nat.le_of_ble_eq_true rfl) dX10_draw_4 (g_rc hR (Nat.le_of_ble_eq_true rfl) (Nat.le_of_ble_eq_true rfl)) (ck' := 0) (sk' := 0) rfl rfl (fun _ => rfl) (fun _ _ => ?_) (fun _ hx => absurd rfl hx)
  obtain rfl := Option.some.inj hf
  exact g_iret C E () dX10_draw_7 rfl rfl rfl (Nat.le_of_ble_eq_true rfl) (Nat.le_of_ble_eq_true rfl)
/-! X10_setWeight -/
theorem hd_X10_setWeight : yX10_setWeight.cls ≠ "java/lang/invoke/MethodHandle" ∧ yX10_setWeight.cls ≠ "java/lang/invoke/VarHandle" ∧ (parseMethodDescriptor yX10_setWeight.desc).map (fun d => d.parameters.length) = some 2 := by decide +kernel
def F_X10_setWeight_L13   (wt_13 : Nat → Int32) : Option (Nat × Int32 × (Nat → Int32)) := some (2, 0, wt_13)
def F_X10_setWeight (wt : Nat → Int32) (p0 : Int32) (p1 : Int32) : Option (Nat × Int32 × (Nat → Int32)) := (F_X10_checkMember p0).bind fun v1 => if v1 = 0 then (if p1 < 0 then (F_X10_setWeight_L13 wt) else (if p1 ≤ 3 then (gg (gi p0 8) (gl (wt (Int32.toNatClampNeg p0)) fun x6 => gg (gi p0 8) (gl (upd wt (Int32.toNatClampNeg p0) p1) fun f8 => some (0, x6, f8)))) else (F_X10_setWeight_L13 wt))) else some (v1, 0, wt)
set_option maxRecDepth 100000 in
set_option maxHeartbeats 4000000 in
theorem c_X10_setWeight {l : Launch} {D : va_G} {cy : Nat → ClassId} {v : Nat → Nat} {b : Nat → Nat} {kp : Nat} {ak : Int32} {bf : Nat} {fa : Int32} {fl : Nat} {ln : Nat} {co : Nat → Int32} {ch : Nat → Int32} {gs : Nat → Int32} {op : Nat → Int32} {z : Int32} {pr : Int32} {le : Int32} {ec : Int32} {wt : Nat → Int32} {sa : Nat → Option Nat} {ev : Nat → Int32} {p0 : Int32} {p1 : Int32}  {val : Nat × Int32 × (Nat → Int32)} (hf : F_X10_setWeight wt p0 p1 = some val) : gCt l D cy yX10_setWeight cX10_setWeight 4 (some .int) 7 102 2 12 [.ref (v 0), .int p0, .int p1] [] ((wV cy v (b 0) kp ak bf fa fl ln co ch gs op) ++ (wSt cy b z pr le ec wt sa ev)) val.1 (fun _ : Unit => some (.int val.2.1)) (fun _ => (wV cy v (b 0) kp ak bf fa fl ln co ch gs op) ++ (wSt cy b z pr le ec val.2.2 sa ev)) := by
  refine g_begin (by decide +kernel) (Nat.le_of_ble_eq_true rfl) ?_
  intro X Q hl hR hD hy hro hn C hin E
  subst hl; subst hD; subst hy
  replace C : gC X "SecretVault" cX10_setWeight (some .int) := C
  unfold F_X10_setWeight at hf
  have H13 : ∀ (wt_13 : Nat → Int32), F_X10_setWeight_L13 wt_13 = some val → gW X Q 1 6 ((wV (x_y X) v (b 0) kp ak bf fa fl ln co ch gs op) ++ (wSt (x_y X) b z pr le ec wt_13 sa ev)) [(0, .ref (v 0)), (1, .int p0), (2, .int p1)] [] 13 := by
    intro wt_13 hf
    unfold F_X10_setWeight_L13 at hf
    obtain rfl := Option.some.inj hf
    exact g_throwS C E () (text := "the weight is out of range") gTh_2 ms_67 dX10_setWeight_13 dX10_setWeight_16 dX10_setWeight_17 dX10_setWeight_19 dX10_setWeight_22 (g_th hR rfl rfl) (g_rc hR (Nat.le_of_ble_eq_true rfl) (Nat.le_of_ble_eq_true rfl)) (Nat.succ_ne_zero 1) rfl rfl (Nat.le_of_ble_eq_true rfl) (Nat.le_of_ble_eq_true rfl)
  show gW X Q 0 0 ((wV (x_y X) v (b 0) kp ak bf fa fl ln co ch gs op) ++ (wSt (x_y X) b z pr le ec wt sa ev)) [(0, .ref (v 0)), (1, .int p0), (2, .int p1)] [] 0
  refine g_iload_n C 1 dX10_setWeight_0 rfl ?_
  obtain ⟨v1, h2, hf⟩ := opt_bind hf
  refine g_callS C (c_X10_checkMember (l := x_l X) (D := x_D X) (cy := x_y X) (p0 := p0) h2) (As := [.int p0]) (rest := []) (wr := (wV (x_y X) v (b 0) kp ak bf fa fl ln co ch gs op) ++ (wSt (x_y X) b z pr le ec wt sa ev)) (ws' := fun _ => (wV (x_y X) v (b 0) kp ak bf fa fl ln co ch gs op) ++ (wSt (x_y X) b z pr le ec wt sa ev)) (st' := fun _ => []) 1 mw_2_97 mw_1_1 mw_2_95 mw_2_96 hd_X10_checkMember rfl (g_rm hR rfl rfl) [] [0, 1, 2, 3, 4, 5, 6, 7, 8] [0, 1, 2, 3, 4, 5, 6, 7, 8] ⟨rfl, rfl, rfl, rfl, by decide, gRoIn_0, rfl, fun _ => rfl⟩ rfl (Nat.le_of_ble_eq_true rfl) dX10_setWeight_1 (g_rc hR (Nat.le_of_ble_eq_true rfl) (Nat.le_of_ble_eq_true rfl)) (ck' := 1) (sk' := 6) rfl rfl (fun _ => rfl) (fun _ ev1 => ?_) (fun _ ev1 => ?_)
  rotate_left
  · have hf := opt_neg ev1 hf
    obtain rfl := Option.some.inj hf
    exact g_out E () rfl ev1 rfl (Nat.le_of_ble_eq_true rfl) (Nat.le_of_ble_eq_true rfl)
  have hf := opt_pos ev1 hf
  refine g_iload_n C 2 dX10_setWeight_4 rfl ?_
  refine g_if_lt C 13 dX10_setWeight_5 (by decide) (fun c3 => ?_) (fun c3 => ?_)
  · have hf := opt_pos c3 hf
    exact H13 wt hf
  · have hf := opt_neg c3 hf
    refine g_iload_n C 2 dX10_setWeight_8 rfl ?_
    refine g_iconst C (v := 3) dX10_setWeight_9 (by decide) ?_
    refine g_icmp_le C 23 dX10_setWeight_10 (by decide) (fun c4 => ?_) (fun c4 => ?_)
    · have hf := opt_pos c4 hf
      refine g_aload_n C 0 dX10_setWeight_23 rfl ?_
      refine g_get C 0 0 rfl rfl wiX10 (by decide) mw_1_171 rfl rfl dX10_setWeight_24 ?_
      refine g_get C 5 1 rfl rfl wiX9 (by decide) mw_1_93 rfl rfl dX10_setWeight_27 ?_
      refine g_iload_n C 1 dX10_setWeight_30 rfl ?_
      obtain ⟨c5, hf⟩ := gg_of hf
      refine g_iald C 6 rfl (gi_in c5) dX10_setWeight_31 ?_
      obtain ⟨x6, ex6, hf⟩ := opt_let hf
      refine g_topi ex6 ?_
      refine g_istore_n C (lv' := [(3, .int x6), (0, .ref (v 0)), (1, .int p0), (2, .int p1)]) dX10_setWeight_32 (g_nlt hn rfl) rfl ?_
      refine g_aload_n C 1 dX10_setWeight_33 rfl ?_
      refine g_get C 0 0 rfl rfl wiX10 (by decide) mw_1_171 rfl rfl dX10_setWeight_34 ?_
      refine g_get C 5 1 rfl rfl wiX9 (by decide) mw_1_93 rfl rfl dX10_setWeight_37 ?_
      refine g_iload_n C 2 dX10_setWeight_40 rfl ?_
      refine g_iload_n C 3 dX10_setWeight_41 rfl ?_
      obtain ⟨c7, hf⟩ := gg_of hf
      obtain ⟨f8, ef8, hf⟩ := opt_let hf
      refine g_iast C (ws' := (wV (x_y X) v (b 0) kp ak bf fa fl ln co ch gs op) ++ (wSt (x_y X) b z pr le ec f8 sa ev)) 6 rfl (gi_in c7) (by rw [ef8]; rfl) dX10_setWeight_42 ?_
      refine g_iload_n C 0 dX10_setWeight_43 rfl ?_
      obtain rfl := Option.some.inj hf
      exact g_iret C E () dX10_setWeight_44 rfl rfl rfl (Nat.le_of_ble_eq_true rfl) (Nat.le_of_ble_eq_true rfl)
    · have hf := opt_neg c4 hf
      exact H13 wt hf
/-! X10_setPresent -/
theorem hd_X10_setPresent : yX10_setPresent.cls ≠ "java/lang/invoke/MethodHandle" ∧ yX10_setPresent.cls ≠ "java/lang/invoke/VarHandle" ∧ (parseMethodDescriptor yX10_setPresent.desc).map (fun d => d.parameters.length) = some 2 := by decide +kernel
def F_X10_setPresent_L54   (pr_54 : Int32) (l3_54 : Int32) (s0_54 : Int32) : Option (Nat × Int32 × Int32) := gg (gnar .boolean l3_54) (some (0, l3_54, s0_54))
def F_X10_setPresent (pr : Int32) (p0 : Int32) (p1 : Int32) : Option (Nat × Int32 × Int32) := (F_X10_checkMember p0).bind fun v1 => if v1 = 0 then ((F_X10_contains pr p0).bind fun v3 => gl ((1 : Int32) <<< (p0 &&& 31)) fun x5 => if p1 = 0 then (F_X10_setPresent_L54 pr v3 (pr &&& (x5 ^^^ (-1)))) else (F_X10_setPresent_L54 pr v3 (pr ||| x5))) else some (v1, 0, pr)
set_option maxRecDepth 100000 in
set_option maxHeartbeats 4000000 in
theorem c_X10_setPresent {l : Launch} {D : va_G} {cy : Nat → ClassId} {v : Nat → Nat} {b : Nat → Nat} {kp : Nat} {ak : Int32} {bf : Nat} {fa : Int32} {fl : Nat} {ln : Nat} {co : Nat → Int32} {ch : Nat → Int32} {gs : Nat → Int32} {op : Nat → Int32} {z : Int32} {pr : Int32} {le : Int32} {ec : Int32} {wt : Nat → Int32} {sa : Nat → Option Nat} {ev : Nat → Int32} {p0 : Int32} {p1 : Int32}  {val : Nat × Int32 × Int32} (hf : F_X10_setPresent pr p0 p1 = some val) : gCt l D cy yX10_setPresent cX10_setPresent 5 (some .boolean) 7 102 1 6 [.ref (v 0), .int p0, .int p1] [] ((wV cy v (b 0) kp ak bf fa fl ln co ch gs op) ++ (wSt cy b z pr le ec wt sa ev)) val.1 (fun _ : Unit => some (.int val.2.1)) (fun _ => (wV cy v (b 0) kp ak bf fa fl ln co ch gs op) ++ (wSt cy b z val.2.2 le ec wt sa ev)) := by
  refine g_begin (by decide +kernel) (Nat.le_of_ble_eq_true rfl) ?_
  intro X Q hl hR hD hy hro hn C hin E
  subst hl; subst hD; subst hy
  replace C : gC X "SecretVault" cX10_setPresent (some .boolean) := C
  unfold F_X10_setPresent at hf
  have H54 : ∀ (pr_54 : Int32) (l3_54 : Int32) (s0_54 : Int32), F_X10_setPresent_L54 pr_54 l3_54 s0_54 = some val → gW X Q 1 6 ((wV (x_y X) v (b 0) kp ak bf fa fl ln co ch gs op) ++ (wSt (x_y X) b z pr_54 le ec wt sa ev)) [(0, .ref (v 0)), (1, .int p0), (2, .int p1), (3, .int l3_54)] [.int s0_54, .ref (b 0)] 54 := by
    intro pr_54 l3_54 s0_54 hf
    unfold F_X10_setPresent_L54 at hf
    refine g_put C (ws' := (wV (x_y X) v (b 0) kp ak bf fa fl ln co ch gs op) ++ (wSt (x_y X) b z s0_54 le ec wt sa ev)) 5 2 rfl rfl wiX9 (by decide) tyX9_ok nmX9 mw_1_95 rfl rfl rfl rfl (Nat.le_of_ble_eq_true rfl) rfl dX10_setPresent_54 ?_
    refine g_iload_n C 3 dX10_setPresent_57 rfl ?_
    obtain ⟨c7, hf⟩ := gg_of hf
    obtain rfl := Option.some.inj hf
    exact g_zret C E () (gnar_of c7) dX10_setPresent_58 rfl rfl rfl (Nat.le_of_ble_eq_true rfl) (Nat.le_of_ble_eq_true rfl)
  show gW X Q 0 0 ((wV (x_y X) v (b 0) kp ak bf fa fl ln co ch gs op) ++ (wSt (x_y X) b z pr le ec wt sa ev)) [(0, .ref (v 0)), (1, .int p0), (2, .int p1)] [] 0
  refine g_iload_n C 1 dX10_setPresent_0 rfl ?_
  obtain ⟨v1, h2, hf⟩ := opt_bind hf
  refine g_callS C (c_X10_checkMember (l := x_l X) (D := x_D X) (cy := x_y X) (p0 := p0) h2) (As := [.int p0]) (rest := []) (wr := (wV (x_y X) v (b 0) kp ak bf fa fl ln co ch gs op) ++ (wSt (x_y X) b z pr le ec wt sa ev)) (ws' := fun _ => (wV (x_y X) v (b 0) kp ak bf fa fl ln co ch gs op) ++ (wSt (x_y X) b z pr le ec wt sa ev)) (st' := fun _ => []) 1 mw_2_97 mw_1_1 mw_2_95 mw_2_96 hd_X10_checkMember rfl (g_rm hR rfl rfl) [] [0, 1, 2, 3, 4, 5, 6, 7, 8] [0, 1, 2, 3, 4, 5, 6, 7, 8] ⟨rfl, rfl, rfl, rfl, by decide, gRoIn_0, rfl, fun _ => rfl⟩ rfl (Nat.le_of_ble_eq_true rfl) dX10_setPresent_1 (g_rc hR (Nat.le_of_ble_eq_true rfl) (Nat.le_of_ble_eq_true rfl)) (ck' := 1) (sk' := 6) rfl rfl (fun _ => rfl) (fun _ ev1 => ?_) (fun _ ev1 => ?_)
  rotate_left
  · have hf := opt_neg ev1 hf
    obtain rfl := Option.some.inj hf
    exact g_out E () rfl ev1 rfl (Nat.le_of_ble_eq_true rfl) (Nat.le_of_ble_eq_true rfl)
  have hf := opt_pos ev1 hf
  refine g_aload_n C 0 dX10_setPresent_4 rfl ?_
  refine g_get C 0 0 rfl rfl wiX10 (by decide) mw_1_171 rfl rfl dX10_setPresent_5 ?_
  refine g_get C 5 2 rfl rfl wiX9 (by decide) mw_1_95 rfl rfl dX10_setPresent_8 ?_
  refine g_iload_n C 1 dX10_setPresent_11 rfl ?_
  obtain ⟨v3, h4, hf⟩ := opt_bind hf
  refine g_callS C (c_X10_contains (l := x_l X) (D := x_D X) (cy := x_y X) (p0 := pr) (p1 := p0) h4) (As := [.int pr, .int p0]) (rest := []) (wr := (wV (x_y X) v (b 0) kp ak bf fa fl ln co ch gs op) ++ (wSt (x_y X) b z pr le ec wt sa ev)) (ws' := fun _ => (wV (x_y X) v (b 0) kp ak bf fa fl ln co ch gs op) ++ (wSt (x_y X) b z pr le ec wt sa ev)) (st' := fun _ => [.int v3]) 2 mw_2_136 mw_1_1 mw_2_134 mw_2_135 hd_X10_contains rfl (g_rm hR rfl rfl) [] [0, 1, 2, 3, 4, 5, 6, 7, 8] [0, 1, 2, 3, 4, 5, 6, 7, 8] ⟨rfl, rfl, rfl, rfl, by decide, gRoIn_0, rfl, fun _ => rfl⟩ rfl (Nat.le_of_ble_eq_true rfl) dX10_setPresent_12 (g_rc hR (Nat.le_of_ble_eq_true rfl) (Nat.le_of_ble_eq_true rfl)) (ck' := 1) (sk' := 6) rfl rfl (fun _ => rfl) (fun _ _ => ?_) (fun _ hx => absurd rfl hx)
  refine g_istore_n C (lv' := [(3, .int v3), (0, .ref (v 0)), (1, .int p0), (2, .int p1)]) dX10_setPresent_15 (g_nlt hn rfl) rfl ?_
  refine g_iconst C (v := 1) dX10_setPresent_16 (by decide) ?_
  refine g_iload_n C 2 dX10_setPresent_17 rfl ?_
  refine g_ishl C dX10_setPresent_18 ?_
  obtain ⟨x5, ex5, hf⟩ := opt_let hf
  refine g_topi ex5 ?_
  refine g_istore C (lv' := [(4, .int x5), (3, .int v3), (0, .ref (v 0)), (1, .int p0), (2, .int p1)]) dX10_setPresent_19 (g_nlt hn rfl) rfl ?_
  refine g_aload_n C 2 dX10_setPresent_21 rfl ?_
  refine g_get C 0 0 rfl rfl wiX10 (by decide) mw_1_171 rfl rfl dX10_setPresent_22 ?_
  refine g_iload_n C 4 dX10_setPresent_25 rfl ?_
  refine g_if_eq C 42 dX10_setPresent_26 (by decide) (fun c6 => ?_) (fun c6 => ?_)
  · have hf := opt_pos c6 hf
    refine g_aload_n C 2 dX10_setPresent_42 rfl ?_
    refine g_get C 0 0 rfl rfl wiX10 (by decide) mw_1_171 rfl rfl dX10_setPresent_43 ?_
    refine g_get C 5 2 rfl rfl wiX9 (by decide) mw_1_95 rfl rfl dX10_setPresent_46 ?_
    refine g_iload C 0 dX10_setPresent_49 rfl ?_
    refine g_iconst C (v := (-1)) dX10_setPresent_51 (by decide) ?_
    refine g_ixor C dX10_setPresent_52 ?_
    refine g_iand C dX10_setPresent_53 ?_
    refine gW.locals [2, 3, 4, 1] rfl ?_
    exact H54 pr v3 (pr &&& (x5 ^^^ (-1))) hf
  · have hf := opt_neg c6 hf
    refine g_aload_n C 2 dX10_setPresent_29 rfl ?_
    refine g_get C 0 0 rfl rfl wiX10 (by decide) mw_1_171 rfl rfl dX10_setPresent_30 ?_
    refine g_get C 5 2 rfl rfl wiX9 (by decide) mw_1_95 rfl rfl dX10_setPresent_33 ?_
    refine g_iload C 0 dX10_setPresent_36 rfl ?_
    refine g_ior C dX10_setPresent_38 ?_
    refine g_goto C 54 dX10_setPresent_39 (by decide) ?_
    refine gW.locals [2, 3, 4, 1] rfl ?_
    exact H54 pr v3 (pr ||| x5) hf
/-! X10_event -/
theorem hd_X10_event : yX10_event.cls ≠ "java/lang/invoke/MethodHandle" ∧ yX10_event.cls ≠ "java/lang/invoke/VarHandle" ∧ (parseMethodDescriptor yX10_event.desc).map (fun d => d.parameters.length) = some 1 := by decide +kernel
def F_X10_event_L15    : Option (Nat × Int32) := some (3, 0)
def F_X10_event (le : Int32) (ec : Int32) (ev : Nat → Int32) (p0 : Int32) : Option (Nat × Int32) := if p0 < 0 then (F_X10_event_L15 ) else (if p0 < ec then (gl (((le + 20) - p0) - ((le + 20) - p0) / 20 * 20) fun x3 => gg (gi x3 20) (some (0, ev (Int32.toNatClampNeg x3)))) else (F_X10_event_L15 ))
set_option maxRecDepth 100000 in
set_option maxHeartbeats 4000000 in
theorem c_X10_event {l : Launch} {D : va_G} {cy : Nat → ClassId} {v : Nat → Nat} {b : Nat → Nat} {kp : Nat} {ak : Int32} {bf : Nat} {fa : Int32} {fl : Nat} {ln : Nat} {co : Nat → Int32} {ch : Nat → Int32} {gs : Nat → Int32} {op : Nat → Int32} {z : Int32} {pr : Int32} {le : Int32} {ec : Int32} {wt : Nat → Int32} {sa : Nat → Option Nat} {ev : Nat → Int32} {p0 : Int32}  {val : Nat × Int32} (hf : F_X10_event le ec ev p0 = some val) : gCt l D cy yX10_event cX10_event 2 (some .int) 6 82 1 6 [.ref (v 0), .int p0] [] ((wV cy v (b 0) kp ak bf fa fl ln co ch gs op) ++ (wSt cy b z pr le ec wt sa ev)) val.1 (fun _ : Unit => some (.int val.2)) (fun _ => (wV cy v (b 0) kp ak bf fa fl ln co ch gs op) ++ (wSt cy b z pr le ec wt sa ev)) := by
  refine g_begin (by decide +kernel) (Nat.le_of_ble_eq_true rfl) ?_
  intro X Q hl hR hD hy hro hn C hin E
  subst hl; subst hD; subst hy
  replace C : gC X "SecretVault" cX10_event (some .int) := C
  unfold F_X10_event at hf
  have H15 :  F_X10_event_L15 = some val → gW X Q 0 0 ((wV (x_y X) v (b 0) kp ak bf fa fl ln co ch gs op) ++ (wSt (x_y X) b z pr le ec wt sa ev)) [(0, .ref (v 0)), (1, .int p0)] [] 15 := by
    intro hf
    unfold F_X10_event_L15 at hf
    obtain rfl := Option.some.inj hf
    exact g_throwNW C E () (text := "no such event") gTh_3 ms_336 dX10_event_15 dX10_event_18 dX10_event_19 dX10_event_22 dX10_event_25 (g_th hR rfl rfl) (g_rc hR (Nat.le_of_ble_eq_true rfl) (Nat.le_of_ble_eq_true rfl)) (Nat.succ_ne_zero 2) rfl rfl (Nat.le_of_ble_eq_true rfl) (Nat.le_of_ble_eq_true rfl)
  show gW X Q 0 0 ((wV (x_y X) v (b 0) kp ak bf fa fl ln co ch gs op) ++ (wSt (x_y X) b z pr le ec wt sa ev)) [(0, .ref (v 0)), (1, .int p0)] [] 0
  refine g_iload_n C 1 dX10_event_0 rfl ?_
  refine g_if_lt C 15 dX10_event_1 (by decide) (fun c1 => ?_) (fun c1 => ?_)
  · have hf := opt_pos c1 hf
    exact H15 hf
  · have hf := opt_neg c1 hf
    refine g_iload_n C 1 dX10_event_4 rfl ?_
    refine g_aload_n C 0 dX10_event_5 rfl ?_
    refine g_get C 0 0 rfl rfl wiX10 (by decide) mw_1_171 rfl rfl dX10_event_6 ?_
    refine g_get C 5 6 rfl rfl wiX9 (by decide) mw_1_103 rfl rfl dX10_event_9 ?_
    refine g_icmp_lt C 26 dX10_event_12 (by decide) (fun c2 => ?_) (fun c2 => ?_)
    · have hf := opt_pos c2 hf
      refine g_aload_n C 0 dX10_event_26 rfl ?_
      refine g_get C 0 0 rfl rfl wiX10 (by decide) mw_1_171 rfl rfl dX10_event_27 ?_
      refine g_get C 5 4 rfl rfl wiX9 (by decide) mw_1_99 rfl rfl dX10_event_30 ?_
      refine g_aload_n C 0 dX10_event_33 rfl ?_
      refine g_get C 0 0 rfl rfl wiX10 (by decide) mw_1_171 rfl rfl dX10_event_34 ?_
      refine g_get C 5 5 rfl rfl wiX9 (by decide) mw_1_101 rfl rfl dX10_event_37 ?_
      refine g_bipush C (v := 20) dX10_event_40 (by decide) ?_
      refine g_iadd C dX10_event_42 ?_
      refine g_iload_n C 1 dX10_event_43 rfl ?_
      refine g_isub C dX10_event_44 ?_
      refine g_bipush C (v := 20) dX10_event_45 (by decide) ?_
      refine g_irem C dX10_event_47 (by decide) ?_
      obtain ⟨x3, ex3, hf⟩ := opt_let hf
      refine g_topi ex3 ?_
      obtain ⟨c4, hf⟩ := gg_of hf
      refine g_iald C 8 rfl (gi_in c4) dX10_event_48 ?_
      obtain rfl := Option.some.inj hf
      exact g_iret C E () dX10_event_49 rfl rfl rfl (Nat.le_of_ble_eq_true rfl) (Nat.le_of_ble_eq_true rfl)
    · have hf := opt_neg c2 hf
      exact H15 hf
/-! X10_drawCoefficients -/
theorem hd_X10_drawCoefficients : yX10_drawCoefficients.cls ≠ "java/lang/invoke/MethodHandle" ∧ yX10_drawCoefficients.cls ≠ "java/lang/invoke/VarHandle" ∧ (parseMethodDescriptor yX10_drawCoefficients.desc).map (fun d => d.parameters.length) = some 2 := by decide +kernel
def F_X10_drawCoefficients_L9 (p1 : Int32)  : Nat → (Nat → Int32) → Int32 → Int32 → Option ((Nat → Int32) × Int32)
  | 0, _, _, _ => none
  | n + 1, co_9, z_9, l3_9 => if p1 ≤ l3_9 then (some (co_9, z_9)) else ((F_X9_nextNumber z_9).bind fun v4 => gg (gi l3_9 8) (gl (upd co_9 (Int32.toNatClampNeg l3_9) v4.1) fun f7 => F_X10_drawCoefficients_L9 p1 n f7 v4.2 (l3_9 + 1)))
def F_X10_drawCoefficients (co : Nat → Int32) (z : Int32) (p0 : Int32) (p1 : Int32) : Option ((Nat → Int32) × Int32) := gg (gi 0 8) (gl (upd co (Int32.toNatClampNeg 0) p0) fun f2 => F_X10_drawCoefficients_L9 p1 1000 f2 z 1)
set_option maxRecDepth 100000 in
set_option maxHeartbeats 4000000 in
theorem c_X10_drawCoefficients {l : Launch} {D : va_G} {cy : Nat → ClassId} {v : Nat → Nat} {b : Nat → Nat} {kp : Nat} {ak : Int32} {bf : Nat} {fa : Int32} {fl : Nat} {ln : Nat} {co : Nat → Int32} {ch : Nat → Int32} {gs : Nat → Int32} {op : Nat → Int32} {z : Int32} {pr : Int32} {le : Int32} {ec : Int32} {wt : Nat → Int32} {sa : Nat → Option Nat} {ev : Nat → Int32} {p0 : Int32} {p1 : Int32}  {val : (Nat → Int32) × Int32} (hf : F_X10_drawCoefficients co z p0 p1 = some val) : gCt l D cy yX10_drawCoefficients cX10_drawCoefficients 4 none 1 20 0 0 [.ref (v 0), .int p0, .int p1] [] ((wV cy v (b 0) kp ak bf fa fl ln co ch gs op) ++ (wSt cy b z pr le ec wt sa ev)) 0 (fun _ : Unit => none) (fun _ => (wV cy v (b 0) kp ak bf fa fl ln val.1 ch gs op) ++ (wSt cy b val.2 pr le ec wt sa ev)) := by
  refine g_begin (by decide +kernel) (Nat.le_of_ble_eq_true rfl) ?_
  intro X Q hl hR hD hy hro hn C hin E
  subst hl; subst hD; subst hy
  replace C : gC X "SecretVault" cX10_drawCoefficients none := C
  unfold F_X10_drawCoefficients at hf
  have H9 : ∀ (n9 : Nat), ∀ (co_9 : Nat → Int32) (z_9 : Int32) (l3_9 : Int32), F_X10_drawCoefficients_L9 p1 n9 co_9 z_9 l3_9 = some val → gW X Q 0 0 ((wV (x_y X) v (b 0) kp ak bf fa fl ln co_9 ch gs op) ++ (wSt (x_y X) b z_9 pr le ec wt sa ev)) [(0, .ref (v 0)), (1, .int p0), (2, .int p1), (3, .int l3_9)] [] 9 := by
    intro n9
    induction n9 with
    | zero => intros; rename_i hf; cases hf
    | succ n9 ih =>
      intro co_9 z_9 l3_9 hf
      have H9 := ih
      rw [F_X10_drawCoefficients_L9] at hf
      refine g_iload_n C 3 dX10_drawCoefficients_9 rfl ?_
      refine g_iload_n C 2 dX10_drawCoefficients_10 rfl ?_
      refine g_icmp_ge C 33 dX10_drawCoefficients_11 (by decide) (fun c3 => ?_) (fun c3 => ?_)
      · have hf := opt_pos c3 hf
        obtain rfl := Option.some.inj hf
        exact g_vret C E () dX10_drawCoefficients_33 rfl rfl rfl (Nat.le_of_ble_eq_true rfl) (Nat.le_of_ble_eq_true rfl)
      · have hf := opt_neg c3 hf
        refine g_aload_n C 0 dX10_drawCoefficients_14 rfl ?_
        refine g_get C 0 6 rfl rfl wiX10 (by decide) mw_1_177 rfl rfl dX10_drawCoefficients_15 ?_
        refine g_iload_n C 3 dX10_drawCoefficients_18 rfl ?_
        refine g_aload_n C 0 dX10_drawCoefficients_19 rfl ?_
        refine g_get C 0 0 rfl rfl wiX10 (by decide) mw_1_171 rfl rfl dX10_drawCoefficients_20 ?_
        obtain ⟨v4, h5, hf⟩ := opt_bind hf
        refine g_callV C (c_X9_nextNumber (l := x_l X) (D := x_D X) (cy := x_y X) (a := b) (z := z_9) (pr := pr) (le := le) (ec := ec) (wt := wt) (sa := sa) (ev := ev) h5) (As := []) (rest := [.int l3_9, .ref (v 1)]) (wr := (wV (x_y X) v (b 0) kp ak bf fa fl ln co_9 ch gs op)) (ws' := fun _ => (wV (x_y X) v (b 0) kp ak bf fa fl ln co_9 ch gs op) ++ (wSt (x_y X) b v4.2 pr le ec wt sa ev)) (st' := fun _ => [.int v4.1, .int l3_9, .ref (v 1)]) (ci := 10) 0 5 ⟨_, rfl⟩ rfl rfl mw_1_217 mw_1_2 mw_1_214 mw_1_215 mw_1_216 hd_X9_nextNumber rfl (g_rm hR rfl rfl) [5, 6, 7, 8] [0, 1, 2, 3, 4] [0, 1, 2, 3, 4, 5, 6, 7, 8] ⟨rfl, rfl, rfl, rfl, by decide, gRoIn_0, rfl, fun _ => rfl⟩ rfl (Nat.le_of_ble_eq_true rfl) dX10_drawCoefficients_23 (g_rc hR (Nat.le_of_ble_eq_true rfl) (Nat.le_of_ble_eq_true rfl)) (ck' := 0) (sk' := 0) rfl rfl (fun _ => rfl) (fun _ _ => ?_) (fun _ hx => absurd rfl hx)
        obtain ⟨c6, hf⟩ := gg_of hf
        obtain ⟨f7, ef7, hf⟩ := opt_let hf
        refine g_iast C (ws' := (wV (x_y X) v (b 0) kp ak bf fa fl ln f7 ch gs op) ++ (wSt (x_y X) b v4.2 pr le ec wt sa ev)) 1 rfl (gi_in c6) (by rw [ef7]; rfl) dX10_drawCoefficients_26 ?_
        refine g_iinc C 3 (v := l3_9 + 1) (lv' := [(3, .int (l3_9 + 1)), (0, .ref (v 0)), (1, .int p0), (2, .int p1)]) dX10_drawCoefficients_27 rfl rfl (g_nlt hn rfl) rfl ?_
        refine g_goto C 9 dX10_drawCoefficients_30 (by decide) ?_
        refine gW.locals [1, 2, 3, 0] rfl ?_
        exact H9 f7 v4.2 (l3_9 + 1) hf
  show gW X Q 0 0 ((wV (x_y X) v (b 0) kp ak bf fa fl ln co ch gs op) ++ (wSt (x_y X) b z pr le ec wt sa ev)) [(0, .ref (v 0)), (1, .int p0), (2, .int p1)] [] 0
  refine g_aload_n C 0 dX10_drawCoefficients_0 rfl ?_
  refine g_get C 0 6 rfl rfl wiX10 (by decide) mw_1_177 rfl rfl dX10_drawCoefficients_1 ?_
  refine g_iconst C (v := 0) dX10_drawCoefficients_4 (by decide) ?_
  refine g_iload_n C 1 dX10_drawCoefficients_5 rfl ?_
  obtain ⟨c1, hf⟩ := gg_of hf
  obtain ⟨f2, ef2, hf⟩ := opt_let hf
  refine g_iast C (ws' := (wV (x_y X) v (b 0) kp ak bf fa fl ln f2 ch gs op) ++ (wSt (x_y X) b z pr le ec wt sa ev)) 1 rfl (gi_in c1) (by rw [ef2]; rfl) dX10_drawCoefficients_6 ?_
  refine g_iconst C (v := 1) dX10_drawCoefficients_7 (by decide) ?_
  refine g_istore_n C (lv' := [(3, .int 1), (0, .ref (v 0)), (1, .int p0), (2, .int p1)]) dX10_drawCoefficients_8 (g_nlt hn rfl) rfl ?_
  refine gW.locals [1, 2, 3, 0] rfl ?_
  exact H9 1000 f2 z 1 hf
/-! X10_checkPlacesSuffice -/
theorem hd_X10_checkPlacesSuffice : yX10_checkPlacesSuffice.cls ≠ "java/lang/invoke/MethodHandle" ∧ yX10_checkPlacesSuffice.cls ≠ "java/lang/invoke/VarHandle" ∧ (parseMethodDescriptor yX10_checkPlacesSuffice.desc).map (fun d => d.parameters.length) = some 1 := by decide +kernel
def F_X10_checkPlacesSuffice (pr : Int32) (wt : Nat → Int32) (p0 : Int32) : Option (Nat) := (F_X9_dealtPlaces pr wt).bind fun v1 => if p0 ≤ v1 then (some 0) else (some 5)
set_option maxRecDepth 100000 in
set_option maxHeartbeats 4000000 in
theorem c_X10_checkPlacesSuffice {l : Launch} {D : va_G} {cy : Nat → ClassId} {v : Nat → Nat} {b : Nat → Nat} {kp : Nat} {ak : Int32} {bf : Nat} {fa : Int32} {fl : Nat} {ln : Nat} {co : Nat → Int32} {ch : Nat → Int32} {gs : Nat → Int32} {op : Nat → Int32} {z : Int32} {pr : Int32} {le : Int32} {ec : Int32} {wt : Nat → Int32} {sa : Nat → Option Nat} {ev : Nat → Int32} {p0 : Int32}  {val : Nat} (hf : F_X10_checkPlacesSuffice pr wt p0 = some val) : gCt l D cy yX10_checkPlacesSuffice cX10_checkPlacesSuffice 2 none 6 82 1 6 [.ref (v 0), .int p0] [] ((wV cy v (b 0) kp ak bf fa fl ln co ch gs op) ++ (wSt cy b z pr le ec wt sa ev)) val (fun _ : Unit => none) (fun _ => (wV cy v (b 0) kp ak bf fa fl ln co ch gs op) ++ (wSt cy b z pr le ec wt sa ev)) := by
  refine g_begin (by decide +kernel) (Nat.le_of_ble_eq_true rfl) ?_
  intro X Q hl hR hD hy hro hn C hin E
  subst hl; subst hD; subst hy
  replace C : gC X "SecretVault" cX10_checkPlacesSuffice none := C
  unfold F_X10_checkPlacesSuffice at hf
  show gW X Q 0 0 ((wV (x_y X) v (b 0) kp ak bf fa fl ln co ch gs op) ++ (wSt (x_y X) b z pr le ec wt sa ev)) [(0, .ref (v 0)), (1, .int p0)] [] 0
  refine g_aload_n C 0 dX10_checkPlacesSuffice_0 rfl ?_
  refine g_get C 0 0 rfl rfl wiX10 (by decide) mw_1_171 rfl rfl dX10_checkPlacesSuffice_1 ?_
  obtain ⟨v1, h2, hf⟩ := opt_bind hf
  refine g_callV C (c_X9_dealtPlaces (l := x_l X) (D := x_D X) (cy := x_y X) (a := b) (z := z) (pr := pr) (le := le) (ec := ec) (wt := wt) (sa := sa) (ev := ev) h2) (As := []) (rest := []) (wr := (wV (x_y X) v (b 0) kp ak bf fa fl ln co ch gs op)) (ws' := fun _ => (wV (x_y X) v (b 0) kp ak bf fa fl ln co ch gs op) ++ (wSt (x_y X) b z pr le ec wt sa ev)) (st' := fun _ => [.int v1]) (ci := 10) 0 5 ⟨_, rfl⟩ rfl rfl mw_2_206 mw_1_2 mw_2_203 mw_2_204 mw_2_205 hd_X9_dealtPlaces rfl (g_rm hR rfl rfl) [5, 6, 7, 8] [0, 1, 2, 3, 4] [0, 1, 2, 3, 4, 5, 6, 7, 8] ⟨rfl, rfl, rfl, rfl, by decide, gRoIn_0, rfl, fun _ => rfl⟩ rfl (Nat.le_of_ble_eq_true rfl) dX10_checkPlacesSuffice_4 (g_rc hR (Nat.le_of_ble_eq_true rfl) (Nat.le_of_ble_eq_true rfl)) (ck' := 0) (sk' := 0) rfl rfl (fun _ => rfl) (fun _ _ => ?_) (fun _ hx => absurd rfl hx)
  refine g_iload_n C 1 dX10_checkPlacesSuffice_7 rfl ?_
  refine g_icmp_ge C 22 dX10_checkPlacesSuffice_8 (by decide) (fun c3 => ?_) (fun c3 => ?_)
  · have hf := opt_pos c3 hf
    obtain rfl := Option.some.inj hf
    exact g_vret C E () dX10_checkPlacesSuffice_22 rfl rfl rfl (Nat.le_of_ble_eq_true rfl) (Nat.le_of_ble_eq_true rfl)
  · have hf := opt_neg c3 hf
    obtain rfl := Option.some.inj hf
    exact g_throwSW C E () (text := "the present members have too few used places") gTh_5 ms_376 dX10_checkPlacesSuffice_11 dX10_checkPlacesSuffice_14 dX10_checkPlacesSuffice_15 dX10_checkPlacesSuffice_18 dX10_checkPlacesSuffice_21 (g_th hR rfl rfl) (g_rc hR (Nat.le_of_ble_eq_true rfl) (Nat.le_of_ble_eq_true rfl)) (Nat.succ_ne_zero 4) rfl rfl (Nat.le_of_ble_eq_true rfl) (Nat.le_of_ble_eq_true rfl)
/-! X10_errorPosition -/
theorem hd_X10_errorPosition : yX10_errorPosition.cls ≠ "java/lang/invoke/MethodHandle" ∧ yX10_errorPosition.cls ≠ "java/lang/invoke/VarHandle" ∧ (parseMethodDescriptor yX10_errorPosition.desc).map (fun d => d.parameters.length) = some 0 := by decide +kernel
def F_X10_errorPosition (fa : Int32) : Option (Int32) := some fa
set_option maxRecDepth 100000 in
set_option maxHeartbeats 4000000 in
theorem c_X10_errorPosition {l : Launch} {D : va_G} {cy : Nat → ClassId} {v : Nat → Nat} {nw : Nat} {kp : Nat} {ak : Int32} {bf : Nat} {fa : Int32} {fl : Nat} {ln : Nat} {co : Nat → Int32} {ch : Nat → Int32} {gs : Nat → Int32} {op : Nat → Int32}   {val : Int32} (hf : F_X10_errorPosition fa = some val) : gCt l D cy yX10_errorPosition cX10_errorPosition 1 (some .int) 0 0 0 0 [.ref (v 0)] [] ((wV cy v nw kp ak bf fa fl ln co ch gs op)) 0 (fun _ : Unit => some (.int val)) (fun _ => (wV cy v nw kp ak bf fa fl ln co ch gs op)) := by
  refine g_begin (by decide +kernel) (Nat.le_of_ble_eq_true rfl) ?_
  intro X Q hl hR hD hy hro hn C hin E
  subst hl; subst hD; subst hy
  replace C : gC X "SecretVault" cX10_errorPosition (some .int) := C
  unfold F_X10_errorPosition at hf
  show gW X Q 0 0 ((wV (x_y X) v nw kp ak bf fa fl ln co ch gs op)) [(0, .ref (v 0))] [] 0
  refine g_aload_n C 0 dX10_errorPosition_0 rfl ?_
  refine g_get C 0 4 rfl rfl wiX10 (by decide) mw_1_175 rfl rfl dX10_errorPosition_1 ?_
  obtain rfl := Option.some.inj hf
  exact g_iret C E () dX10_errorPosition_4 rfl rfl rfl (Nat.le_of_ble_eq_true rfl) (Nat.le_of_ble_eq_true rfl)
