/-! THE G LAYER: floats and doubles -/
def gn32 (r : UInt32) : Bool := decide (r &&& 0x7fffffff ≤ 0x7f800000)
def gn64 (r : UInt64) : Bool := decide (r &&& 0x7fffffffffffffff ≤ 0x7ff0000000000000)
theorem gn32_of {r : UInt32} (h : gn32 r = true) : vf_n32 r := by
  unfold gn32 at h
  unfold vf_n32
  exact decide_eq_true_iff.mp h
theorem gn64_of {r : UInt64} (h : gn64 r = true) : vf_n64 r := by
  unfold gn64 at h
  unfold vf_n64
  exact decide_eq_true_iff.mp h
section GFP
variable {X : gX} {own : String} {cc : ByteArray} {ret : Option FieldType} {Q : State → Prop} {ck sk pc : Nat} {ws : va_W} {lv : List (Nat × Value)} {st : List Value}
theorem g_fconst2 (C : gC X own cc ret) (d : decode cc pc = .ok (.fconst 2, 1)) (k : gW X Q ck sk ws lv (.float FP.fconst2 :: st) (pc + 1)) : gW X Q ck sk ws lv st pc := fun H locs ls a1 a2 a3 a4 => lv_fconst2 C.1 C.2.1 d (k H locs ls a1 a2 a3 a4)
theorem g_d2raw (C : gC X own cc ret) {index : Nat} {b : UInt64} (hl : Cond.methodLink own index ⟨"java/lang/Double", "doubleToRawLongBits", "(D)J"⟩ ∈ gBW) (hnat : Cond.native ⟨"java/lang/Double", "doubleToRawLongBits", "(D)J"⟩ ∈ gBW) (hst : Cond.static ⟨"java/lang/Double", "doubleToRawLongBits", "(D)J"⟩ ∈ gBW) (hini : Cond.initialized "java/lang/Double" ∈ gBW)
    (hR : 1 ≤ (x_R X).frames ∧ (st.map fun v => v.category).sum + 15 ≤ (x_R X).locals) (d : decode cc pc = .ok (.invokestatic index, 3)) (kk : gW X Q ck sk ws lv (.long b.toInt64 :: st) (pc + 3)) : gW X Q ck sk ws lv (.double b :: st) pc := fun H locs ls a1 a2 a3 a4 =>
  vn_d2l C.1 C.2.1 (C.2.2.1.trans a4.1.symm) C.2.2.2.1 (C.2.2.2.2.1 _ hl) (C.2.2.2.2.1 _ hnat) (C.2.2.2.2.1 _ hst) (C.2.2.2.2.1 _ hini) hR.1 hR.2 d (kk H locs ls a1 a2 a3 a4)
theorem g_f2raw (C : gC X own cc ret) {index : Nat} {b : UInt32} (hl : Cond.methodLink own index ⟨"java/lang/Float", "floatToRawIntBits", "(F)I"⟩ ∈ gBW) (hnat : Cond.native ⟨"java/lang/Float", "floatToRawIntBits", "(F)I"⟩ ∈ gBW) (hst : Cond.static ⟨"java/lang/Float", "floatToRawIntBits", "(F)I"⟩ ∈ gBW) (hini : Cond.initialized "java/lang/Float" ∈ gBW)
    (hR : 1 ≤ (x_R X).frames ∧ (st.map fun v => v.category).sum + 15 ≤ (x_R X).locals) (d : decode cc pc = .ok (.invokestatic index, 3)) (kk : gW X Q ck sk ws lv (.int b.toInt32 :: st) (pc + 3)) : gW X Q ck sk ws lv (.float b :: st) pc := fun H locs ls a1 a2 a3 a4 =>
  vn_f2i C.1 C.2.1 (C.2.2.1.trans a4.1.symm) C.2.2.2.1 (C.2.2.2.2.1 _ hl) (C.2.2.2.2.1 _ hnat) (C.2.2.2.2.1 _ hst) (C.2.2.2.2.1 _ hini) hR.1 hR.2 d (kk H locs ls a1 a2 a3 a4)
end GFP
