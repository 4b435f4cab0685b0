/-! the constructors with loops and with parts -/
def lz (i : Nat) : Nat → Int32 := fun j => if j < i then -1 else 0
theorem lz_0 : lz 0 = fun _ => 0 := by
  funext j
  unfold lz
  simp
theorem lz_s {i : Nat} : upd (lz i) i (-1) = lz (i + 1) := by
  funext j
  unfold lz upd
  by_cases h : j = i
  · simp [h]
  · by_cases z : j < i
    · simp [h, z, Nat.lt_succ_of_lt z]
    · simp [h, z, show ¬ j < i + 1 by omega]
def pa (B c p q i : Nat) : Nat → Option Nat := fun j => if j < i then some (B + (c + p + q * j)) else none
theorem pa_0 {B c p q : Nat} : pa B c p q 0 = fun _ => none := by
  funext j
  unfold pa
  simp
theorem pa_s {B c p q i c1 : Nat} (h : c1 = c + p + q * i) : va_up (pa B c p q i) i (some (B + c1)) = pa B c p q (i + 1) := by
  subst h
  funext j
  unfold pa va_up
  by_cases h : j = i
  · simp [h]
  · by_cases z : j < i
    · simp [h, z, Nat.lt_succ_of_lt z]
    · simp [h, z, show ¬ j < i + 1 by omega]
theorem up_in1 {E : Nat → va_E} {a o : Nat} {f g x : va_E} (h : a ≠ o) : va_up (va_up (va_up E a f) o x) a g = va_up (va_up E a g) o x := by
  funext j
  unfold va_up
  by_cases z : j = a
  · subst z
    simp [h]
  · simp [z]
theorem up_in2 {E : Nat → va_E} {a b o : Nat} {f g u x : va_E} (h1 : a ≠ b) (h2 : a ≠ o) : va_up (va_up (va_up (va_up E a f) b u) o x) a g = va_up (va_up (va_up E a g) b u) o x := by
  funext j
  unfold va_up
  by_cases z : j = a
  · subst z
    simp [h1, h2]
  · simp [z]
def w0M : Mem := fun c => if c = 26 then lz 4 else fun _ => 0
theorem entM_0 {G : GG} {B c n : Nat} (h : KDm c = (10, n)) (h9 : c ≠ 26) : entM G B w0M c = .inl (gI G, n, .inl (fun _ => 0)) := by
  rw [entM_I h]
  unfold w0M
  rw [if_neg h9]
theorem w0_117 : w0.1 117 = lz 4 := rfl
theorem bl_X0 : ∀ j, j < 13 → defaultValue (tyX0 j) = vp_V [.int 0, .int 0, .int 0, .int 0, .null, .null, .null, .null, .null, .null, .null, .null, .null] j := fun j hj => by
  rcases (show j = 0 ∨ j = 1 ∨ j = 2 ∨ j = 3 ∨ j = 4 ∨ j = 5 ∨ j = 6 ∨ j = 7 ∨ j = 8 ∨ j = 9 ∨ j = 10 ∨ j = 11 ∨ j = 12 by omega) with rfl | rfl | rfl | rfl | rfl | rfl | rfl | rfl | rfl | rfl | rfl | rfl | rfl <;> rfl
theorem cdI_X0 : yX0_init.cls ≠ "java/lang/invoke/MethodHandle" ∧ yX0_init.cls ≠ "java/lang/invoke/VarHandle" ∧ (parseMethodDescriptor yX0_init.desc).map (fun d => d.parameters.length) = some 0 := by decide +kernel
theorem bl_X1 : ∀ j, j < 2 → defaultValue (tyX1 j) = vp_V [.null, .null] j := fun j hj => by
  rcases (show j = 0 ∨ j = 1 by omega) with rfl | rfl <;> rfl
theorem cdI_X1 : yX1_init.cls ≠ "java/lang/invoke/MethodHandle" ∧ yX1_init.cls ≠ "java/lang/invoke/VarHandle" ∧ (parseMethodDescriptor yX1_init.desc).map (fun d => d.parameters.length) = some 0 := by decide +kernel
theorem bl_X2 : ∀ j, j < 8 → defaultValue (tyX2 j) = vp_V [.int 0, .int 0, .null, .null, .null, .null, .null, .null] j := fun j hj => by
  rcases (show j = 0 ∨ j = 1 ∨ j = 2 ∨ j = 3 ∨ j = 4 ∨ j = 5 ∨ j = 6 ∨ j = 7 by omega) with rfl | rfl | rfl | rfl | rfl | rfl | rfl | rfl <;> rfl
theorem cdI_X2 : yX2_init.cls ≠ "java/lang/invoke/MethodHandle" ∧ yX2_init.cls ≠ "java/lang/invoke/VarHandle" ∧ (parseMethodDescriptor yX2_init.desc).map (fun d => d.parameters.length) = some 0 := by decide +kernel
theorem bl_X3 : ∀ j, j < 3 → defaultValue (tyX3 j) = vp_V [.null, .null, .int 0] j := fun j hj => by
  rcases (show j = 0 ∨ j = 1 ∨ j = 2 by omega) with rfl | rfl | rfl <;> rfl
theorem cdI_X3 : yX3_init.cls ≠ "java/lang/invoke/MethodHandle" ∧ yX3_init.cls ≠ "java/lang/invoke/VarHandle" ∧ (parseMethodDescriptor yX3_init.desc).map (fun d => d.parameters.length) = some 0 := by decide +kernel
theorem bl_X4 : ∀ j, j < 4 → defaultValue (tyX4 j) = vp_V [.null, .int 0, .null, .null] j := fun j hj => by
  rcases (show j = 0 ∨ j = 1 ∨ j = 2 ∨ j = 3 by omega) with rfl | rfl | rfl | rfl <;> rfl
theorem cdI_X4 : yX4_init.cls ≠ "java/lang/invoke/MethodHandle" ∧ yX4_init.cls ≠ "java/lang/invoke/VarHandle" ∧ (parseMethodDescriptor yX4_init.desc).map (fun d => d.parameters.length) = some 0 := by decide +kernel
theorem bl_X5 : ∀ j, j < 5 → defaultValue (tyX5 j) = vp_V [.null, .null, .null, .int 0, .int 0] j := fun j hj => by
  rcases (show j = 0 ∨ j = 1 ∨ j = 2 ∨ j = 3 ∨ j = 4 by omega) with rfl | rfl | rfl | rfl | rfl <;> rfl
theorem cdI_X5 : yX5_init.cls ≠ "java/lang/invoke/MethodHandle" ∧ yX5_init.cls ≠ "java/lang/invoke/VarHandle" ∧ (parseMethodDescriptor yX5_init.desc).map (fun d => d.parameters.length) = some 0 := by decide +kernel
theorem bl_X6 : ∀ j, j < 3 → defaultValue (tyX6 j) = vp_V [.null, .int 0, .int 0] j := fun j hj => by
  rcases (show j = 0 ∨ j = 1 ∨ j = 2 by omega) with rfl | rfl | rfl <;> rfl
theorem cdI_X6 : yX6_init.cls ≠ "java/lang/invoke/MethodHandle" ∧ yX6_init.cls ≠ "java/lang/invoke/VarHandle" ∧ (parseMethodDescriptor yX6_init.desc).map (fun d => d.parameters.length) = some 0 := by decide +kernel
theorem bl_X7 : ∀ j, j < 2 → defaultValue (tyX7 j) = vp_V [.null, .int 0] j := fun j hj => by
  rcases (show j = 0 ∨ j = 1 by omega) with rfl | rfl <;> rfl
theorem cdI_X7 : yX7_init.cls ≠ "java/lang/invoke/MethodHandle" ∧ yX7_init.cls ≠ "java/lang/invoke/VarHandle" ∧ (parseMethodDescriptor yX7_init.desc).map (fun d => d.parameters.length) = some 0 := by decide +kernel
theorem bl_X8 : ∀ j, j < 13 → defaultValue (tyX8 j) = vp_V [.null, .null, .int 0, .null, .null, .null, .int 0, .null, .null, .null, .null, .null, .null] j := fun j hj => by
  rcases (show j = 0 ∨ j = 1 ∨ j = 2 ∨ j = 3 ∨ j = 4 ∨ j = 5 ∨ j = 6 ∨ j = 7 ∨ j = 8 ∨ j = 9 ∨ j = 10 ∨ j = 11 ∨ j = 12 by omega) with rfl | rfl | rfl | rfl | rfl | rfl | rfl | rfl | rfl | rfl | rfl | rfl | rfl <;> rfl
theorem cdI_X8 : yX8_init.cls ≠ "java/lang/invoke/MethodHandle" ∧ yX8_init.cls ≠ "java/lang/invoke/VarHandle" ∧ (parseMethodDescriptor yX8_init.desc).map (fun d => d.parameters.length) = some 0 := by decide +kernel
theorem bl_X9 : ∀ j, j < 35 → defaultValue (tyX9 j) = vp_V [.null, .null, .int 0, .int 0, .int 0, .null, .null, .null, .null, .null, .null, .null, .null, .null, .null, .int 0, .null, .int 0, .null, .null, .null, .null, .null, .int 0, .null, .null, .null, .null, .null, .int 0, .null, .null, .int 0, .null, .null] j := fun j hj => by
  rcases (show j = 0 ∨ j = 1 ∨ j = 2 ∨ j = 3 ∨ j = 4 ∨ j = 5 ∨ j = 6 ∨ j = 7 ∨ j = 8 ∨ j = 9 ∨ j = 10 ∨ j = 11 ∨ j = 12 ∨ j = 13 ∨ j = 14 ∨ j = 15 ∨ j = 16 ∨ j = 17 ∨ j = 18 ∨ j = 19 ∨ j = 20 ∨ j = 21 ∨ j = 22 ∨ j = 23 ∨ j = 24 ∨ j = 25 ∨ j = 26 ∨ j = 27 ∨ j = 28 ∨ j = 29 ∨ j = 30 ∨ j = 31 ∨ j = 32 ∨ j = 33 ∨ j = 34 by omega) with rfl | rfl | rfl | rfl | rfl | rfl | rfl | rfl | rfl | rfl | rfl | rfl | rfl | rfl | rfl | rfl | rfl | rfl | rfl | rfl | rfl | rfl | rfl | rfl | rfl | rfl | rfl | rfl | rfl | rfl | rfl | rfl | rfl | rfl | rfl <;> rfl
theorem cdI_X9 : yX9_init.cls ≠ "java/lang/invoke/MethodHandle" ∧ yX9_init.cls ≠ "java/lang/invoke/VarHandle" ∧ (parseMethodDescriptor yX9_init.desc).map (fun d => d.parameters.length) = some 0 := by decide +kernel
abbrev wcI_X9 : List Cond := Cond.code yX9_init cX9_init 2 none :: TG
abbrev rmI_X9 : Room := { frames := 1, cells := 27, slots := 1407, locals := 20 }
theorem dX9_init_0 : decode cX9_init 0 = .ok (.aload_n 0, 1) := by decide +kernel
theorem dX9_init_1 : decode cX9_init 1 = .ok (.invokespecial 5, 3) := by decide +kernel
theorem dX9_init_4 : decode cX9_init 4 = .ok (.aload_n 0, 1) := by decide +kernel
theorem dX9_init_5 : decode cX9_init 5 = .ok (.sipush 130, 3) := by decide +kernel
theorem dX9_init_8 : decode cX9_init 8 = .ok (.newarray .int, 2) := by decide +kernel
theorem dX9_init_10 : decode cX9_init 10 = .ok (.putfield 11, 3) := by decide +kernel
theorem dX9_init_13 : decode cX9_init 13 = .ok (.aload_n 0, 1) := by decide +kernel
theorem dX9_init_14 : decode cX9_init 14 = .ok (.sipush 130, 3) := by decide +kernel
theorem dX9_init_17 : decode cX9_init 17 = .ok (.newarray .int, 2) := by decide +kernel
theorem dX9_init_19 : decode cX9_init 19 = .ok (.putfield 15, 3) := by decide +kernel
theorem dX9_init_22 : decode cX9_init 22 = .ok (.aload_n 0, 1) := by decide +kernel
theorem dX9_init_23 : decode cX9_init 23 = .ok (.bipush 36, 2) := by decide +kernel
theorem dX9_init_25 : decode cX9_init 25 = .ok (.newarray .int, 2) := by decide +kernel
theorem dX9_init_27 : decode cX9_init 27 = .ok (.putfield 18, 3) := by decide +kernel
theorem dX9_init_30 : decode cX9_init 30 = .ok (.aload_n 0, 1) := by decide +kernel
theorem dX9_init_31 : decode cX9_init 31 = .ok (.bipush 36, 2) := by decide +kernel
theorem dX9_init_33 : decode cX9_init 33 = .ok (.newarray .int, 2) := by decide +kernel
theorem dX9_init_35 : decode cX9_init 35 = .ok (.putfield 21, 3) := by decide +kernel
theorem dX9_init_38 : decode cX9_init 38 = .ok (.aload_n 0, 1) := by decide +kernel
theorem dX9_init_39 : decode cX9_init 39 = .ok (.bipush 6, 2) := by decide +kernel
theorem dX9_init_41 : decode cX9_init 41 = .ok (.newarray .int, 2) := by decide +kernel
theorem dX9_init_43 : decode cX9_init 43 = .ok (.putfield 24, 3) := by decide +kernel
theorem dX9_init_46 : decode cX9_init 46 = .ok (.aload_n 0, 1) := by decide +kernel
theorem dX9_init_47 : decode cX9_init 47 = .ok (.bipush 6, 2) := by decide +kernel
theorem dX9_init_49 : decode cX9_init 49 = .ok (.newarray .int, 2) := by decide +kernel
theorem dX9_init_51 : decode cX9_init 51 = .ok (.putfield 27, 3) := by decide +kernel
theorem dX9_init_54 : decode cX9_init 54 = .ok (.aload_n 0, 1) := by decide +kernel
theorem dX9_init_55 : decode cX9_init 55 = .ok (.bipush 36, 2) := by decide +kernel
theorem dX9_init_57 : decode cX9_init 57 = .ok (.newarray .int, 2) := by decide +kernel
theorem dX9_init_59 : decode cX9_init 59 = .ok (.putfield 30, 3) := by decide +kernel
theorem dX9_init_62 : decode cX9_init 62 = .ok (.aload_n 0, 1) := by decide +kernel
theorem dX9_init_63 : decode cX9_init 63 = .ok (.bipush 6, 2) := by decide +kernel
theorem dX9_init_65 : decode cX9_init 65 = .ok (.newarray .int, 2) := by decide +kernel
theorem dX9_init_67 : decode cX9_init 67 = .ok (.putfield 33, 3) := by decide +kernel
theorem dX9_init_70 : decode cX9_init 70 = .ok (.aload_n 0, 1) := by decide +kernel
theorem dX9_init_71 : decode cX9_init 71 = .ok (.bipush 6, 2) := by decide +kernel
theorem dX9_init_73 : decode cX9_init 73 = .ok (.newarray .int, 2) := by decide +kernel
theorem dX9_init_75 : decode cX9_init 75 = .ok (.putfield 36, 3) := by decide +kernel
theorem dX9_init_78 : decode cX9_init 78 = .ok (.aload_n 0, 1) := by decide +kernel
theorem dX9_init_79 : decode cX9_init 79 = .ok (.bipush 6, 2) := by decide +kernel
theorem dX9_init_81 : decode cX9_init 81 = .ok (.newarray .int, 2) := by decide +kernel
theorem dX9_init_83 : decode cX9_init 83 = .ok (.putfield 39, 3) := by decide +kernel
theorem dX9_init_86 : decode cX9_init 86 = .ok (.aload_n 0, 1) := by decide +kernel
theorem dX9_init_87 : decode cX9_init 87 = .ok (.bipush 6, 2) := by decide +kernel
theorem dX9_init_89 : decode cX9_init 89 = .ok (.newarray .int, 2) := by decide +kernel
theorem dX9_init_91 : decode cX9_init 91 = .ok (.putfield 42, 3) := by decide +kernel
theorem dX9_init_94 : decode cX9_init 94 = .ok (.aload_n 0, 1) := by decide +kernel
theorem dX9_init_95 : decode cX9_init 95 = .ok (.bipush 48, 2) := by decide +kernel
theorem dX9_init_97 : decode cX9_init 97 = .ok (.newarray .int, 2) := by decide +kernel
theorem dX9_init_99 : decode cX9_init 99 = .ok (.putfield 45, 3) := by decide +kernel
theorem dX9_init_102 : decode cX9_init 102 = .ok (.aload_n 0, 1) := by decide +kernel
theorem dX9_init_103 : decode cX9_init 103 = .ok (.bipush 60, 2) := by decide +kernel
theorem dX9_init_105 : decode cX9_init 105 = .ok (.newarray .int, 2) := by decide +kernel
theorem dX9_init_107 : decode cX9_init 107 = .ok (.putfield 48, 3) := by decide +kernel
theorem dX9_init_110 : decode cX9_init 110 = .ok (.aload_n 0, 1) := by decide +kernel
theorem dX9_init_111 : decode cX9_init 111 = .ok (.iconst 3, 1) := by decide +kernel
theorem dX9_init_112 : decode cX9_init 112 = .ok (.newarray .int, 2) := by decide +kernel
theorem dX9_init_114 : decode cX9_init 114 = .ok (.putfield 51, 3) := by decide +kernel
theorem dX9_init_117 : decode cX9_init 117 = .ok (.aload_n 0, 1) := by decide +kernel
theorem dX9_init_118 : decode cX9_init 118 = .ok (.bipush 24, 2) := by decide +kernel
theorem dX9_init_120 : decode cX9_init 120 = .ok (.newarray .int, 2) := by decide +kernel
theorem dX9_init_122 : decode cX9_init 122 = .ok (.putfield 54, 3) := by decide +kernel
theorem dX9_init_125 : decode cX9_init 125 = .ok (.aload_n 0, 1) := by decide +kernel
theorem dX9_init_126 : decode cX9_init 126 = .ok (.bipush 24, 2) := by decide +kernel
theorem dX9_init_128 : decode cX9_init 128 = .ok (.newarray .int, 2) := by decide +kernel
theorem dX9_init_130 : decode cX9_init 130 = .ok (.putfield 57, 3) := by decide +kernel
theorem dX9_init_133 : decode cX9_init 133 = .ok (.aload_n 0, 1) := by decide +kernel
theorem dX9_init_134 : decode cX9_init 134 = .ok (.bipush 24, 2) := by decide +kernel
theorem dX9_init_136 : decode cX9_init 136 = .ok (.newarray .int, 2) := by decide +kernel
theorem dX9_init_138 : decode cX9_init 138 = .ok (.putfield 60, 3) := by decide +kernel
theorem dX9_init_141 : decode cX9_init 141 = .ok (.aload_n 0, 1) := by decide +kernel
theorem dX9_init_142 : decode cX9_init 142 = .ok (.bipush 24, 2) := by decide +kernel
theorem dX9_init_144 : decode cX9_init 144 = .ok (.newarray .int, 2) := by decide +kernel
theorem dX9_init_146 : decode cX9_init 146 = .ok (.putfield 63, 3) := by decide +kernel
theorem dX9_init_149 : decode cX9_init 149 = .ok (.aload_n 0, 1) := by decide +kernel
theorem dX9_init_150 : decode cX9_init 150 = .ok (.bipush 24, 2) := by decide +kernel
theorem dX9_init_152 : decode cX9_init 152 = .ok (.newarray .int, 2) := by decide +kernel
theorem dX9_init_154 : decode cX9_init 154 = .ok (.putfield 66, 3) := by decide +kernel
theorem dX9_init_157 : decode cX9_init 157 = .ok (.aload_n 0, 1) := by decide +kernel
theorem dX9_init_158 : decode cX9_init 158 = .ok (.bipush 24, 2) := by decide +kernel
theorem dX9_init_160 : decode cX9_init 160 = .ok (.newarray .int, 2) := by decide +kernel
theorem dX9_init_162 : decode cX9_init 162 = .ok (.putfield 69, 3) := by decide +kernel
theorem dX9_init_165 : decode cX9_init 165 = .ok (.aload_n 0, 1) := by decide +kernel
theorem dX9_init_166 : decode cX9_init 166 = .ok (.bipush 24, 2) := by decide +kernel
theorem dX9_init_168 : decode cX9_init 168 = .ok (.newarray .int, 2) := by decide +kernel
theorem dX9_init_170 : decode cX9_init 170 = .ok (.putfield 72, 3) := by decide +kernel
theorem dX9_init_173 : decode cX9_init 173 = .ok (.aload_n 0, 1) := by decide +kernel
theorem dX9_init_174 : decode cX9_init 174 = .ok (.sipush 216, 3) := by decide +kernel
theorem dX9_init_177 : decode cX9_init 177 = .ok (.newarray .int, 2) := by decide +kernel
theorem dX9_init_179 : decode cX9_init 179 = .ok (.putfield 75, 3) := by decide +kernel
theorem dX9_init_182 : decode cX9_init 182 = .ok (.aload_n 0, 1) := by decide +kernel
theorem dX9_init_183 : decode cX9_init 183 = .ok (.sipush 216, 3) := by decide +kernel
theorem dX9_init_186 : decode cX9_init 186 = .ok (.newarray .int, 2) := by decide +kernel
theorem dX9_init_188 : decode cX9_init 188 = .ok (.putfield 78, 3) := by decide +kernel
theorem dX9_init_191 : decode cX9_init 191 = .ok (.aload_n 0, 1) := by decide +kernel
theorem dX9_init_192 : decode cX9_init 192 = .ok (.sipush 216, 3) := by decide +kernel
theorem dX9_init_195 : decode cX9_init 195 = .ok (.newarray .int, 2) := by decide +kernel
theorem dX9_init_197 : decode cX9_init 197 = .ok (.putfield 81, 3) := by decide +kernel
theorem dX9_init_200 : decode cX9_init 200 = .ok (.aload_n 0, 1) := by decide +kernel
theorem dX9_init_201 : decode cX9_init 201 = .ok (.bipush 24, 2) := by decide +kernel
theorem dX9_init_203 : decode cX9_init 203 = .ok (.newarray .int, 2) := by decide +kernel
theorem dX9_init_205 : decode cX9_init 205 = .ok (.putfield 84, 3) := by decide +kernel
theorem dX9_init_208 : decode cX9_init 208 = .ok (.aload_n 0, 1) := by decide +kernel
theorem dX9_init_209 : decode cX9_init 209 = .ok (.iconst 4, 1) := by decide +kernel
theorem dX9_init_210 : decode cX9_init 210 = .ok (.newarray .int, 2) := by decide +kernel
theorem dX9_init_212 : decode cX9_init 212 = .ok (.putfield 87, 3) := by decide +kernel
theorem dX9_init_215 : decode cX9_init 215 = .ok (.aload_n 0, 1) := by decide +kernel
theorem dX9_init_216 : decode cX9_init 216 = .ok (.bipush 48, 2) := by decide +kernel
theorem dX9_init_218 : decode cX9_init 218 = .ok (.newarray .int, 2) := by decide +kernel
theorem dX9_init_220 : decode cX9_init 220 = .ok (.putfield 90, 3) := by decide +kernel
theorem dX9_init_223 : decode cX9_init 223 = .ok (.iconst 0, 1) := by decide +kernel
theorem dX9_init_224 : decode cX9_init 224 = .ok (.istore_n 1, 1) := by decide +kernel
theorem dX9_init_225 : decode cX9_init 225 = .ok (.iload_n 1, 1) := by decide +kernel
theorem dX9_init_226 : decode cX9_init 226 = .ok (.iconst 4, 1) := by decide +kernel
theorem dX9_init_227 : decode cX9_init 227 = .ok (.if_icmp .ge 16, 3) := by decide +kernel
theorem dX9_init_230 : decode cX9_init 230 = .ok (.aload_n 0, 1) := by decide +kernel
theorem dX9_init_231 : decode cX9_init 231 = .ok (.getfield 87, 3) := by decide +kernel
theorem dX9_init_234 : decode cX9_init 234 = .ok (.iload_n 1, 1) := by decide +kernel
theorem dX9_init_235 : decode cX9_init 235 = .ok (.iconst (-1), 1) := by decide +kernel
theorem dX9_init_236 : decode cX9_init 236 = .ok (.iastore, 1) := by decide +kernel
theorem dX9_init_237 : decode cX9_init 237 = .ok (.iinc 1 1, 3) := by decide +kernel
theorem dX9_init_240 : decode cX9_init 240 = .ok (.goto (-15), 3) := by decide +kernel
theorem dX9_init_243 : decode cX9_init 243 = .ok (.return_, 1) := by decide +kernel
theorem fs0_X9 {B : Nat} : fsM B w0M 0 = [.ref (B + 1), .ref (B + 2), .int 0, .int 0, .int 0, .ref (B + 3), .ref (B + 4), .ref (B + 5), .ref (B + 6), .ref (B + 7), .ref (B + 8), .ref (B + 9), .ref (B + 10), .ref (B + 11), .ref (B + 12), .int 0, .ref (B + 13), .int 0, .ref (B + 14), .ref (B + 15), .ref (B + 16), .ref (B + 17), .ref (B + 18), .int 0, .ref (B + 19), .ref (B + 20), .ref (B + 21), .ref (B + 22), .ref (B + 23), .int 0, .ref (B + 24), .ref (B + 25), .int 0, .ref (B + 26), .ref (B + 27)] := rfl
set_option maxRecDepth 100000 in
set_option maxHeartbeats 4000000 in
theorem ci_X9 (l : Launch) {G : GG} {A : Nat → Prop} {B : Nat} {E : Nat → va_E} {X : va_W} (hE : E 0 = .inr (9, [.null, .null, .int 0, .int 0, .int 0, .null, .null, .null, .null, .null, .null, .null, .null, .null, .null, .int 0, .null, .int 0, .null, .null, .null, .null, .null, .int 0, .null, .null, .null, .null, .null, .int 0, .null, .null, .int 0, .null, .null])) : MetI l yX9_init wcI_X9 rmI_X9 G A B X [.ref (B + 0)] (0 + 1) E 28 (entM G B w0M) 27 1407 := by
  refine Met.ofW (cc := cX9_init) (maxL := 2) (ret := none) (by decide) rfl ?_
  intro p e s m args below meth c s₁ B0 hml hv
  obtain ⟨rfl, ⟨hEv, hWd⟩, hO, hN, hA⟩ := hv
  have C : CX p s m _ meth c cX9_init 2 RX9 wcI_X9 none := ⟨B0.exec, B0.bytes, hml, findClass_of_methodNamed B0.named, atoms_spec (ws := wcI_X9) B0.pre, B0.returns, B0.notSynchronized⟩
  have hin2 : meth.name = "<init>" := (name_of_methodNamed B0.named B0.method).1
  have hl := lv_entry [.ref (B + 0)] (n := 2) (Nat.le_of_ble_eq_true rfl)
  rw [lg_entry_eq]
  generalize (lg_sl [.ref (B + 0)] ++ List.replicate (2 - (lg_sl [.ref (B + 0)]).length) Slot.unset).toArray = ls at hl ⊢
  have hl : lv_has ls 2 [(0, .ref (B + 0))] := hl
  have hG : Gc s G A (0 + 1) B (va_up (va_up (entM G B w0M) 26 (.inl (gI G, 4, .inl (lz 0)))) 0 (.inr (9, [.null, .null, .int 0, .int 0, .int 0, .null, .null, .null, .null, .null, .null, .null, .null, .null, .null, .int 0, .null, .int 0, .null, .null, .null, .null, .null, .int 0, .null, .null, .null, .null, .null, .int 0, .null, .null, .int 0, .null, .null]))) X s.heap [] := Gc.congr ⟨⟨⟨hEv, hWd, va_S.rf⟩, hO⟩, hN, hA⟩ (fun c hc => by
    by_cases z : c = 0
    · rw [z, va_up_self, hE]
    · omega)
  refine lv_aload_n C.1 C.2.1 dX9_init_0 rfl (lv_at hl 0 rfl) ?_
  refine rc_obj C hl.1 (List.mem_cons_of_mem _ tg_4_83) (List.mem_cons_of_mem _ tg_1_20) (List.mem_cons_of_mem _ tg_1_21) (Nat.le_of_ble_eq_true rfl) (Nat.le_of_ble_eq_true rfl) dX9_init_1 ?_
  refine lv_aload_n C.1 C.2.1 dX9_init_4 rfl (lv_at hl 0 rfl) ?_
  refine lv_sipush (v := nI 130) C.1 C.2.1 dX9_init_5 (by decide) ?_
  refine rc_newI C hG (n := 130) rfl (by omega) ((va_up_ne _ _ (by omega)).trans ((va_up_ne _ _ (by omega)).trans (entM_0 rfl (by omega)))) (k' := 1) (n' := 130) rfl rfl (Nat.le_of_ble_eq_true rfl) (Nat.le_of_ble_eq_true rfl) dX9_init_8 (fun H hG => ?_)
  have hG : Gc s G A 2 B (va_up (va_up (entM G B w0M) 26 (.inl (gI G, 4, .inl (lz 0)))) 0 (.inr (9, [.null, .null, .int 0, .int 0, .int 0, .null, .null, .null, .null, .null, .null, .null, .null, .null, .null, .int 0, .null, .int 0, .null, .null, .null, .null, .null, .int 0, .null, .null, .null, .null, .null, .int 0, .null, .null, .int 0, .null, .null]))) X H _ := hG
  refine rc_putF C hin2 hG (c0 := 0) (by omega) (va_up_self _ _ _) (Cn := RX9) (T := TX9) (Nk := 35) rfl (fun x hx => List.mem_cons_of_mem _ (uw_X9 x hx)) (ty0 := tyX9) tyX9_ok nmX9 (i := 0) (Nat.le_of_ble_eq_true rfl) (List.mem_cons_of_mem _ tg_4_84) rfl rfl (v := .ref (B + 1)) rfl rfl (Nat.le_of_ble_eq_true rfl) (E' := (va_up (va_up (entM G B w0M) 26 (.inl (gI G, 4, .inl (lz 0)))) 0 (.inr (9, [.ref (B + 1), .null, .int 0, .int 0, .int 0, .null, .null, .null, .null, .null, .null, .null, .null, .null, .null, .int 0, .null, .int 0, .null, .null, .null, .null, .null, .int 0, .null, .null, .null, .null, .null, .int 0, .null, .null, .int 0, .null, .null])))) (up_up) dX9_init_10 (fun H locs hG => ?_)
  refine lv_aload_n C.1 C.2.1 dX9_init_13 rfl (lv_at hl 0 rfl) ?_
  refine lv_sipush (v := nI 130) C.1 C.2.1 dX9_init_14 (by decide) ?_
  refine rc_newI C hG (n := 130) rfl (by omega) ((va_up_ne _ _ (by omega)).trans ((va_up_ne _ _ (by omega)).trans (entM_0 rfl (by omega)))) (k' := 2) (n' := 260) rfl rfl (Nat.le_of_ble_eq_true rfl) (Nat.le_of_ble_eq_true rfl) dX9_init_17 (fun H hG => ?_)
  have hG : Gc s G A 3 B (va_up (va_up (entM G B w0M) 26 (.inl (gI G, 4, .inl (lz 0)))) 0 (.inr (9, [.ref (B + 1), .null, .int 0, .int 0, .int 0, .null, .null, .null, .null, .null, .null, .null, .null, .null, .null, .int 0, .null, .int 0, .null, .null, .null, .null, .null, .int 0, .null, .null, .null, .null, .null, .int 0, .null, .null, .int 0, .null, .null]))) X H _ := hG
  refine rc_putF C hin2 hG (c0 := 0) (by omega) (va_up_self _ _ _) (Cn := RX9) (T := TX9) (Nk := 35) rfl (fun x hx => List.mem_cons_of_mem _ (uw_X9 x hx)) (ty0 := tyX9) tyX9_ok nmX9 (i := 1) (Nat.le_of_ble_eq_true rfl) (List.mem_cons_of_mem _ tg_4_85) rfl rfl (v := .ref (B + 2)) rfl rfl (Nat.le_of_ble_eq_true rfl) (E' := (va_up (va_up (entM G B w0M) 26 (.inl (gI G, 4, .inl (lz 0)))) 0 (.inr (9, [.ref (B + 1), .ref (B + 2), .int 0, .int 0, .int 0, .null, .null, .null, .null, .null, .null, .null, .null, .null, .null, .int 0, .null, .int 0, .null, .null, .null, .null, .null, .int 0, .null, .null, .null, .null, .null, .int 0, .null, .null, .int 0, .null, .null])))) (up_up) dX9_init_19 (fun H locs hG => ?_)
  refine lv_aload_n C.1 C.2.1 dX9_init_22 rfl (lv_at hl 0 rfl) ?_
  refine lv_bipush (v := nI 36) C.1 C.2.1 dX9_init_23 (by decide) ?_
  refine rc_newI C hG (n := 36) rfl (by omega) ((va_up_ne _ _ (by omega)).trans ((va_up_ne _ _ (by omega)).trans (entM_0 rfl (by omega)))) (k' := 3) (n' := 296) rfl rfl (Nat.le_of_ble_eq_true rfl) (Nat.le_of_ble_eq_true rfl) dX9_init_25 (fun H hG => ?_)
  have hG : Gc s G A 4 B (va_up (va_up (entM G B w0M) 26 (.inl (gI G, 4, .inl (lz 0)))) 0 (.inr (9, [.ref (B + 1), .ref (B + 2), .int 0, .int 0, .int 0, .null, .null, .null, .null, .null, .null, .null, .null, .null, .null, .int 0, .null, .int 0, .null, .null, .null, .null, .null, .int 0, .null, .null, .null, .null, .null, .int 0, .null, .null, .int 0, .null, .null]))) X H _ := hG
  refine rc_putF C hin2 hG (c0 := 0) (by omega) (va_up_self _ _ _) (Cn := RX9) (T := TX9) (Nk := 35) rfl (fun x hx => List.mem_cons_of_mem _ (uw_X9 x hx)) (ty0 := tyX9) tyX9_ok nmX9 (i := 5) (Nat.le_of_ble_eq_true rfl) (List.mem_cons_of_mem _ tg_4_89) rfl rfl (v := .ref (B + 3)) rfl rfl (Nat.le_of_ble_eq_true rfl) (E' := (va_up (va_up (entM G B w0M) 26 (.inl (gI G, 4, .inl (lz 0)))) 0 (.inr (9, [.ref (B + 1), .ref (B + 2), .int 0, .int 0, .int 0, .ref (B + 3), .null, .null, .null, .null, .null, .null, .null, .null, .null, .int 0, .null, .int 0, .null, .null, .null, .null, .null, .int 0, .null, .null, .null, .null, .null, .int 0, .null, .null, .int 0, .null, .null])))) (up_up) dX9_init_27 (fun H locs hG => ?_)
  refine lv_aload_n C.1 C.2.1 dX9_init_30 rfl (lv_at hl 0 rfl) ?_
  refine lv_bipush (v := nI 36) C.1 C.2.1 dX9_init_31 (by decide) ?_
  refine rc_newI C hG (n := 36) rfl (by omega) ((va_up_ne _ _ (by omega)).trans ((va_up_ne _ _ (by omega)).trans (entM_0 rfl (by omega)))) (k' := 4) (n' := 332) rfl rfl (Nat.le_of_ble_eq_true rfl) (Nat.le_of_ble_eq_true rfl) dX9_init_33 (fun H hG => ?_)
  have hG : Gc s G A 5 B (va_up (va_up (entM G B w0M) 26 (.inl (gI G, 4, .inl (lz 0)))) 0 (.inr (9, [.ref (B + 1), .ref (B + 2), .int 0, .int 0, .int 0, .ref (B + 3), .null, .null, .null, .null, .null, .null, .null, .null, .null, .int 0, .null, .int 0, .null, .null, .null, .null, .null, .int 0, .null, .null, .null, .null, .null, .int 0, .null, .null, .int 0, .null, .null]))) X H _ := hG
  refine rc_putF C hin2 hG (c0 := 0) (by omega) (va_up_self _ _ _) (Cn := RX9) (T := TX9) (Nk := 35) rfl (fun x hx => List.mem_cons_of_mem _ (uw_X9 x hx)) (ty0 := tyX9) tyX9_ok nmX9 (i := 6) (Nat.le_of_ble_eq_true rfl) (List.mem_cons_of_mem _ tg_4_90) rfl rfl (v := .ref (B + 4)) rfl rfl (Nat.le_of_ble_eq_true rfl) (E' := (va_up (va_up (entM G B w0M) 26 (.inl (gI G, 4, .inl (lz 0)))) 0 (.inr (9, [.ref (B + 1), .ref (B + 2), .int 0, .int 0, .int 0, .ref (B + 3), .ref (B + 4), .null, .null, .null, .null, .null, .null, .null, .null, .int 0, .null, .int 0, .null, .null, .null, .null, .null, .int 0, .null, .null, .null, .null, .null, .int 0, .null, .null, .int 0, .null, .null])))) (up_up) dX9_init_35 (fun H locs hG => ?_)
  refine lv_aload_n C.1 C.2.1 dX9_init_38 rfl (lv_at hl 0 rfl) ?_
  refine lv_bipush (v := nI 6) C.1 C.2.1 dX9_init_39 (by decide) ?_
  refine rc_newI C hG (n := 6) rfl (by omega) ((va_up_ne _ _ (by omega)).trans ((va_up_ne _ _ (by omega)).trans (entM_0 rfl (by omega)))) (k' := 5) (n' := 338) rfl rfl (Nat.le_of_ble_eq_true rfl) (Nat.le_of_ble_eq_true rfl) dX9_init_41 (fun H hG => ?_)
  have hG : Gc s G A 6 B (va_up (va_up (entM G B w0M) 26 (.inl (gI G, 4, .inl (lz 0)))) 0 (.inr (9, [.ref (B + 1), .ref (B + 2), .int 0, .int 0, .int 0, .ref (B + 3), .ref (B + 4), .null, .null, .null, .null, .null, .null, .null, .null, .int 0, .null, .int 0, .null, .null, .null, .null, .null, .int 0, .null, .null, .null, .null, .null, .int 0, .null, .null, .int 0, .null, .null]))) X H _ := hG
  refine rc_putF C hin2 hG (c0 := 0) (by omega) (va_up_self _ _ _) (Cn := RX9) (T := TX9) (Nk := 35) rfl (fun x hx => List.mem_cons_of_mem _ (uw_X9 x hx)) (ty0 := tyX9) tyX9_ok nmX9 (i := 7) (Nat.le_of_ble_eq_true rfl) (List.mem_cons_of_mem _ tg_4_91) rfl rfl (v := .ref (B + 5)) rfl rfl (Nat.le_of_ble_eq_true rfl) (E' := (va_up (va_up (entM G B w0M) 26 (.inl (gI G, 4, .inl (lz 0)))) 0 (.inr (9, [.ref (B + 1), .ref (B + 2), .int 0, .int 0, .int 0, .ref (B + 3), .ref (B + 4), .ref (B + 5), .null, .null, .null, .null, .null, .null, .null, .int 0, .null, .int 0, .null, .null, .null, .null, .null, .int 0, .null, .null, .null, .null, .null, .int 0, .null, .null, .int 0, .null, .null])))) (up_up) dX9_init_43 (fun H locs hG => ?_)
  refine lv_aload_n C.1 C.2.1 dX9_init_46 rfl (lv_at hl 0 rfl) ?_
  refine lv_bipush (v := nI 6) C.1 C.2.1 dX9_init_47 (by decide) ?_
  refine rc_newI C hG (n := 6) rfl (by omega) ((va_up_ne _ _ (by omega)).trans ((va_up_ne _ _ (by omega)).trans (entM_0 rfl (by omega)))) (k' := 6) (n' := 344) rfl rfl (Nat.le_of_ble_eq_true rfl) (Nat.le_of_ble_eq_true rfl) dX9_init_49 (fun H hG => ?_)
  have hG : Gc s G A 7 B (va_up (va_up (entM G B w0M) 26 (.inl (gI G, 4, .inl (lz 0)))) 0 (.inr (9, [.ref (B + 1), .ref (B + 2), .int 0, .int 0, .int 0, .ref (B + 3), .ref (B + 4), .ref (B + 5), .null, .null, .null, .null, .null, .null, .null, .int 0, .null, .int 0, .null, .null, .null, .null, .null, .int 0, .null, .null, .null, .null, .null, .int 0, .null, .null, .int 0, .null, .null]))) X H _ := hG
  refine rc_putF C hin2 hG (c0 := 0) (by omega) (va_up_self _ _ _) (Cn := RX9) (T := TX9) (Nk := 35) rfl (fun x hx => List.mem_cons_of_mem _ (uw_X9 x hx)) (ty0 := tyX9) tyX9_ok nmX9 (i := 8) (Nat.le_of_ble_eq_true rfl) (List.mem_cons_of_mem _ tg_4_92) rfl rfl (v := .ref (B + 6)) rfl rfl (Nat.le_of_ble_eq_true rfl) (E' := (va_up (va_up (entM G B w0M) 26 (.inl (gI G, 4, .inl (lz 0)))) 0 (.inr (9, [.ref (B + 1), .ref (B + 2), .int 0, .int 0, .int 0, .ref (B + 3), .ref (B + 4), .ref (B + 5), .ref (B + 6), .null, .null, .null, .null, .null, .null, .int 0, .null, .int 0, .null, .null, .null, .null, .null, .int 0, .null, .null, .null, .null, .null, .int 0, .null, .null, .int 0, .null, .null])))) (up_up) dX9_init_51 (fun H locs hG => ?_)
  refine lv_aload_n C.1 C.2.1 dX9_init_54 rfl (lv_at hl 0 rfl) ?_
  refine lv_bipush (v := nI 36) C.1 C.2.1 dX9_init_55 (by decide) ?_
  refine rc_newI C hG (n := 36) rfl (by omega) ((va_up_ne _ _ (by omega)).trans ((va_up_ne _ _ (by omega)).trans (entM_0 rfl (by omega)))) (k' := 7) (n' := 380) rfl rfl (Nat.le_of_ble_eq_true rfl) (Nat.le_of_ble_eq_true rfl) dX9_init_57 (fun H hG => ?_)
  have hG : Gc s G A 8 B (va_up (va_up (entM G B w0M) 26 (.inl (gI G, 4, .inl (lz 0)))) 0 (.inr (9, [.ref (B + 1), .ref (B + 2), .int 0, .int 0, .int 0, .ref (B + 3), .ref (B + 4), .ref (B + 5), .ref (B + 6), .null, .null, .null, .null, .null, .null, .int 0, .null, .int 0, .null, .null, .null, .null, .null, .int 0, .null, .null, .null, .null, .null, .int 0, .null, .null, .int 0, .null, .null]))) X H _ := hG
  refine rc_putF C hin2 hG (c0 := 0) (by omega) (va_up_self _ _ _) (Cn := RX9) (T := TX9) (Nk := 35) rfl (fun x hx => List.mem_cons_of_mem _ (uw_X9 x hx)) (ty0 := tyX9) tyX9_ok nmX9 (i := 9) (Nat.le_of_ble_eq_true rfl) (List.mem_cons_of_mem _ tg_4_93) rfl rfl (v := .ref (B + 7)) rfl rfl (Nat.le_of_ble_eq_true rfl) (E' := (va_up (va_up (entM G B w0M) 26 (.inl (gI G, 4, .inl (lz 0)))) 0 (.inr (9, [.ref (B + 1), .ref (B + 2), .int 0, .int 0, .int 0, .ref (B + 3), .ref (B + 4), .ref (B + 5), .ref (B + 6), .ref (B + 7), .null, .null, .null, .null, .null, .int 0, .null, .int 0, .null, .null, .null, .null, .null, .int 0, .null, .null, .null, .null, .null, .int 0, .null, .null, .int 0, .null, .null])))) (up_up) dX9_init_59 (fun H locs hG => ?_)
  refine lv_aload_n C.1 C.2.1 dX9_init_62 rfl (lv_at hl 0 rfl) ?_
  refine lv_bipush (v := nI 6) C.1 C.2.1 dX9_init_63 (by decide) ?_
  refine rc_newI C hG (n := 6) rfl (by omega) ((va_up_ne _ _ (by omega)).trans ((va_up_ne _ _ (by omega)).trans (entM_0 rfl (by omega)))) (k' := 8) (n' := 386) rfl rfl (Nat.le_of_ble_eq_true rfl) (Nat.le_of_ble_eq_true rfl) dX9_init_65 (fun H hG => ?_)
  have hG : Gc s G A 9 B (va_up (va_up (entM G B w0M) 26 (.inl (gI G, 4, .inl (lz 0)))) 0 (.inr (9, [.ref (B + 1), .ref (B + 2), .int 0, .int 0, .int 0, .ref (B + 3), .ref (B + 4), .ref (B + 5), .ref (B + 6), .ref (B + 7), .null, .null, .null, .null, .null, .int 0, .null, .int 0, .null, .null, .null, .null, .null, .int 0, .null, .null, .null, .null, .null, .int 0, .null, .null, .int 0, .null, .null]))) X H _ := hG
  refine rc_putF C hin2 hG (c0 := 0) (by omega) (va_up_self _ _ _) (Cn := RX9) (T := TX9) (Nk := 35) rfl (fun x hx => List.mem_cons_of_mem _ (uw_X9 x hx)) (ty0 := tyX9) tyX9_ok nmX9 (i := 10) (Nat.le_of_ble_eq_true rfl) (List.mem_cons_of_mem _ tg_4_94) rfl rfl (v := .ref (B + 8)) rfl rfl (Nat.le_of_ble_eq_true rfl) (E' := (va_up (va_up (entM G B w0M) 26 (.inl (gI G, 4, .inl (lz 0)))) 0 (.inr (9, [.ref (B + 1), .ref (B + 2), .int 0, .int 0, .int 0, .ref (B + 3), .ref (B + 4), .ref (B + 5), .ref (B + 6), .ref (B + 7), .ref (B + 8), .null, .null, .null, .null, .int 0, .null, .int 0, .null, .null, .null, .null, .null, .int 0, .null, .null, .null, .null, .null, .int 0, .null, .null, .int 0, .null, .null])))) (up_up) dX9_init_67 (fun H locs hG => ?_)
  refine lv_aload_n C.1 C.2.1 dX9_init_70 rfl (lv_at hl 0 rfl) ?_
  refine lv_bipush (v := nI 6) C.1 C.2.1 dX9_init_71 (by decide) ?_
  refine rc_newI C hG (n := 6) rfl (by omega) ((va_up_ne _ _ (by omega)).trans ((va_up_ne _ _ (by omega)).trans (entM_0 rfl (by omega)))) (k' := 9) (n' := 392) rfl rfl (Nat.le_of_ble_eq_true rfl) (Nat.le_of_ble_eq_true rfl) dX9_init_73 (fun H hG => ?_)
  have hG : Gc s G A 10 B (va_up (va_up (entM G B w0M) 26 (.inl (gI G, 4, .inl (lz 0)))) 0 (.inr (9, [.ref (B + 1), .ref (B + 2), .int 0, .int 0, .int 0, .ref (B + 3), .ref (B + 4), .ref (B + 5), .ref (B + 6), .ref (B + 7), .ref (B + 8), .null, .null, .null, .null, .int 0, .null, .int 0, .null, .null, .null, .null, .null, .int 0, .null, .null, .null, .null, .null, .int 0, .null, .null, .int 0, .null, .null]))) X H _ := hG
  refine rc_putF C hin2 hG (c0 := 0) (by omega) (va_up_self _ _ _) (Cn := RX9) (T := TX9) (Nk := 35) rfl (fun x hx => List.mem_cons_of_mem _ (uw_X9 x hx)) (ty0 := tyX9) tyX9_ok nmX9 (i := 11) (Nat.le_of_ble_eq_true rfl) (List.mem_cons_of_mem _ tg_4_95) rfl rfl (v := .ref (B + 9)) rfl rfl (Nat.le_of_ble_eq_true rfl) (E' := (va_up (va_up (entM G B w0M) 26 (.inl (gI G, 4, .inl (lz 0)))) 0 (.inr (9, [.ref (B + 1), .ref (B + 2), .int 0, .int 0, .int 0, .ref (B + 3), .ref (B + 4), .ref (B + 5), .ref (B + 6), .ref (B + 7), .ref (B + 8), .ref (B + 9), .null, .null, .null, .int 0, .null, .int 0, .null, .null, .null, .null, .null, .int 0, .null, .null, .null, .null, .null, .int 0, .null, .null, .int 0, .null, .null])))) (up_up) dX9_init_75 (fun H locs hG => ?_)
  refine lv_aload_n C.1 C.2.1 dX9_init_78 rfl (lv_at hl 0 rfl) ?_
  refine lv_bipush (v := nI 6) C.1 C.2.1 dX9_init_79 (by decide) ?_
  refine rc_newI C hG (n := 6) rfl (by omega) ((va_up_ne _ _ (by omega)).trans ((va_up_ne _ _ (by omega)).trans (entM_0 rfl (by omega)))) (k' := 10) (n' := 398) rfl rfl (Nat.le_of_ble_eq_true rfl) (Nat.le_of_ble_eq_true rfl) dX9_init_81 (fun H hG => ?_)
  have hG : Gc s G A 11 B (va_up (va_up (entM G B w0M) 26 (.inl (gI G, 4, .inl (lz 0)))) 0 (.inr (9, [.ref (B + 1), .ref (B + 2), .int 0, .int 0, .int 0, .ref (B + 3), .ref (B + 4), .ref (B + 5), .ref (B + 6), .ref (B + 7), .ref (B + 8), .ref (B + 9), .null, .null, .null, .int 0, .null, .int 0, .null, .null, .null, .null, .null, .int 0, .null, .null, .null, .null, .null, .int 0, .null, .null, .int 0, .null, .null]))) X H _ := hG
  refine rc_putF C hin2 hG (c0 := 0) (by omega) (va_up_self _ _ _) (Cn := RX9) (T := TX9) (Nk := 35) rfl (fun x hx => List.mem_cons_of_mem _ (uw_X9 x hx)) (ty0 := tyX9) tyX9_ok nmX9 (i := 12) (Nat.le_of_ble_eq_true rfl) (List.mem_cons_of_mem _ tg_4_96) rfl rfl (v := .ref (B + 10)) rfl rfl (Nat.le_of_ble_eq_true rfl) (E' := (va_up (va_up (entM G B w0M) 26 (.inl (gI G, 4, .inl (lz 0)))) 0 (.inr (9, [.ref (B + 1), .ref (B + 2), .int 0, .int 0, .int 0, .ref (B + 3), .ref (B + 4), .ref (B + 5), .ref (B + 6), .ref (B + 7), .ref (B + 8), .ref (B + 9), .ref (B + 10), .null, .null, .int 0, .null, .int 0, .null, .null, .null, .null, .null, .int 0, .null, .null, .null, .null, .null, .int 0, .null, .null, .int 0, .null, .null])))) (up_up) dX9_init_83 (fun H locs hG => ?_)
  refine lv_aload_n C.1 C.2.1 dX9_init_86 rfl (lv_at hl 0 rfl) ?_
  refine lv_bipush (v := nI 6) C.1 C.2.1 dX9_init_87 (by decide) ?_
  refine rc_newI C hG (n := 6) rfl (by omega) ((va_up_ne _ _ (by omega)).trans ((va_up_ne _ _ (by omega)).trans (entM_0 rfl (by omega)))) (k' := 11) (n' := 404) rfl rfl (Nat.le_of_ble_eq_true rfl) (Nat.le_of_ble_eq_true rfl) dX9_init_89 (fun H hG => ?_)
  have hG : Gc s G A 12 B (va_up (va_up (entM G B w0M) 26 (.inl (gI G, 4, .inl (lz 0)))) 0 (.inr (9, [.ref (B + 1), .ref (B + 2), .int 0, .int 0, .int 0, .ref (B + 3), .ref (B + 4), .ref (B + 5), .ref (B + 6), .ref (B + 7), .ref (B + 8), .ref (B + 9), .ref (B + 10), .null, .null, .int 0, .null, .int 0, .null, .null, .null, .null, .null, .int 0, .null, .null, .null, .null, .null, .int 0, .null, .null, .int 0, .null, .null]))) X H _ := hG
  refine rc_putF C hin2 hG (c0 := 0) (by omega) (va_up_self _ _ _) (Cn := RX9) (T := TX9) (Nk := 35) rfl (fun x hx => List.mem_cons_of_mem _ (uw_X9 x hx)) (ty0 := tyX9) tyX9_ok nmX9 (i := 13) (Nat.le_of_ble_eq_true rfl) (List.mem_cons_of_mem _ tg_4_97) rfl rfl (v := .ref (B + 11)) rfl rfl (Nat.le_of_ble_eq_true rfl) (E' := (va_up (va_up (entM G B w0M) 26 (.inl (gI G, 4, .inl (lz 0)))) 0 (.inr (9, [.ref (B + 1), .ref (B + 2), .int 0, .int 0, .int 0, .ref (B + 3), .ref (B + 4), .ref (B + 5), .ref (B + 6), .ref (B + 7), .ref (B + 8), .ref (B + 9), .ref (B + 10), .ref (B + 11), .null, .int 0, .null, .int 0, .null, .null, .null, .null, .null, .int 0, .null, .null, .null, .null, .null, .int 0, .null, .null, .int 0, .null, .null])))) (up_up) dX9_init_91 (fun H locs hG => ?_)
  refine lv_aload_n C.1 C.2.1 dX9_init_94 rfl (lv_at hl 0 rfl) ?_
  refine lv_bipush (v := nI 48) C.1 C.2.1 dX9_init_95 (by decide) ?_
  refine rc_newI C hG (n := 48) rfl (by omega) ((va_up_ne _ _ (by omega)).trans ((va_up_ne _ _ (by omega)).trans (entM_0 rfl (by omega)))) (k' := 12) (n' := 452) rfl rfl (Nat.le_of_ble_eq_true rfl) (Nat.le_of_ble_eq_true rfl) dX9_init_97 (fun H hG => ?_)
  have hG : Gc s G A 13 B (va_up (va_up (entM G B w0M) 26 (.inl (gI G, 4, .inl (lz 0)))) 0 (.inr (9, [.ref (B + 1), .ref (B + 2), .int 0, .int 0, .int 0, .ref (B + 3), .ref (B + 4), .ref (B + 5), .ref (B + 6), .ref (B + 7), .ref (B + 8), .ref (B + 9), .ref (B + 10), .ref (B + 11), .null, .int 0, .null, .int 0, .null, .null, .null, .null, .null, .int 0, .null, .null, .null, .null, .null, .int 0, .null, .null, .int 0, .null, .null]))) X H _ := hG
  refine rc_putF C hin2 hG (c0 := 0) (by omega) (va_up_self _ _ _) (Cn := RX9) (T := TX9) (Nk := 35) rfl (fun x hx => List.mem_cons_of_mem _ (uw_X9 x hx)) (ty0 := tyX9) tyX9_ok nmX9 (i := 14) (Nat.le_of_ble_eq_true rfl) (List.mem_cons_of_mem _ tg_4_98) rfl rfl (v := .ref (B + 12)) rfl rfl (Nat.le_of_ble_eq_true rfl) (E' := (va_up (va_up (entM G B w0M) 26 (.inl (gI G, 4, .inl (lz 0)))) 0 (.inr (9, [.ref (B + 1), .ref (B + 2), .int 0, .int 0, .int 0, .ref (B + 3), .ref (B + 4), .ref (B + 5), .ref (B + 6), .ref (B + 7), .ref (B + 8), .ref (B + 9), .ref (B + 10), .ref (B + 11), .ref (B + 12), .int 0, .null, .int 0, .null, .null, .null, .null, .null, .int 0, .null, .null, .null, .null, .null, .int 0, .null, .null, .int 0, .null, .null])))) (up_up) dX9_init_99 (fun H locs hG => ?_)
  refine lv_aload_n C.1 C.2.1 dX9_init_102 rfl (lv_at hl 0 rfl) ?_
  refine lv_bipush (v := nI 60) C.1 C.2.1 dX9_init_103 (by decide) ?_
  refine rc_newI C hG (n := 60) rfl (by omega) ((va_up_ne _ _ (by omega)).trans ((va_up_ne _ _ (by omega)).trans (entM_0 rfl (by omega)))) (k' := 13) (n' := 512) rfl rfl (Nat.le_of_ble_eq_true rfl) (Nat.le_of_ble_eq_true rfl) dX9_init_105 (fun H hG => ?_)
  have hG : Gc s G A 14 B (va_up (va_up (entM G B w0M) 26 (.inl (gI G, 4, .inl (lz 0)))) 0 (.inr (9, [.ref (B + 1), .ref (B + 2), .int 0, .int 0, .int 0, .ref (B + 3), .ref (B + 4), .ref (B + 5), .ref (B + 6), .ref (B + 7), .ref (B + 8), .ref (B + 9), .ref (B + 10), .ref (B + 11), .ref (B + 12), .int 0, .null, .int 0, .null, .null, .null, .null, .null, .int 0, .null, .null, .null, .null, .null, .int 0, .null, .null, .int 0, .null, .null]))) X H _ := hG
  refine rc_putF C hin2 hG (c0 := 0) (by omega) (va_up_self _ _ _) (Cn := RX9) (T := TX9) (Nk := 35) rfl (fun x hx => List.mem_cons_of_mem _ (uw_X9 x hx)) (ty0 := tyX9) tyX9_ok nmX9 (i := 16) (Nat.le_of_ble_eq_true rfl) (List.mem_cons_of_mem _ tg_4_100) rfl rfl (v := .ref (B + 13)) rfl rfl (Nat.le_of_ble_eq_true rfl) (E' := (va_up (va_up (entM G B w0M) 26 (.inl (gI G, 4, .inl (lz 0)))) 0 (.inr (9, [.ref (B + 1), .ref (B + 2), .int 0, .int 0, .int 0, .ref (B + 3), .ref (B + 4), .ref (B + 5), .ref (B + 6), .ref (B + 7), .ref (B + 8), .ref (B + 9), .ref (B + 10), .ref (B + 11), .ref (B + 12), .int 0, .ref (B + 13), .int 0, .null, .null, .null, .null, .null, .int 0, .null, .null, .null, .null, .null, .int 0, .null, .null, .int 0, .null, .null])))) (up_up) dX9_init_107 (fun H locs hG => ?_)
  refine lv_aload_n C.1 C.2.1 dX9_init_110 rfl (lv_at hl 0 rfl) ?_
  refine lv_iconst (v := nI 3) C.1 C.2.1 dX9_init_111 (by decide) ?_
  refine rc_newI C hG (n := 3) rfl (by omega) ((va_up_ne _ _ (by omega)).trans ((va_up_ne _ _ (by omega)).trans (entM_0 rfl (by omega)))) (k' := 14) (n' := 515) rfl rfl (Nat.le_of_ble_eq_true rfl) (Nat.le_of_ble_eq_true rfl) dX9_init_112 (fun H hG => ?_)
  have hG : Gc s G A 15 B (va_up (va_up (entM G B w0M) 26 (.inl (gI G, 4, .inl (lz 0)))) 0 (.inr (9, [.ref (B + 1), .ref (B + 2), .int 0, .int 0, .int 0, .ref (B + 3), .ref (B + 4), .ref (B + 5), .ref (B + 6), .ref (B + 7), .ref (B + 8), .ref (B + 9), .ref (B + 10), .ref (B + 11), .ref (B + 12), .int 0, .ref (B + 13), .int 0, .null, .null, .null, .null, .null, .int 0, .null, .null, .null, .null, .null, .int 0, .null, .null, .int 0, .null, .null]))) X H _ := hG
  refine rc_putF C hin2 hG (c0 := 0) (by omega) (va_up_self _ _ _) (Cn := RX9) (T := TX9) (Nk := 35) rfl (fun x hx => List.mem_cons_of_mem _ (uw_X9 x hx)) (ty0 := tyX9) tyX9_ok nmX9 (i := 18) (Nat.le_of_ble_eq_true rfl) (List.mem_cons_of_mem _ tg_4_102) rfl rfl (v := .ref (B + 14)) rfl rfl (Nat.le_of_ble_eq_true rfl) (E' := (va_up (va_up (entM G B w0M) 26 (.inl (gI G, 4, .inl (lz 0)))) 0 (.inr (9, [.ref (B + 1), .ref (B + 2), .int 0, .int 0, .int 0, .ref (B + 3), .ref (B + 4), .ref (B + 5), .ref (B + 6), .ref (B + 7), .ref (B + 8), .ref (B + 9), .ref (B + 10), .ref (B + 11), .ref (B + 12), .int 0, .ref (B + 13), .int 0, .ref (B + 14), .null, .null, .null, .null, .int 0, .null, .null, .null, .null, .null, .int 0, .null, .null, .int 0, .null, .null])))) (up_up) dX9_init_114 (fun H locs hG => ?_)
  refine lv_aload_n C.1 C.2.1 dX9_init_117 rfl (lv_at hl 0 rfl) ?_
  refine lv_bipush (v := nI 24) C.1 C.2.1 dX9_init_118 (by decide) ?_
  refine rc_newI C hG (n := 24) rfl (by omega) ((va_up_ne _ _ (by omega)).trans ((va_up_ne _ _ (by omega)).trans (entM_0 rfl (by omega)))) (k' := 15) (n' := 539) rfl rfl (Nat.le_of_ble_eq_true rfl) (Nat.le_of_ble_eq_true rfl) dX9_init_120 (fun H hG => ?_)
  have hG : Gc s G A 16 B (va_up (va_up (entM G B w0M) 26 (.inl (gI G, 4, .inl (lz 0)))) 0 (.inr (9, [.ref (B + 1), .ref (B + 2), .int 0, .int 0, .int 0, .ref (B + 3), .ref (B + 4), .ref (B + 5), .ref (B + 6), .ref (B + 7), .ref (B + 8), .ref (B + 9), .ref (B + 10), .ref (B + 11), .ref (B + 12), .int 0, .ref (B + 13), .int 0, .ref (B + 14), .null, .null, .null, .null, .int 0, .null, .null, .null, .null, .null, .int 0, .null, .null, .int 0, .null, .null]))) X H _ := hG
  refine rc_putF C hin2 hG (c0 := 0) (by omega) (va_up_self _ _ _) (Cn := RX9) (T := TX9) (Nk := 35) rfl (fun x hx => List.mem_cons_of_mem _ (uw_X9 x hx)) (ty0 := tyX9) tyX9_ok nmX9 (i := 19) (Nat.le_of_ble_eq_true rfl) (List.mem_cons_of_mem _ tg_4_103) rfl rfl (v := .ref (B + 15)) rfl rfl (Nat.le_of_ble_eq_true rfl) (E' := (va_up (va_up (entM G B w0M) 26 (.inl (gI G, 4, .inl (lz 0)))) 0 (.inr (9, [.ref (B + 1), .ref (B + 2), .int 0, .int 0, .int 0, .ref (B + 3), .ref (B + 4), .ref (B + 5), .ref (B + 6), .ref (B + 7), .ref (B + 8), .ref (B + 9), .ref (B + 10), .ref (B + 11), .ref (B + 12), .int 0, .ref (B + 13), .int 0, .ref (B + 14), .ref (B + 15), .null, .null, .null, .int 0, .null, .null, .null, .null, .null, .int 0, .null, .null, .int 0, .null, .null])))) (up_up) dX9_init_122 (fun H locs hG => ?_)
  refine lv_aload_n C.1 C.2.1 dX9_init_125 rfl (lv_at hl 0 rfl) ?_
  refine lv_bipush (v := nI 24) C.1 C.2.1 dX9_init_126 (by decide) ?_
  refine rc_newI C hG (n := 24) rfl (by omega) ((va_up_ne _ _ (by omega)).trans ((va_up_ne _ _ (by omega)).trans (entM_0 rfl (by omega)))) (k' := 16) (n' := 563) rfl rfl (Nat.le_of_ble_eq_true rfl) (Nat.le_of_ble_eq_true rfl) dX9_init_128 (fun H hG => ?_)
  have hG : Gc s G A 17 B (va_up (va_up (entM G B w0M) 26 (.inl (gI G, 4, .inl (lz 0)))) 0 (.inr (9, [.ref (B + 1), .ref (B + 2), .int 0, .int 0, .int 0, .ref (B + 3), .ref (B + 4), .ref (B + 5), .ref (B + 6), .ref (B + 7), .ref (B + 8), .ref (B + 9), .ref (B + 10), .ref (B + 11), .ref (B + 12), .int 0, .ref (B + 13), .int 0, .ref (B + 14), .ref (B + 15), .null, .null, .null, .int 0, .null, .null, .null, .null, .null, .int 0, .null, .null, .int 0, .null, .null]))) X H _ := hG
  refine rc_putF C hin2 hG (c0 := 0) (by omega) (va_up_self _ _ _) (Cn := RX9) (T := TX9) (Nk := 35) rfl (fun x hx => List.mem_cons_of_mem _ (uw_X9 x hx)) (ty0 := tyX9) tyX9_ok nmX9 (i := 20) (Nat.le_of_ble_eq_true rfl) (List.mem_cons_of_mem _ tg_4_104) rfl rfl (v := .ref (B + 16)) rfl rfl (Nat.le_of_ble_eq_true rfl) (E' := (va_up (va_up (entM G B w0M) 26 (.inl (gI G, 4, .inl (lz 0)))) 0 (.inr (9, [.ref (B + 1), .ref (B + 2), .int 0, .int 0, .int 0, .ref (B + 3), .ref (B + 4), .ref (B + 5), .ref (B + 6), .ref (B + 7), .ref (B + 8), .ref (B + 9), .ref (B + 10), .ref (B + 11), .ref (B + 12), .int 0, .ref (B + 13), .int 0, .ref (B + 14), .ref (B + 15), .ref (B + 16), .null, .null, .int 0, .null, .null, .null, .null, .null, .int 0, .null, .null, .int 0, .null, .null])))) (up_up) dX9_init_130 (fun H locs hG => ?_)
  refine lv_aload_n C.1 C.2.1 dX9_init_133 rfl (lv_at hl 0 rfl) ?_
  refine lv_bipush (v := nI 24) C.1 C.2.1 dX9_init_134 (by decide) ?_
  refine rc_newI C hG (n := 24) rfl (by omega) ((va_up_ne _ _ (by omega)).trans ((va_up_ne _ _ (by omega)).trans (entM_0 rfl (by omega)))) (k' := 17) (n' := 587) rfl rfl (Nat.le_of_ble_eq_true rfl) (Nat.le_of_ble_eq_true rfl) dX9_init_136 (fun H hG => ?_)
  have hG : Gc s G A 18 B (va_up (va_up (entM G B w0M) 26 (.inl (gI G, 4, .inl (lz 0)))) 0 (.inr (9, [.ref (B + 1), .ref (B + 2), .int 0, .int 0, .int 0, .ref (B + 3), .ref (B + 4), .ref (B + 5), .ref (B + 6), .ref (B + 7), .ref (B + 8), .ref (B + 9), .ref (B + 10), .ref (B + 11), .ref (B + 12), .int 0, .ref (B + 13), .int 0, .ref (B + 14), .ref (B + 15), .ref (B + 16), .null, .null, .int 0, .null, .null, .null, .null, .null, .int 0, .null, .null, .int 0, .null, .null]))) X H _ := hG
  refine rc_putF C hin2 hG (c0 := 0) (by omega) (va_up_self _ _ _) (Cn := RX9) (T := TX9) (Nk := 35) rfl (fun x hx => List.mem_cons_of_mem _ (uw_X9 x hx)) (ty0 := tyX9) tyX9_ok nmX9 (i := 21) (Nat.le_of_ble_eq_true rfl) (List.mem_cons_of_mem _ tg_4_105) rfl rfl (v := .ref (B + 17)) rfl rfl (Nat.le_of_ble_eq_true rfl) (E' := (va_up (va_up (entM G B w0M) 26 (.inl (gI G, 4, .inl (lz 0)))) 0 (.inr (9, [.ref (B + 1), .ref (B + 2), .int 0, .int 0, .int 0, .ref (B + 3), .ref (B + 4), .ref (B + 5), .ref (B + 6), .ref (B + 7), .ref (B + 8), .ref (B + 9), .ref (B + 10), .ref (B + 11), .ref (B + 12), .int 0, .ref (B + 13), .int 0, .ref (B + 14), .ref (B + 15), .ref (B + 16), .ref (B + 17), .null, .int 0, .null, .null, .null, .null, .null, .int 0, .null, .null, .int 0, .null, .null])))) (up_up) dX9_init_138 (fun H locs hG => ?_)
  refine lv_aload_n C.1 C.2.1 dX9_init_141 rfl (lv_at hl 0 rfl) ?_
  refine lv_bipush (v := nI 24) C.1 C.2.1 dX9_init_142 (by decide) ?_
  refine rc_newI C hG (n := 24) rfl (by omega) ((va_up_ne _ _ (by omega)).trans ((va_up_ne _ _ (by omega)).trans (entM_0 rfl (by omega)))) (k' := 18) (n' := 611) rfl rfl (Nat.le_of_ble_eq_true rfl) (Nat.le_of_ble_eq_true rfl) dX9_init_144 (fun H hG => ?_)
  have hG : Gc s G A 19 B (va_up (va_up (entM G B w0M) 26 (.inl (gI G, 4, .inl (lz 0)))) 0 (.inr (9, [.ref (B + 1), .ref (B + 2), .int 0, .int 0, .int 0, .ref (B + 3), .ref (B + 4), .ref (B + 5), .ref (B + 6), .ref (B + 7), .ref (B + 8), .ref (B + 9), .ref (B + 10), .ref (B + 11), .ref (B + 12), .int 0, .ref (B + 13), .int 0, .ref (B + 14), .ref (B + 15), .ref (B + 16), .ref (B + 17), .null, .int 0, .null, .null, .null, .null, .null, .int 0, .null, .null, .int 0, .null, .null]))) X H _ := hG
  refine rc_putF C hin2 hG (c0 := 0) (by omega) (va_up_self _ _ _) (Cn := RX9) (T := TX9) (Nk := 35) rfl (fun x hx => List.mem_cons_of_mem _ (uw_X9 x hx)) (ty0 := tyX9) tyX9_ok nmX9 (i := 22) (Nat.le_of_ble_eq_true rfl) (List.mem_cons_of_mem _ tg_4_106) rfl rfl (v := .ref (B + 18)) rfl rfl (Nat.le_of_ble_eq_true rfl) (E' := (va_up (va_up (entM G B w0M) 26 (.inl (gI G, 4, .inl (lz 0)))) 0 (.inr (9, [.ref (B + 1), .ref (B + 2), .int 0, .int 0, .int 0, .ref (B + 3), .ref (B + 4), .ref (B + 5), .ref (B + 6), .ref (B + 7), .ref (B + 8), .ref (B + 9), .ref (B + 10), .ref (B + 11), .ref (B + 12), .int 0, .ref (B + 13), .int 0, .ref (B + 14), .ref (B + 15), .ref (B + 16), .ref (B + 17), .ref (B + 18), .int 0, .null, .null, .null, .null, .null, .int 0, .null, .null, .int 0, .null, .null])))) (up_up) dX9_init_146 (fun H locs hG => ?_)
  refine lv_aload_n C.1 C.2.1 dX9_init_149 rfl (lv_at hl 0 rfl) ?_
  refine lv_bipush (v := nI 24) C.1 C.2.1 dX9_init_150 (by decide) ?_
  refine rc_newI C hG (n := 24) rfl (by omega) ((va_up_ne _ _ (by omega)).trans ((va_up_ne _ _ (by omega)).trans (entM_0 rfl (by omega)))) (k' := 19) (n' := 635) rfl rfl (Nat.le_of_ble_eq_true rfl) (Nat.le_of_ble_eq_true rfl) dX9_init_152 (fun H hG => ?_)
  have hG : Gc s G A 20 B (va_up (va_up (entM G B w0M) 26 (.inl (gI G, 4, .inl (lz 0)))) 0 (.inr (9, [.ref (B + 1), .ref (B + 2), .int 0, .int 0, .int 0, .ref (B + 3), .ref (B + 4), .ref (B + 5), .ref (B + 6), .ref (B + 7), .ref (B + 8), .ref (B + 9), .ref (B + 10), .ref (B + 11), .ref (B + 12), .int 0, .ref (B + 13), .int 0, .ref (B + 14), .ref (B + 15), .ref (B + 16), .ref (B + 17), .ref (B + 18), .int 0, .null, .null, .null, .null, .null, .int 0, .null, .null, .int 0, .null, .null]))) X H _ := hG
  refine rc_putF C hin2 hG (c0 := 0) (by omega) (va_up_self _ _ _) (Cn := RX9) (T := TX9) (Nk := 35) rfl (fun x hx => List.mem_cons_of_mem _ (uw_X9 x hx)) (ty0 := tyX9) tyX9_ok nmX9 (i := 24) (Nat.le_of_ble_eq_true rfl) (List.mem_cons_of_mem _ tg_4_108) rfl rfl (v := .ref (B + 19)) rfl rfl (Nat.le_of_ble_eq_true rfl) (E' := (va_up (va_up (entM G B w0M) 26 (.inl (gI G, 4, .inl (lz 0)))) 0 (.inr (9, [.ref (B + 1), .ref (B + 2), .int 0, .int 0, .int 0, .ref (B + 3), .ref (B + 4), .ref (B + 5), .ref (B + 6), .ref (B + 7), .ref (B + 8), .ref (B + 9), .ref (B + 10), .ref (B + 11), .ref (B + 12), .int 0, .ref (B + 13), .int 0, .ref (B + 14), .ref (B + 15), .ref (B + 16), .ref (B + 17), .ref (B + 18), .int 0, .ref (B + 19), .null, .null, .null, .null, .int 0, .null, .null, .int 0, .null, .null])))) (up_up) dX9_init_154 (fun H locs hG => ?_)
  refine lv_aload_n C.1 C.2.1 dX9_init_157 rfl (lv_at hl 0 rfl) ?_
  refine lv_bipush (v := nI 24) C.1 C.2.1 dX9_init_158 (by decide) ?_
  refine rc_newI C hG (n := 24) rfl (by omega) ((va_up_ne _ _ (by omega)).trans ((va_up_ne _ _ (by omega)).trans (entM_0 rfl (by omega)))) (k' := 20) (n' := 659) rfl rfl (Nat.le_of_ble_eq_true rfl) (Nat.le_of_ble_eq_true rfl) dX9_init_160 (fun H hG => ?_)
  have hG : Gc s G A 21 B (va_up (va_up (entM G B w0M) 26 (.inl (gI G, 4, .inl (lz 0)))) 0 (.inr (9, [.ref (B + 1), .ref (B + 2), .int 0, .int 0, .int 0, .ref (B + 3), .ref (B + 4), .ref (B + 5), .ref (B + 6), .ref (B + 7), .ref (B + 8), .ref (B + 9), .ref (B + 10), .ref (B + 11), .ref (B + 12), .int 0, .ref (B + 13), .int 0, .ref (B + 14), .ref (B + 15), .ref (B + 16), .ref (B + 17), .ref (B + 18), .int 0, .ref (B + 19), .null, .null, .null, .null, .int 0, .null, .null, .int 0, .null, .null]))) X H _ := hG
  refine rc_putF C hin2 hG (c0 := 0) (by omega) (va_up_self _ _ _) (Cn := RX9) (T := TX9) (Nk := 35) rfl (fun x hx => List.mem_cons_of_mem _ (uw_X9 x hx)) (ty0 := tyX9) tyX9_ok nmX9 (i := 25) (Nat.le_of_ble_eq_true rfl) (List.mem_cons_of_mem _ tg_4_109) rfl rfl (v := .ref (B + 20)) rfl rfl (Nat.le_of_ble_eq_true rfl) (E' := (va_up (va_up (entM G B w0M) 26 (.inl (gI G, 4, .inl (lz 0)))) 0 (.inr (9, [.ref (B + 1), .ref (B + 2), .int 0, .int 0, .int 0, .ref (B + 3), .ref (B + 4), .ref (B + 5), .ref (B + 6), .ref (B + 7), .ref (B + 8), .ref (B + 9), .ref (B + 10), .ref (B + 11), .ref (B + 12), .int 0, .ref (B + 13), .int 0, .ref (B + 14), .ref (B + 15), .ref (B + 16), .ref (B + 17), .ref (B + 18), .int 0, .ref (B + 19), .ref (B + 20), .null, .null, .null, .int 0, .null, .null, .int 0, .null, .null])))) (up_up) dX9_init_162 (fun H locs hG => ?_)
  refine lv_aload_n C.1 C.2.1 dX9_init_165 rfl (lv_at hl 0 rfl) ?_
  refine lv_bipush (v := nI 24) C.1 C.2.1 dX9_init_166 (by decide) ?_
  refine rc_newI C hG (n := 24) rfl (by omega) ((va_up_ne _ _ (by omega)).trans ((va_up_ne _ _ (by omega)).trans (entM_0 rfl (by omega)))) (k' := 21) (n' := 683) rfl rfl (Nat.le_of_ble_eq_true rfl) (Nat.le_of_ble_eq_true rfl) dX9_init_168 (fun H hG => ?_)
  have hG : Gc s G A 22 B (va_up (va_up (entM G B w0M) 26 (.inl (gI G, 4, .inl (lz 0)))) 0 (.inr (9, [.ref (B + 1), .ref (B + 2), .int 0, .int 0, .int 0, .ref (B + 3), .ref (B + 4), .ref (B + 5), .ref (B + 6), .ref (B + 7), .ref (B + 8), .ref (B + 9), .ref (B + 10), .ref (B + 11), .ref (B + 12), .int 0, .ref (B + 13), .int 0, .ref (B + 14), .ref (B + 15), .ref (B + 16), .ref (B + 17), .ref (B + 18), .int 0, .ref (B + 19), .ref (B + 20), .null, .null, .null, .int 0, .null, .null, .int 0, .null, .null]))) X H _ := hG
  refine rc_putF C hin2 hG (c0 := 0) (by omega) (va_up_self _ _ _) (Cn := RX9) (T := TX9) (Nk := 35) rfl (fun x hx => List.mem_cons_of_mem _ (uw_X9 x hx)) (ty0 := tyX9) tyX9_ok nmX9 (i := 26) (Nat.le_of_ble_eq_true rfl) (List.mem_cons_of_mem _ tg_4_110) rfl rfl (v := .ref (B + 21)) rfl rfl (Nat.le_of_ble_eq_true rfl) (E' := (va_up (va_up (entM G B w0M) 26 (.inl (gI G, 4, .inl (lz 0)))) 0 (.inr (9, [.ref (B + 1), .ref (B + 2), .int 0, .int 0, .int 0, .ref (B + 3), .ref (B + 4), .ref (B + 5), .ref (B + 6), .ref (B + 7), .ref (B + 8), .ref (B + 9), .ref (B + 10), .ref (B + 11), .ref (B + 12), .int 0, .ref (B + 13), .int 0, .ref (B + 14), .ref (B + 15), .ref (B + 16), .ref (B + 17), .ref (B + 18), .int 0, .ref (B + 19), .ref (B + 20), .ref (B + 21), .null, .null, .int 0, .null, .null, .int 0, .null, .null])))) (up_up) dX9_init_170 (fun H locs hG => ?_)
  refine lv_aload_n C.1 C.2.1 dX9_init_173 rfl (lv_at hl 0 rfl) ?_
  refine lv_sipush (v := nI 216) C.1 C.2.1 dX9_init_174 (by decide) ?_
  refine rc_newI C hG (n := 216) rfl (by omega) ((va_up_ne _ _ (by omega)).trans ((va_up_ne _ _ (by omega)).trans (entM_0 rfl (by omega)))) (k' := 22) (n' := 899) rfl rfl (Nat.le_of_ble_eq_true rfl) (Nat.le_of_ble_eq_true rfl) dX9_init_177 (fun H hG => ?_)
  have hG : Gc s G A 23 B (va_up (va_up (entM G B w0M) 26 (.inl (gI G, 4, .inl (lz 0)))) 0 (.inr (9, [.ref (B + 1), .ref (B + 2), .int 0, .int 0, .int 0, .ref (B + 3), .ref (B + 4), .ref (B + 5), .ref (B + 6), .ref (B + 7), .ref (B + 8), .ref (B + 9), .ref (B + 10), .ref (B + 11), .ref (B + 12), .int 0, .ref (B + 13), .int 0, .ref (B + 14), .ref (B + 15), .ref (B + 16), .ref (B + 17), .ref (B + 18), .int 0, .ref (B + 19), .ref (B + 20), .ref (B + 21), .null, .null, .int 0, .null, .null, .int 0, .null, .null]))) X H _ := hG
  refine rc_putF C hin2 hG (c0 := 0) (by omega) (va_up_self _ _ _) (Cn := RX9) (T := TX9) (Nk := 35) rfl (fun x hx => List.mem_cons_of_mem _ (uw_X9 x hx)) (ty0 := tyX9) tyX9_ok nmX9 (i := 27) (Nat.le_of_ble_eq_true rfl) (List.mem_cons_of_mem _ tg_4_111) rfl rfl (v := .ref (B + 22)) rfl rfl (Nat.le_of_ble_eq_true rfl) (E' := (va_up (va_up (entM G B w0M) 26 (.inl (gI G, 4, .inl (lz 0)))) 0 (.inr (9, [.ref (B + 1), .ref (B + 2), .int 0, .int 0, .int 0, .ref (B + 3), .ref (B + 4), .ref (B + 5), .ref (B + 6), .ref (B + 7), .ref (B + 8), .ref (B + 9), .ref (B + 10), .ref (B + 11), .ref (B + 12), .int 0, .ref (B + 13), .int 0, .ref (B + 14), .ref (B + 15), .ref (B + 16), .ref (B + 17), .ref (B + 18), .int 0, .ref (B + 19), .ref (B + 20), .ref (B + 21), .ref (B + 22), .null, .int 0, .null, .null, .int 0, .null, .null])))) (up_up) dX9_init_179 (fun H locs hG => ?_)
  refine lv_aload_n C.1 C.2.1 dX9_init_182 rfl (lv_at hl 0 rfl) ?_
  refine lv_sipush (v := nI 216) C.1 C.2.1 dX9_init_183 (by decide) ?_
  refine rc_newI C hG (n := 216) rfl (by omega) ((va_up_ne _ _ (by omega)).trans ((va_up_ne _ _ (by omega)).trans (entM_0 rfl (by omega)))) (k' := 23) (n' := 1115) rfl rfl (Nat.le_of_ble_eq_true rfl) (Nat.le_of_ble_eq_true rfl) dX9_init_186 (fun H hG => ?_)
  have hG : Gc s G A 24 B (va_up (va_up (entM G B w0M) 26 (.inl (gI G, 4, .inl (lz 0)))) 0 (.inr (9, [.ref (B + 1), .ref (B + 2), .int 0, .int 0, .int 0, .ref (B + 3), .ref (B + 4), .ref (B + 5), .ref (B + 6), .ref (B + 7), .ref (B + 8), .ref (B + 9), .ref (B + 10), .ref (B + 11), .ref (B + 12), .int 0, .ref (B + 13), .int 0, .ref (B + 14), .ref (B + 15), .ref (B + 16), .ref (B + 17), .ref (B + 18), .int 0, .ref (B + 19), .ref (B + 20), .ref (B + 21), .ref (B + 22), .null, .int 0, .null, .null, .int 0, .null, .null]))) X H _ := hG
  refine rc_putF C hin2 hG (c0 := 0) (by omega) (va_up_self _ _ _) (Cn := RX9) (T := TX9) (Nk := 35) rfl (fun x hx => List.mem_cons_of_mem _ (uw_X9 x hx)) (ty0 := tyX9) tyX9_ok nmX9 (i := 28) (Nat.le_of_ble_eq_true rfl) (List.mem_cons_of_mem _ tg_4_112) rfl rfl (v := .ref (B + 23)) rfl rfl (Nat.le_of_ble_eq_true rfl) (E' := (va_up (va_up (entM G B w0M) 26 (.inl (gI G, 4, .inl (lz 0)))) 0 (.inr (9, [.ref (B + 1), .ref (B + 2), .int 0, .int 0, .int 0, .ref (B + 3), .ref (B + 4), .ref (B + 5), .ref (B + 6), .ref (B + 7), .ref (B + 8), .ref (B + 9), .ref (B + 10), .ref (B + 11), .ref (B + 12), .int 0, .ref (B + 13), .int 0, .ref (B + 14), .ref (B + 15), .ref (B + 16), .ref (B + 17), .ref (B + 18), .int 0, .ref (B + 19), .ref (B + 20), .ref (B + 21), .ref (B + 22), .ref (B + 23), .int 0, .null, .null, .int 0, .null, .null])))) (up_up) dX9_init_188 (fun H locs hG => ?_)
  refine lv_aload_n C.1 C.2.1 dX9_init_191 rfl (lv_at hl 0 rfl) ?_
  refine lv_sipush (v := nI 216) C.1 C.2.1 dX9_init_192 (by decide) ?_
  refine rc_newI C hG (n := 216) rfl (by omega) ((va_up_ne _ _ (by omega)).trans ((va_up_ne _ _ (by omega)).trans (entM_0 rfl (by omega)))) (k' := 24) (n' := 1331) rfl rfl (Nat.le_of_ble_eq_true rfl) (Nat.le_of_ble_eq_true rfl) dX9_init_195 (fun H hG => ?_)
  have hG : Gc s G A 25 B (va_up (va_up (entM G B w0M) 26 (.inl (gI G, 4, .inl (lz 0)))) 0 (.inr (9, [.ref (B + 1), .ref (B + 2), .int 0, .int 0, .int 0, .ref (B + 3), .ref (B + 4), .ref (B + 5), .ref (B + 6), .ref (B + 7), .ref (B + 8), .ref (B + 9), .ref (B + 10), .ref (B + 11), .ref (B + 12), .int 0, .ref (B + 13), .int 0, .ref (B + 14), .ref (B + 15), .ref (B + 16), .ref (B + 17), .ref (B + 18), .int 0, .ref (B + 19), .ref (B + 20), .ref (B + 21), .ref (B + 22), .ref (B + 23), .int 0, .null, .null, .int 0, .null, .null]))) X H _ := hG
  refine rc_putF C hin2 hG (c0 := 0) (by omega) (va_up_self _ _ _) (Cn := RX9) (T := TX9) (Nk := 35) rfl (fun x hx => List.mem_cons_of_mem _ (uw_X9 x hx)) (ty0 := tyX9) tyX9_ok nmX9 (i := 30) (Nat.le_of_ble_eq_true rfl) (List.mem_cons_of_mem _ tg_4_114) rfl rfl (v := .ref (B + 24)) rfl rfl (Nat.le_of_ble_eq_true rfl) (E' := (va_up (va_up (entM G B w0M) 26 (.inl (gI G, 4, .inl (lz 0)))) 0 (.inr (9, [.ref (B + 1), .ref (B + 2), .int 0, .int 0, .int 0, .ref (B + 3), .ref (B + 4), .ref (B + 5), .ref (B + 6), .ref (B + 7), .ref (B + 8), .ref (B + 9), .ref (B + 10), .ref (B + 11), .ref (B + 12), .int 0, .ref (B + 13), .int 0, .ref (B + 14), .ref (B + 15), .ref (B + 16), .ref (B + 17), .ref (B + 18), .int 0, .ref (B + 19), .ref (B + 20), .ref (B + 21), .ref (B + 22), .ref (B + 23), .int 0, .ref (B + 24), .null, .int 0, .null, .null])))) (up_up) dX9_init_197 (fun H locs hG => ?_)
  refine lv_aload_n C.1 C.2.1 dX9_init_200 rfl (lv_at hl 0 rfl) ?_
  refine lv_bipush (v := nI 24) C.1 C.2.1 dX9_init_201 (by decide) ?_
  refine rc_newI C hG (n := 24) rfl (by omega) ((va_up_ne _ _ (by omega)).trans ((va_up_ne _ _ (by omega)).trans (entM_0 rfl (by omega)))) (k' := 25) (n' := 1355) rfl rfl (Nat.le_of_ble_eq_true rfl) (Nat.le_of_ble_eq_true rfl) dX9_init_203 (fun H hG => ?_)
  have hG : Gc s G A 26 B (va_up (va_up (entM G B w0M) 26 (.inl (gI G, 4, .inl (lz 0)))) 0 (.inr (9, [.ref (B + 1), .ref (B + 2), .int 0, .int 0, .int 0, .ref (B + 3), .ref (B + 4), .ref (B + 5), .ref (B + 6), .ref (B + 7), .ref (B + 8), .ref (B + 9), .ref (B + 10), .ref (B + 11), .ref (B + 12), .int 0, .ref (B + 13), .int 0, .ref (B + 14), .ref (B + 15), .ref (B + 16), .ref (B + 17), .ref (B + 18), .int 0, .ref (B + 19), .ref (B + 20), .ref (B + 21), .ref (B + 22), .ref (B + 23), .int 0, .ref (B + 24), .null, .int 0, .null, .null]))) X H _ := hG
  refine rc_putF C hin2 hG (c0 := 0) (by omega) (va_up_self _ _ _) (Cn := RX9) (T := TX9) (Nk := 35) rfl (fun x hx => List.mem_cons_of_mem _ (uw_X9 x hx)) (ty0 := tyX9) tyX9_ok nmX9 (i := 31) (Nat.le_of_ble_eq_true rfl) (List.mem_cons_of_mem _ tg_4_115) rfl rfl (v := .ref (B + 25)) rfl rfl (Nat.le_of_ble_eq_true rfl) (E' := (va_up (va_up (entM G B w0M) 26 (.inl (gI G, 4, .inl (lz 0)))) 0 (.inr (9, [.ref (B + 1), .ref (B + 2), .int 0, .int 0, .int 0, .ref (B + 3), .ref (B + 4), .ref (B + 5), .ref (B + 6), .ref (B + 7), .ref (B + 8), .ref (B + 9), .ref (B + 10), .ref (B + 11), .ref (B + 12), .int 0, .ref (B + 13), .int 0, .ref (B + 14), .ref (B + 15), .ref (B + 16), .ref (B + 17), .ref (B + 18), .int 0, .ref (B + 19), .ref (B + 20), .ref (B + 21), .ref (B + 22), .ref (B + 23), .int 0, .ref (B + 24), .ref (B + 25), .int 0, .null, .null])))) (up_up) dX9_init_205 (fun H locs hG => ?_)
  refine lv_aload_n C.1 C.2.1 dX9_init_208 rfl (lv_at hl 0 rfl) ?_
  refine lv_iconst (v := nI 4) C.1 C.2.1 dX9_init_209 (by decide) ?_
  refine rc_newI C hG (n := 4) rfl (by omega) (((va_up_ne _ _ (by omega)).trans (va_up_self _ _ _)).trans (by rw [lz_0])) (k' := 26) (n' := 1359) rfl rfl (Nat.le_of_ble_eq_true rfl) (Nat.le_of_ble_eq_true rfl) dX9_init_210 (fun H hG => ?_)
  have hG : Gc s G A 27 B (va_up (va_up (entM G B w0M) 26 (.inl (gI G, 4, .inl (lz 0)))) 0 (.inr (9, [.ref (B + 1), .ref (B + 2), .int 0, .int 0, .int 0, .ref (B + 3), .ref (B + 4), .ref (B + 5), .ref (B + 6), .ref (B + 7), .ref (B + 8), .ref (B + 9), .ref (B + 10), .ref (B + 11), .ref (B + 12), .int 0, .ref (B + 13), .int 0, .ref (B + 14), .ref (B + 15), .ref (B + 16), .ref (B + 17), .ref (B + 18), .int 0, .ref (B + 19), .ref (B + 20), .ref (B + 21), .ref (B + 22), .ref (B + 23), .int 0, .ref (B + 24), .ref (B + 25), .int 0, .null, .null]))) X H _ := hG
  refine rc_putF C hin2 hG (c0 := 0) (by omega) (va_up_self _ _ _) (Cn := RX9) (T := TX9) (Nk := 35) rfl (fun x hx => List.mem_cons_of_mem _ (uw_X9 x hx)) (ty0 := tyX9) tyX9_ok nmX9 (i := 33) (Nat.le_of_ble_eq_true rfl) (List.mem_cons_of_mem _ tg_4_117) rfl rfl (v := .ref (B + 26)) rfl rfl (Nat.le_of_ble_eq_true rfl) (E' := (va_up (va_up (entM G B w0M) 26 (.inl (gI G, 4, .inl (lz 0)))) 0 (.inr (9, [.ref (B + 1), .ref (B + 2), .int 0, .int 0, .int 0, .ref (B + 3), .ref (B + 4), .ref (B + 5), .ref (B + 6), .ref (B + 7), .ref (B + 8), .ref (B + 9), .ref (B + 10), .ref (B + 11), .ref (B + 12), .int 0, .ref (B + 13), .int 0, .ref (B + 14), .ref (B + 15), .ref (B + 16), .ref (B + 17), .ref (B + 18), .int 0, .ref (B + 19), .ref (B + 20), .ref (B + 21), .ref (B + 22), .ref (B + 23), .int 0, .ref (B + 24), .ref (B + 25), .int 0, .ref (B + 26), .null])))) (up_up) dX9_init_212 (fun H locs hG => ?_)
  refine lv_aload_n C.1 C.2.1 dX9_init_215 rfl (lv_at hl 0 rfl) ?_
  refine lv_bipush (v := nI 48) C.1 C.2.1 dX9_init_216 (by decide) ?_
  refine rc_newI C hG (n := 48) rfl (by omega) ((va_up_ne _ _ (by omega)).trans ((va_up_ne _ _ (by omega)).trans (entM_0 rfl (by omega)))) (k' := 27) (n' := 1407) rfl rfl (Nat.le_of_ble_eq_true rfl) (Nat.le_of_ble_eq_true rfl) dX9_init_218 (fun H hG => ?_)
  have hG : Gc s G A 28 B (va_up (va_up (entM G B w0M) 26 (.inl (gI G, 4, .inl (lz 0)))) 0 (.inr (9, [.ref (B + 1), .ref (B + 2), .int 0, .int 0, .int 0, .ref (B + 3), .ref (B + 4), .ref (B + 5), .ref (B + 6), .ref (B + 7), .ref (B + 8), .ref (B + 9), .ref (B + 10), .ref (B + 11), .ref (B + 12), .int 0, .ref (B + 13), .int 0, .ref (B + 14), .ref (B + 15), .ref (B + 16), .ref (B + 17), .ref (B + 18), .int 0, .ref (B + 19), .ref (B + 20), .ref (B + 21), .ref (B + 22), .ref (B + 23), .int 0, .ref (B + 24), .ref (B + 25), .int 0, .ref (B + 26), .null]))) X H _ := hG
  refine rc_putF C hin2 hG (c0 := 0) (by omega) (va_up_self _ _ _) (Cn := RX9) (T := TX9) (Nk := 35) rfl (fun x hx => List.mem_cons_of_mem _ (uw_X9 x hx)) (ty0 := tyX9) tyX9_ok nmX9 (i := 34) (Nat.le_of_ble_eq_true rfl) (List.mem_cons_of_mem _ tg_4_118) rfl rfl (v := .ref (B + 27)) rfl rfl (Nat.le_of_ble_eq_true rfl) (E' := (va_up (va_up (entM G B w0M) 26 (.inl (gI G, 4, .inl (lz 0)))) 0 (.inr (9, [.ref (B + 1), .ref (B + 2), .int 0, .int 0, .int 0, .ref (B + 3), .ref (B + 4), .ref (B + 5), .ref (B + 6), .ref (B + 7), .ref (B + 8), .ref (B + 9), .ref (B + 10), .ref (B + 11), .ref (B + 12), .int 0, .ref (B + 13), .int 0, .ref (B + 14), .ref (B + 15), .ref (B + 16), .ref (B + 17), .ref (B + 18), .int 0, .ref (B + 19), .ref (B + 20), .ref (B + 21), .ref (B + 22), .ref (B + 23), .int 0, .ref (B + 24), .ref (B + 25), .int 0, .ref (B + 26), .ref (B + 27)])))) (up_up) dX9_init_220 (fun H locs hG => ?_)
  refine lv_iconst (v := nI 0) C.1 C.2.1 dX9_init_223 (by decide) ?_
  refine lv_istore_n (lv' := [(1, .int (nI 0)), (0, .ref (B + 0))]) C.1 C.2.1 dX9_init_224 rfl hl (by decide) rfl (fun ls hl => ?_)
  refine lv_iload_n C.1 C.2.1 dX9_init_225 rfl (lv_at hl 0 rfl) ?_
  refine lv_iconst (v := nI 4) C.1 C.2.1 dX9_init_226 (by decide) ?_
  refine lv_icmp_ge (tgt := 243) C.1 C.2.1 dX9_init_227 (by decide) (fun q => absurd q (by decide)) (fun _ => ?_)
  refine lv_aload_n C.1 C.2.1 dX9_init_230 rfl (lv_at hl 1 rfl) ?_
  refine rc_getf C hG (c0 := 0) (by omega) (va_up_self _ _ _) (Cn := RX9) (T := TX9) (Nk := 35) rfl (fun x hx => List.mem_cons_of_mem _ (uw_X9 x hx)) (i := 33) (Nat.le_of_ble_eq_true rfl) (List.mem_cons_of_mem _ tg_4_117) (v := .ref (B + 26)) rfl dX9_init_231 ?_
  refine lv_iload_n C.1 C.2.1 dX9_init_234 rfl (lv_at hl 0 rfl) ?_
  refine lv_iconst (v := (-1 : Int32)) C.1 C.2.1 dX9_init_235 (by decide) ?_
  refine rc_iast C hG (c0 := 26) (n := 4) (i := 0) (by omega) ((va_up_ne _ _ (by omega)).trans (va_up_self _ _ _)) (by omega) (by omega) (E' := (va_up (va_up (entM G B w0M) 26 (.inl (gI G, 4, .inl (lz 1)))) 0 (.inr (9, [.ref (B + 1), .ref (B + 2), .int 0, .int 0, .int 0, .ref (B + 3), .ref (B + 4), .ref (B + 5), .ref (B + 6), .ref (B + 7), .ref (B + 8), .ref (B + 9), .ref (B + 10), .ref (B + 11), .ref (B + 12), .int 0, .ref (B + 13), .int 0, .ref (B + 14), .ref (B + 15), .ref (B + 16), .ref (B + 17), .ref (B + 18), .int 0, .ref (B + 19), .ref (B + 20), .ref (B + 21), .ref (B + 22), .ref (B + 23), .int 0, .ref (B + 24), .ref (B + 25), .int 0, .ref (B + 26), .ref (B + 27)])))) ((congrArg (fun f => va_up _ _ (.inl (gI G, 4, .inl f))) lz_s).trans (up_in1 (by omega))) dX9_init_236 (fun H locs hG => ?_)
  refine lv_iinc (v := nI 1) (lv' := [(1, .int (nI 1)), (0, .ref (B + 0))]) C.1 C.2.1 dX9_init_237 hl (k := 0) rfl (by decide) (by decide) rfl (fun ls hl => ?_)
  refine lv_goto (tgt := 225) C.1 C.2.1 dX9_init_240 (by decide) ?_
  refine lv_iload_n C.1 C.2.1 dX9_init_225 rfl (lv_at hl 0 rfl) ?_
  refine lv_iconst (v := nI 4) C.1 C.2.1 dX9_init_226 (by decide) ?_
  refine lv_icmp_ge (tgt := 243) C.1 C.2.1 dX9_init_227 (by decide) (fun q => absurd q (by decide)) (fun _ => ?_)
  refine lv_aload_n C.1 C.2.1 dX9_init_230 rfl (lv_at hl 1 rfl) ?_
  refine rc_getf C hG (c0 := 0) (by omega) (va_up_self _ _ _) (Cn := RX9) (T := TX9) (Nk := 35) rfl (fun x hx => List.mem_cons_of_mem _ (uw_X9 x hx)) (i := 33) (Nat.le_of_ble_eq_true rfl) (List.mem_cons_of_mem _ tg_4_117) (v := .ref (B + 26)) rfl dX9_init_231 ?_
  refine lv_iload_n C.1 C.2.1 dX9_init_234 rfl (lv_at hl 0 rfl) ?_
  refine lv_iconst (v := (-1 : Int32)) C.1 C.2.1 dX9_init_235 (by decide) ?_
  refine rc_iast C hG (c0 := 26) (n := 4) (i := 1) (by omega) ((va_up_ne _ _ (by omega)).trans (va_up_self _ _ _)) (by omega) (by omega) (E' := (va_up (va_up (entM G B w0M) 26 (.inl (gI G, 4, .inl (lz 2)))) 0 (.inr (9, [.ref (B + 1), .ref (B + 2), .int 0, .int 0, .int 0, .ref (B + 3), .ref (B + 4), .ref (B + 5), .ref (B + 6), .ref (B + 7), .ref (B + 8), .ref (B + 9), .ref (B + 10), .ref (B + 11), .ref (B + 12), .int 0, .ref (B + 13), .int 0, .ref (B + 14), .ref (B + 15), .ref (B + 16), .ref (B + 17), .ref (B + 18), .int 0, .ref (B + 19), .ref (B + 20), .ref (B + 21), .ref (B + 22), .ref (B + 23), .int 0, .ref (B + 24), .ref (B + 25), .int 0, .ref (B + 26), .ref (B + 27)])))) ((congrArg (fun f => va_up _ _ (.inl (gI G, 4, .inl f))) lz_s).trans (up_in1 (by omega))) dX9_init_236 (fun H locs hG => ?_)
  refine lv_iinc (v := nI 2) (lv' := [(1, .int (nI 2)), (0, .ref (B + 0))]) C.1 C.2.1 dX9_init_237 hl (k := 0) rfl (by decide) (by decide) rfl (fun ls hl => ?_)
  refine lv_goto (tgt := 225) C.1 C.2.1 dX9_init_240 (by decide) ?_
  refine lv_iload_n C.1 C.2.1 dX9_init_225 rfl (lv_at hl 0 rfl) ?_
  refine lv_iconst (v := nI 4) C.1 C.2.1 dX9_init_226 (by decide) ?_
  refine lv_icmp_ge (tgt := 243) C.1 C.2.1 dX9_init_227 (by decide) (fun q => absurd q (by decide)) (fun _ => ?_)
  refine lv_aload_n C.1 C.2.1 dX9_init_230 rfl (lv_at hl 1 rfl) ?_
  refine rc_getf C hG (c0 := 0) (by omega) (va_up_self _ _ _) (Cn := RX9) (T := TX9) (Nk := 35) rfl (fun x hx => List.mem_cons_of_mem _ (uw_X9 x hx)) (i := 33) (Nat.le_of_ble_eq_true rfl) (List.mem_cons_of_mem _ tg_4_117) (v := .ref (B + 26)) rfl dX9_init_231 ?_
  refine lv_iload_n C.1 C.2.1 dX9_init_234 rfl (lv_at hl 0 rfl) ?_
  refine lv_iconst (v := (-1 : Int32)) C.1 C.2.1 dX9_init_235 (by decide) ?_
  refine rc_iast C hG (c0 := 26) (n := 4) (i := 2) (by omega) ((va_up_ne _ _ (by omega)).trans (va_up_self _ _ _)) (by omega) (by omega) (E' := (va_up (va_up (entM G B w0M) 26 (.inl (gI G, 4, .inl (lz 3)))) 0 (.inr (9, [.ref (B + 1), .ref (B + 2), .int 0, .int 0, .int 0, .ref (B + 3), .ref (B + 4), .ref (B + 5), .ref (B + 6), .ref (B + 7), .ref (B + 8), .ref (B + 9), .ref (B + 10), .ref (B + 11), .ref (B + 12), .int 0, .ref (B + 13), .int 0, .ref (B + 14), .ref (B + 15), .ref (B + 16), .ref (B + 17), .ref (B + 18), .int 0, .ref (B + 19), .ref (B + 20), .ref (B + 21), .ref (B + 22), .ref (B + 23), .int 0, .ref (B + 24), .ref (B + 25), .int 0, .ref (B + 26), .ref (B + 27)])))) ((congrArg (fun f => va_up _ _ (.inl (gI G, 4, .inl f))) lz_s).trans (up_in1 (by omega))) dX9_init_236 (fun H locs hG => ?_)
  refine lv_iinc (v := nI 3) (lv' := [(1, .int (nI 3)), (0, .ref (B + 0))]) C.1 C.2.1 dX9_init_237 hl (k := 0) rfl (by decide) (by decide) rfl (fun ls hl => ?_)
  refine lv_goto (tgt := 225) C.1 C.2.1 dX9_init_240 (by decide) ?_
  refine lv_iload_n C.1 C.2.1 dX9_init_225 rfl (lv_at hl 0 rfl) ?_
  refine lv_iconst (v := nI 4) C.1 C.2.1 dX9_init_226 (by decide) ?_
  refine lv_icmp_ge (tgt := 243) C.1 C.2.1 dX9_init_227 (by decide) (fun q => absurd q (by decide)) (fun _ => ?_)
  refine lv_aload_n C.1 C.2.1 dX9_init_230 rfl (lv_at hl 1 rfl) ?_
  refine rc_getf C hG (c0 := 0) (by omega) (va_up_self _ _ _) (Cn := RX9) (T := TX9) (Nk := 35) rfl (fun x hx => List.mem_cons_of_mem _ (uw_X9 x hx)) (i := 33) (Nat.le_of_ble_eq_true rfl) (List.mem_cons_of_mem _ tg_4_117) (v := .ref (B + 26)) rfl dX9_init_231 ?_
  refine lv_iload_n C.1 C.2.1 dX9_init_234 rfl (lv_at hl 0 rfl) ?_
  refine lv_iconst (v := (-1 : Int32)) C.1 C.2.1 dX9_init_235 (by decide) ?_
  refine rc_iast C hG (c0 := 26) (n := 4) (i := 3) (by omega) ((va_up_ne _ _ (by omega)).trans (va_up_self _ _ _)) (by omega) (by omega) (E' := (va_up (va_up (entM G B w0M) 26 (.inl (gI G, 4, .inl (lz 4)))) 0 (.inr (9, [.ref (B + 1), .ref (B + 2), .int 0, .int 0, .int 0, .ref (B + 3), .ref (B + 4), .ref (B + 5), .ref (B + 6), .ref (B + 7), .ref (B + 8), .ref (B + 9), .ref (B + 10), .ref (B + 11), .ref (B + 12), .int 0, .ref (B + 13), .int 0, .ref (B + 14), .ref (B + 15), .ref (B + 16), .ref (B + 17), .ref (B + 18), .int 0, .ref (B + 19), .ref (B + 20), .ref (B + 21), .ref (B + 22), .ref (B + 23), .int 0, .ref (B + 24), .ref (B + 25), .int 0, .ref (B + 26), .ref (B + 27)])))) ((congrArg (fun f => va_up _ _ (.inl (gI G, 4, .inl f))) lz_s).trans (up_in1 (by omega))) dX9_init_236 (fun H locs hG => ?_)
  refine lv_iinc (v := nI 4) (lv' := [(1, .int (nI 4)), (0, .ref (B + 0))]) C.1 C.2.1 dX9_init_237 hl (k := 0) rfl (by decide) (by decide) rfl (fun ls hl => ?_)
  refine lv_goto (tgt := 225) C.1 C.2.1 dX9_init_240 (by decide) ?_
  refine lv_iload_n C.1 C.2.1 dX9_init_225 rfl (lv_at hl 0 rfl) ?_
  refine lv_iconst (v := nI 4) C.1 C.2.1 dX9_init_226 (by decide) ?_
  refine lv_icmp_ge (tgt := 243) C.1 C.2.1 dX9_init_227 (by decide) (fun _ => ?_) (fun q => absurd (by decide) q)
  exact rc_ret C hG (fun c _ => congrFun ((up_id (x := _) ((va_up_ne _ _ (by omega)).trans ((entM_O rfl).trans (by rw [fs0_X9])))).trans (up_id ((entM_I (n := 4) rfl).trans rfl))) c) dX9_init_243
