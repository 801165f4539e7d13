theorem dX8_cats_0 : decode cX8_cats 0 = .ok (.aload_n 0, 1) := by decide +kernel
theorem dX8_cats_1 : decode cX8_cats 1 = .ok (.iconst 0, 1) := by decide +kernel
theorem dX8_cats_2 : decode cX8_cats 2 = .ok (.putfield 82, 3) := by decide +kernel
theorem dX8_cats_5 : decode cX8_cats 5 = .ok (.aload_n 0, 1) := by decide +kernel
theorem dX8_cats_6 : decode cX8_cats 6 = .ok (.bipush 31, 2) := by decide +kernel
theorem dX8_cats_8 : decode cX8_cats 8 = .ok (.invokevirtual 147, 3) := by decide +kernel
theorem dX8_cats_11 : decode cX8_cats 11 = .ok (.aload_n 0, 1) := by decide +kernel
theorem dX8_cats_12 : decode cX8_cats 12 = .ok (.getfield 105, 3) := by decide +kernel
theorem dX8_cats_15 : decode cX8_cats 15 = .ok (.ifCond .ne 5, 3) := by decide +kernel
theorem dX8_cats_18 : decode cX8_cats 18 = .ok (.iconst 0, 1) := by decide +kernel
theorem dX8_cats_19 : decode cX8_cats 19 = .ok (.ireturn, 1) := by decide +kernel
theorem dX8_cats_20 : decode cX8_cats 20 = .ok (.iconst 0, 1) := by decide +kernel
theorem dX8_cats_21 : decode cX8_cats 21 = .ok (.istore_n 1, 1) := by decide +kernel
theorem dX8_cats_22 : decode cX8_cats 22 = .ok (.iconst 1, 1) := by decide +kernel
theorem dX8_cats_23 : decode cX8_cats 23 = .ok (.istore_n 2, 1) := by decide +kernel
theorem dX8_cats_24 : decode cX8_cats 24 = .ok (.iload_n 2, 1) := by decide +kernel
theorem dX8_cats_25 : decode cX8_cats 25 = .ok (.ifCond .eq 99, 3) := by decide +kernel
theorem dX8_cats_28 : decode cX8_cats 28 = .ok (.aload_n 0, 1) := by decide +kernel
theorem dX8_cats_29 : decode cX8_cats 29 = .ok (.invokevirtual 121, 3) := by decide +kernel
theorem dX8_cats_32 : decode cX8_cats 32 = .ok (.ifCond .eq 92, 3) := by decide +kernel
theorem dX8_cats_35 : decode cX8_cats 35 = .ok (.aload_n 0, 1) := by decide +kernel
theorem dX8_cats_36 : decode cX8_cats 36 = .ok (.getfield 96, 3) := by decide +kernel
theorem dX8_cats_39 : decode cX8_cats 39 = .ok (.iload_n 1, 1) := by decide +kernel
theorem dX8_cats_40 : decode cX8_cats 40 = .ok (.iadd, 1) := by decide +kernel
theorem dX8_cats_41 : decode cX8_cats 41 = .ok (.bipush 8, 2) := by decide +kernel
theorem dX8_cats_43 : decode cX8_cats 43 = .ok (.if_icmp .ne 14, 3) := by decide +kernel
theorem dX8_cats_46 : decode cX8_cats 46 = .ok (.aload_n 0, 1) := by decide +kernel
theorem dX8_cats_47 : decode cX8_cats 47 = .ok (.aload_n 0, 1) := by decide +kernel
theorem dX8_cats_48 : decode cX8_cats 48 = .ok (.getfield 111, 3) := by decide +kernel
theorem dX8_cats_51 : decode cX8_cats 51 = .ok (.invokevirtual 133, 3) := by decide +kernel
theorem dX8_cats_54 : decode cX8_cats 54 = .ok (.goto 57, 3) := by decide +kernel
theorem dX8_cats_57 : decode cX8_cats 57 = .ok (.aload_n 0, 1) := by decide +kernel
theorem dX8_cats_58 : decode cX8_cats 58 = .ok (.getfield 21, 3) := by decide +kernel
theorem dX8_cats_61 : decode cX8_cats 61 = .ok (.iconst 3, 1) := by decide +kernel
theorem dX8_cats_62 : decode cX8_cats 62 = .ok (.iload_n 1, 1) := by decide +kernel
theorem dX8_cats_63 : decode cX8_cats 63 = .ok (.imul, 1) := by decide +kernel
theorem dX8_cats_64 : decode cX8_cats 64 = .ok (.aload_n 0, 1) := by decide +kernel
theorem dX8_cats_65 : decode cX8_cats 65 = .ok (.bipush 48, 2) := by decide +kernel
theorem dX8_cats_67 : decode cX8_cats 67 = .ok (.bipush 10, 2) := by decide +kernel
theorem dX8_cats_69 : decode cX8_cats 69 = .ok (.invokevirtual 137, 3) := by decide +kernel
theorem dX8_cats_72 : decode cX8_cats 72 = .ok (.iastore, 1) := by decide +kernel
theorem dX8_cats_73 : decode cX8_cats 73 = .ok (.aload_n 0, 1) := by decide +kernel
theorem dX8_cats_74 : decode cX8_cats 74 = .ok (.getfield 21, 3) := by decide +kernel
theorem dX8_cats_77 : decode cX8_cats 77 = .ok (.iconst 3, 1) := by decide +kernel
theorem dX8_cats_78 : decode cX8_cats 78 = .ok (.iload_n 1, 1) := by decide +kernel
theorem dX8_cats_79 : decode cX8_cats 79 = .ok (.imul, 1) := by decide +kernel
theorem dX8_cats_80 : decode cX8_cats 80 = .ok (.iconst 1, 1) := by decide +kernel
theorem dX8_cats_81 : decode cX8_cats 81 = .ok (.iadd, 1) := by decide +kernel
theorem dX8_cats_82 : decode cX8_cats 82 = .ok (.aload_n 0, 1) := by decide +kernel
theorem dX8_cats_83 : decode cX8_cats 83 = .ok (.bipush 48, 2) := by decide +kernel
theorem dX8_cats_85 : decode cX8_cats 85 = .ok (.bipush 10, 2) := by decide +kernel
theorem dX8_cats_87 : decode cX8_cats 87 = .ok (.invokevirtual 137, 3) := by decide +kernel
theorem dX8_cats_90 : decode cX8_cats 90 = .ok (.iastore, 1) := by decide +kernel
theorem dX8_cats_91 : decode cX8_cats 91 = .ok (.aload_n 0, 1) := by decide +kernel
theorem dX8_cats_92 : decode cX8_cats 92 = .ok (.getfield 21, 3) := by decide +kernel
theorem dX8_cats_95 : decode cX8_cats 95 = .ok (.iconst 3, 1) := by decide +kernel
theorem dX8_cats_96 : decode cX8_cats 96 = .ok (.iload_n 1, 1) := by decide +kernel
theorem dX8_cats_97 : decode cX8_cats 97 = .ok (.imul, 1) := by decide +kernel
theorem dX8_cats_98 : decode cX8_cats 98 = .ok (.iconst 2, 1) := by decide +kernel
theorem dX8_cats_99 : decode cX8_cats 99 = .ok (.iadd, 1) := by decide +kernel
theorem dX8_cats_100 : decode cX8_cats 100 = .ok (.aload_n 0, 1) := by decide +kernel
theorem dX8_cats_101 : decode cX8_cats 101 = .ok (.bipush 48, 2) := by decide +kernel
theorem dX8_cats_103 : decode cX8_cats 103 = .ok (.aload_n 0, 1) := by decide +kernel
theorem dX8_cats_104 : decode cX8_cats 104 = .ok (.getfield 89, 3) := by decide +kernel
theorem dX8_cats_107 : decode cX8_cats 107 = .ok (.invokevirtual 137, 3) := by decide +kernel
theorem dX8_cats_110 : decode cX8_cats 110 = .ok (.iastore, 1) := by decide +kernel
theorem dX8_cats_111 : decode cX8_cats 111 = .ok (.iinc 1 1, 3) := by decide +kernel
theorem dX8_cats_114 : decode cX8_cats 114 = .ok (.aload_n 0, 1) := by decide +kernel
theorem dX8_cats_115 : decode cX8_cats 115 = .ok (.bipush 59, 2) := by decide +kernel
theorem dX8_cats_117 : decode cX8_cats 117 = .ok (.invokevirtual 129, 3) := by decide +kernel
theorem dX8_cats_120 : decode cX8_cats 120 = .ok (.istore_n 2, 1) := by decide +kernel
theorem dX8_cats_121 : decode cX8_cats 121 = .ok (.goto (-97), 3) := by decide +kernel
theorem dX8_cats_124 : decode cX8_cats 124 = .ok (.aload_n 0, 1) := by decide +kernel
theorem dX8_cats_125 : decode cX8_cats 125 = .ok (.invokevirtual 150, 3) := by decide +kernel
theorem dX8_cats_128 : decode cX8_cats 128 = .ok (.ifCond .ne 10, 3) := by decide +kernel
theorem dX8_cats_131 : decode cX8_cats 131 = .ok (.iconst (-1), 1) := by decide +kernel
theorem dX8_cats_132 : decode cX8_cats 132 = .ok (.aload_n 0, 1) := by decide +kernel
theorem dX8_cats_133 : decode cX8_cats 133 = .ok (.getfield 114, 3) := by decide +kernel
theorem dX8_cats_136 : decode cX8_cats 136 = .ok (.isub, 1) := by decide +kernel
theorem dX8_cats_137 : decode cX8_cats 137 = .ok (.ireturn, 1) := by decide +kernel
theorem dX8_cats_138 : decode cX8_cats 138 = .ok (.iconst 0, 1) := by decide +kernel
theorem dX8_cats_139 : decode cX8_cats 139 = .ok (.istore_n 3, 1) := by decide +kernel
theorem dX8_cats_140 : decode cX8_cats 140 = .ok (.iload_n 3, 1) := by decide +kernel
theorem dX8_cats_141 : decode cX8_cats 141 = .ok (.iload_n 1, 1) := by decide +kernel
theorem dX8_cats_142 : decode cX8_cats 142 = .ok (.if_icmp .ge 96, 3) := by decide +kernel
theorem dX8_cats_145 : decode cX8_cats 145 = .ok (.aload_n 0, 1) := by decide +kernel
theorem dX8_cats_146 : decode cX8_cats 146 = .ok (.getfield 9, 3) := by decide +kernel
theorem dX8_cats_149 : decode cX8_cats 149 = .ok (.bipush 12, 2) := by decide +kernel
theorem dX8_cats_151 : decode cX8_cats 151 = .ok (.aload_n 0, 1) := by decide +kernel
theorem dX8_cats_152 : decode cX8_cats 152 = .ok (.getfield 96, 3) := by decide +kernel
theorem dX8_cats_155 : decode cX8_cats 155 = .ok (.iadd, 1) := by decide +kernel
theorem dX8_cats_156 : decode cX8_cats 156 = .ok (.aload_n 0, 1) := by decide +kernel
theorem dX8_cats_157 : decode cX8_cats 157 = .ok (.getfield 21, 3) := by decide +kernel
theorem dX8_cats_160 : decode cX8_cats 160 = .ok (.iconst 3, 1) := by decide +kernel
theorem dX8_cats_161 : decode cX8_cats 161 = .ok (.iload_n 3, 1) := by decide +kernel
theorem dX8_cats_162 : decode cX8_cats 162 = .ok (.imul, 1) := by decide +kernel
theorem dX8_cats_163 : decode cX8_cats 163 = .ok (.iaload, 1) := by decide +kernel
theorem dX8_cats_164 : decode cX8_cats 164 = .ok (.iastore, 1) := by decide +kernel
theorem dX8_cats_165 : decode cX8_cats 165 = .ok (.aload_n 0, 1) := by decide +kernel
theorem dX8_cats_166 : decode cX8_cats 166 = .ok (.getfield 9, 3) := by decide +kernel
theorem dX8_cats_169 : decode cX8_cats 169 = .ok (.bipush 20, 2) := by decide +kernel
theorem dX8_cats_171 : decode cX8_cats 171 = .ok (.aload_n 0, 1) := by decide +kernel
theorem dX8_cats_172 : decode cX8_cats 172 = .ok (.getfield 96, 3) := by decide +kernel
theorem dX8_cats_175 : decode cX8_cats 175 = .ok (.iadd, 1) := by decide +kernel
theorem dX8_cats_176 : decode cX8_cats 176 = .ok (.aload_n 0, 1) := by decide +kernel
theorem dX8_cats_177 : decode cX8_cats 177 = .ok (.getfield 21, 3) := by decide +kernel
theorem dX8_cats_180 : decode cX8_cats 180 = .ok (.iconst 3, 1) := by decide +kernel
theorem dX8_cats_181 : decode cX8_cats 181 = .ok (.iload_n 3, 1) := by decide +kernel
theorem dX8_cats_182 : decode cX8_cats 182 = .ok (.imul, 1) := by decide +kernel
theorem dX8_cats_183 : decode cX8_cats 183 = .ok (.iconst 1, 1) := by decide +kernel
theorem dX8_cats_184 : decode cX8_cats 184 = .ok (.iadd, 1) := by decide +kernel
theorem dX8_cats_185 : decode cX8_cats 185 = .ok (.iaload, 1) := by decide +kernel
theorem dX8_cats_186 : decode cX8_cats 186 = .ok (.iastore, 1) := by decide +kernel
theorem dX8_cats_187 : decode cX8_cats 187 = .ok (.aload_n 0, 1) := by decide +kernel
theorem dX8_cats_188 : decode cX8_cats 188 = .ok (.getfield 9, 3) := by decide +kernel
theorem dX8_cats_191 : decode cX8_cats 191 = .ok (.bipush 28, 2) := by decide +kernel
theorem dX8_cats_193 : decode cX8_cats 193 = .ok (.aload_n 0, 1) := by decide +kernel
theorem dX8_cats_194 : decode cX8_cats 194 = .ok (.getfield 96, 3) := by decide +kernel
theorem dX8_cats_197 : decode cX8_cats 197 = .ok (.iadd, 1) := by decide +kernel
theorem dX8_cats_198 : decode cX8_cats 198 = .ok (.iconst 0, 1) := by decide +kernel
theorem dX8_cats_199 : decode cX8_cats 199 = .ok (.iastore, 1) := by decide +kernel
theorem dX8_cats_200 : decode cX8_cats 200 = .ok (.aload_n 0, 1) := by decide +kernel
theorem dX8_cats_201 : decode cX8_cats 201 = .ok (.getfield 9, 3) := by decide +kernel
theorem dX8_cats_204 : decode cX8_cats 204 = .ok (.bipush 36, 2) := by decide +kernel
theorem dX8_cats_206 : decode cX8_cats 206 = .ok (.aload_n 0, 1) := by decide +kernel
theorem dX8_cats_207 : decode cX8_cats 207 = .ok (.getfield 96, 3) := by decide +kernel
theorem dX8_cats_210 : decode cX8_cats 210 = .ok (.iadd, 1) := by decide +kernel
theorem dX8_cats_211 : decode cX8_cats 211 = .ok (.aload_n 0, 1) := by decide +kernel
theorem dX8_cats_212 : decode cX8_cats 212 = .ok (.getfield 21, 3) := by decide +kernel
theorem dX8_cats_215 : decode cX8_cats 215 = .ok (.iconst 3, 1) := by decide +kernel
theorem dX8_cats_216 : decode cX8_cats 216 = .ok (.iload_n 3, 1) := by decide +kernel
theorem dX8_cats_217 : decode cX8_cats 217 = .ok (.imul, 1) := by decide +kernel
theorem dX8_cats_218 : decode cX8_cats 218 = .ok (.iconst 2, 1) := by decide +kernel
theorem dX8_cats_219 : decode cX8_cats 219 = .ok (.iadd, 1) := by decide +kernel
theorem dX8_cats_220 : decode cX8_cats 220 = .ok (.iaload, 1) := by decide +kernel
theorem dX8_cats_221 : decode cX8_cats 221 = .ok (.iastore, 1) := by decide +kernel
theorem dX8_cats_222 : decode cX8_cats 222 = .ok (.aload_n 0, 1) := by decide +kernel
theorem dX8_cats_223 : decode cX8_cats 223 = .ok (.dup, 1) := by decide +kernel
theorem dX8_cats_224 : decode cX8_cats 224 = .ok (.getfield 96, 3) := by decide +kernel
theorem dX8_cats_227 : decode cX8_cats 227 = .ok (.iconst 1, 1) := by decide +kernel
theorem dX8_cats_228 : decode cX8_cats 228 = .ok (.iadd, 1) := by decide +kernel
theorem dX8_cats_229 : decode cX8_cats 229 = .ok (.putfield 96, 3) := by decide +kernel
theorem dX8_cats_232 : decode cX8_cats 232 = .ok (.iinc 3 1, 3) := by decide +kernel
theorem dX8_cats_235 : decode cX8_cats 235 = .ok (.goto (-95), 3) := by decide +kernel
theorem dX8_cats_238 : decode cX8_cats 238 = .ok (.aload_n 0, 1) := by decide +kernel
theorem dX8_cats_239 : decode cX8_cats 239 = .ok (.invokevirtual 153, 3) := by decide +kernel
theorem dX8_cats_242 : decode cX8_cats 242 = .ok (.iload_n 1, 1) := by decide +kernel
theorem dX8_cats_243 : decode cX8_cats 243 = .ok (.ireturn, 1) := by decide +kernel
noncomputable def p_X8_cats_140 (F : Nat) (x_came : Int32) (u_8 : (Int32 × Int32 × Int32 × Int32 × Int32)) (u_125 : Int32) (y1_24 : Int32) (x_at_24 : Int32) (f_told_24 : Nat → Int32) (Post : Int32 → (Int32 × Int32 × Int32 × Int32 × Int32 × Int32 × Int32 × Int32 × Int32 × (Nat → Int32) × (Nat → Int32)) → Prop) (n : Nat) : Int32 → Int32 → (Nat → Int32) → Prop := Nat.rec (motive := fun _ => Int32 → Int32 → (Nat → Int32) → Prop) (fun _ _ _ => False) (fun _ k140 => fun (y3_140 : Int32) (x_cats_140 : Int32) (f_now_140 : Nat → Int32) => ((y1_24 ≤ y3_140 → (p_X8_toldAnew F x_came (fun (u_239 : (Int32 × Int32)) => (Post y1_24 (x_cats_140, u_8.1, (0 : Int32), u_8.2.1, u_8.2.2.1, x_at_24, u_125, u_239.1, u_239.2, f_told_24, f_now_140))))) ∧ (¬ y1_24 ≤ y3_140 → (vp_in ((3 : Int32) * y3_140) 24 ∧ (vp_in ((12 : Int32) + x_cats_140) 47 ∧ (vp_in (((3 : Int32) * y3_140) + (1 : Int32)) 24 ∧ (vp_in ((20 : Int32) + x_cats_140) 47 ∧ (vp_in ((28 : Int32) + x_cats_140) 47 ∧ (vp_in (((3 : Int32) * y3_140) + (2 : Int32)) 24 ∧ (vp_in ((36 : Int32) + x_cats_140) 47 ∧ (k140 (y3_140 + (1 : Int32)) (x_cats_140 + (1 : Int32)) (upd (upd (upd (upd f_now_140 ((12 : Int32) + x_cats_140).toNatClampNeg (f_told_24 ((3 : Int32) * y3_140).toNatClampNeg)) ((20 : Int32) + x_cats_140).toNatClampNeg (f_told_24 (((3 : Int32) * y3_140) + (1 : Int32)).toNatClampNeg)) ((28 : Int32) + x_cats_140).toNatClampNeg (0 : Int32)) ((36 : Int32) + x_cats_140).toNatClampNeg (f_told_24 (((3 : Int32) * y3_140) + (2 : Int32)).toNatClampNeg))))))))))))) n
theorem p_X8_cats_140_s (F : Nat) (x_came : Int32) (u_8 : (Int32 × Int32 × Int32 × Int32 × Int32)) (u_125 : Int32) (y1_24 : Int32) (x_at_24 : Int32) (f_told_24 : Nat → Int32) (Post : Int32 → (Int32 × Int32 × Int32 × Int32 × Int32 × Int32 × Int32 × Int32 × Int32 × (Nat → Int32) × (Nat → Int32)) → Prop) (n : Nat) (y3_140 : Int32) (x_cats_140 : Int32) (f_now_140 : Nat → Int32) : p_X8_cats_140 F x_came u_8 u_125 y1_24 x_at_24 f_told_24 Post (n + 1) y3_140 x_cats_140 f_now_140 = ((y1_24 ≤ y3_140 → (p_X8_toldAnew F x_came (fun (u_239 : (Int32 × Int32)) => (Post y1_24 (x_cats_140, u_8.1, (0 : Int32), u_8.2.1, u_8.2.2.1, x_at_24, u_125, u_239.1, u_239.2, f_told_24, f_now_140))))) ∧ (¬ y1_24 ≤ y3_140 → (vp_in ((3 : Int32) * y3_140) 24 ∧ (vp_in ((12 : Int32) + x_cats_140) 47 ∧ (vp_in (((3 : Int32) * y3_140) + (1 : Int32)) 24 ∧ (vp_in ((20 : Int32) + x_cats_140) 47 ∧ (vp_in ((28 : Int32) + x_cats_140) 47 ∧ (vp_in (((3 : Int32) * y3_140) + (2 : Int32)) 24 ∧ (vp_in ((36 : Int32) + x_cats_140) 47 ∧ ((p_X8_cats_140 F x_came u_8 u_125 y1_24 x_at_24 f_told_24 Post n) (y3_140 + (1 : Int32)) (x_cats_140 + (1 : Int32)) (upd (upd (upd (upd f_now_140 ((12 : Int32) + x_cats_140).toNatClampNeg (f_told_24 ((3 : Int32) * y3_140).toNatClampNeg)) ((20 : Int32) + x_cats_140).toNatClampNeg (f_told_24 (((3 : Int32) * y3_140) + (1 : Int32)).toNatClampNeg)) ((28 : Int32) + x_cats_140).toNatClampNeg (0 : Int32)) ((36 : Int32) + x_cats_140).toNatClampNeg (f_told_24 (((3 : Int32) * y3_140) + (2 : Int32)).toNatClampNeg)))))))))))) := rfl
def p_X8_cats_124 (F : Nat) (x_cats : Int32) (x_undoMany : Int32) (x_came : Int32) (f_now : Nat → Int32) (u_8 : (Int32 × Int32 × Int32 × Int32 × Int32)) (y1_24 : Int32) (x_at_24 : Int32) (x_wrong_24 : Int32) (f_told_24 : Nat → Int32) (Post : Int32 → (Int32 × Int32 × Int32 × Int32 × Int32 × Int32 × Int32 × Int32 × Int32 × (Nat → Int32) × (Nat → Int32)) → Prop) : Prop := (p_X8_wasRight F u_8.2.1 x_at_24 x_wrong_24 (fun (r_125 : Int32) (u_125 : Int32) => ((¬ r_125 = 0 → (p_X8_cats_140 F x_came u_8 u_125 y1_24 x_at_24 f_told_24 Post F (0 : Int32) x_cats f_now)) ∧ (r_125 = 0 → (Post ((-1 : Int32) - u_125) (x_cats, u_8.1, (0 : Int32), u_8.2.1, u_8.2.2.1, x_at_24, u_125, x_undoMany, x_came, f_told_24, f_now))))))
def p_X8_cats_111 (F : Nat) (f_text : Nat → Int32) (u_8 : (Int32 × Int32 × Int32 × Int32 × Int32)) (y1_24 : Int32) (k24 : Int32 → Int32 → Int32 → Int32 → (Nat → Int32) → Prop) (Post : Int32 → (Int32 × Int32 × Int32 × Int32 × Int32 × Int32 × Int32 × Int32 × Int32 × (Nat → Int32) × (Nat → Int32)) → Prop) (x_at_111 : Int32) (x_wrong_111 : Int32) (f_told_111 : Nat → Int32) : Prop := (p_X8_passes F (59 : Int32) u_8.2.1 u_8.2.2.1 x_at_111 x_wrong_111 80 f_text (fun (r_117 : Int32) (u_117 : Int32) => (k24 r_117 (y1_24 + (1 : Int32)) u_117 x_wrong_111 f_told_111)))
noncomputable def p_X8_cats_24 (F : Nat) (x_arches : Int32) (x_cats : Int32) (x_undoMany : Int32) (x_came : Int32) (f_text : Nat → Int32) (f_now : Nat → Int32) (u_8 : (Int32 × Int32 × Int32 × Int32 × Int32)) (Post : Int32 → (Int32 × Int32 × Int32 × Int32 × Int32 × Int32 × Int32 × Int32 × Int32 × (Nat → Int32) × (Nat → Int32)) → Prop) (n : Nat) : Int32 → Int32 → Int32 → Int32 → (Nat → Int32) → Prop := Nat.rec (motive := fun _ => Int32 → Int32 → Int32 → Int32 → (Nat → Int32) → Prop) (fun _ _ _ _ _ => False) (fun _ k24 => fun (y2_24 : Int32) (y1_24 : Int32) (x_at_24 : Int32) (x_wrong_24 : Int32) (f_told_24 : Nat → Int32) => ((y2_24 = 0 → (p_X8_cats_124 F x_cats x_undoMany x_came f_now u_8 y1_24 x_at_24 x_wrong_24 f_told_24 Post )) ∧ (¬ y2_24 = 0 → (p_X8_fine F x_wrong_24 (fun (r_29 : Int32) => ((r_29 = 0 → (p_X8_cats_124 F x_cats x_undoMany x_came f_now u_8 y1_24 x_at_24 x_wrong_24 f_told_24 Post )) ∧ (¬ r_29 = 0 → ((¬ (x_cats + y1_24) = (8 : Int32) → (p_X8_oneOf F (48 : Int32) (10 : Int32) u_8.2.1 u_8.2.2.1 x_at_24 x_wrong_24 80 f_text (fun (r_69 : Int32) (u_69 : (Int32 × Int32)) => (vp_in ((3 : Int32) * y1_24) 24 ∧ (p_X8_oneOf F (48 : Int32) (10 : Int32) u_8.2.1 u_8.2.2.1 u_69.1 u_69.2 80 f_text (fun (r_87 : Int32) (u_87 : (Int32 × Int32)) => (vp_in (((3 : Int32) * y1_24) + (1 : Int32)) 24 ∧ (p_X8_oneOf F (48 : Int32) x_arches u_8.2.1 u_8.2.2.1 u_87.1 u_87.2 80 f_text (fun (r_107 : Int32) (u_107 : (Int32 × Int32)) => (vp_in (((3 : Int32) * y1_24) + (2 : Int32)) 24 ∧ (p_X8_cats_111 F f_text u_8 y1_24 k24 Post u_107.1 u_107.2 (upd (upd (upd f_told_24 ((3 : Int32) * y1_24).toNatClampNeg r_69) (((3 : Int32) * y1_24) + (1 : Int32)).toNatClampNeg r_87) (((3 : Int32) * y1_24) + (2 : Int32)).toNatClampNeg r_107)))))))))))) ∧ ((x_cats + y1_24) = (8 : Int32) → (p_X8_fault F x_at_24 x_wrong_24 (fun (u_51 : Int32) => (p_X8_cats_111 F f_text u_8 y1_24 k24 Post x_at_24 u_51 f_told_24)))))))))))) n
theorem p_X8_cats_24_s (F : Nat) (x_arches : Int32) (x_cats : Int32) (x_undoMany : Int32) (x_came : Int32) (f_text : Nat → Int32) (f_now : Nat → Int32) (u_8 : (Int32 × Int32 × Int32 × Int32 × Int32)) (Post : Int32 → (Int32 × Int32 × Int32 × Int32 × Int32 × Int32 × Int32 × Int32 × Int32 × (Nat → Int32) × (Nat → Int32)) → Prop) (n : Nat) (y2_24 : Int32) (y1_24 : Int32) (x_at_24 : Int32) (x_wrong_24 : Int32) (f_told_24 : Nat → Int32) : p_X8_cats_24 F x_arches x_cats x_undoMany x_came f_text f_now u_8 Post (n + 1) y2_24 y1_24 x_at_24 x_wrong_24 f_told_24 = ((y2_24 = 0 → (p_X8_cats_124 F x_cats x_undoMany x_came f_now u_8 y1_24 x_at_24 x_wrong_24 f_told_24 Post )) ∧ (¬ y2_24 = 0 → (p_X8_fine F x_wrong_24 (fun (r_29 : Int32) => ((r_29 = 0 → (p_X8_cats_124 F x_cats x_undoMany x_came f_now u_8 y1_24 x_at_24 x_wrong_24 f_told_24 Post )) ∧ (¬ r_29 = 0 → ((¬ (x_cats + y1_24) = (8 : Int32) → (p_X8_oneOf F (48 : Int32) (10 : Int32) u_8.2.1 u_8.2.2.1 x_at_24 x_wrong_24 80 f_text (fun (r_69 : Int32) (u_69 : (Int32 × Int32)) => (vp_in ((3 : Int32) * y1_24) 24 ∧ (p_X8_oneOf F (48 : Int32) (10 : Int32) u_8.2.1 u_8.2.2.1 u_69.1 u_69.2 80 f_text (fun (r_87 : Int32) (u_87 : (Int32 × Int32)) => (vp_in (((3 : Int32) * y1_24) + (1 : Int32)) 24 ∧ (p_X8_oneOf F (48 : Int32) x_arches u_8.2.1 u_8.2.2.1 u_87.1 u_87.2 80 f_text (fun (r_107 : Int32) (u_107 : (Int32 × Int32)) => (vp_in (((3 : Int32) * y1_24) + (2 : Int32)) 24 ∧ (p_X8_cats_111 F f_text u_8 y1_24 (p_X8_cats_24 F x_arches x_cats x_undoMany x_came f_text f_now u_8 Post n) Post u_107.1 u_107.2 (upd (upd (upd f_told_24 ((3 : Int32) * y1_24).toNatClampNeg r_69) (((3 : Int32) * y1_24) + (1 : Int32)).toNatClampNeg r_87) (((3 : Int32) * y1_24) + (2 : Int32)).toNatClampNeg r_107)))))))))))) ∧ ((x_cats + y1_24) = (8 : Int32) → (p_X8_fault F x_at_24 x_wrong_24 (fun (u_51 : Int32) => (p_X8_cats_111 F f_text u_8 y1_24 (p_X8_cats_24 F x_arches x_cats x_undoMany x_came f_text f_now u_8 Post n) Post x_at_24 u_51 f_told_24))))))))))) := rfl
def p_X8_cats (F : Nat) (x_arches : Int32) (x_cats : Int32) (x_typed : Int32) (x_undoMany : Int32) (x_came : Int32) (f_text : Nat → Int32) (f_told : Nat → Int32) (f_now : Nat → Int32) (Post : Int32 → (Int32 × Int32 × Int32 × Int32 × Int32 × Int32 × Int32 × Int32 × Int32 × (Nat → Int32) × (Nat → Int32)) → Prop) : Prop := (p_X8_beginText F (31 : Int32) x_typed (fun (u_8 : (Int32 × Int32 × Int32 × Int32 × Int32)) => ((¬ u_8.2.1 = 0 → (p_X8_cats_24 F x_arches x_cats x_undoMany x_came f_text f_now u_8 Post F (1 : Int32) (0 : Int32) u_8.2.2.2.1 u_8.2.2.2.2 f_told)) ∧ (u_8.2.1 = 0 → (Post (0 : Int32) (x_cats, u_8.1, (0 : Int32), u_8.2.1, u_8.2.2.1, u_8.2.2.2.1, u_8.2.2.2.2, x_undoMany, x_came, f_told, f_now))))))
set_option maxHeartbeats 4000000 in
set_option maxRecDepth 100000 in
theorem c_X8_cats (l : Launch) (D : va_G) (cT : Nat → ClassId) (F : Nat) (h : Nat) (q_now : Nat) (x_arches : Int32) (x_cats : Int32) (q_text : Nat) (x_typed : Int32) (w_row : Value) (x_rowMany : Int32) (x_thrown : Int32) (w_read : Value) (x_length : Int32) (x_top : Int32) (x_at : Int32) (x_wrong : Int32) (q_told : Nat) (w_rule : Value) (w_otherRule : Value) (x_ruleSize : Int32) (x_isAsked : Int32) (w_asked : Value) (w_undos : Value) (x_undoMany : Int32) (w_aside : Value) (w_then : Value) (w_hold : Value) (x_dropped : Int32) (w_acts : Value) (w_guarded : Value) (w_train : Value) (x_trolleyEnd : Int32) (w_feltOf : Value) (w_feltBy : Value) (x_feltMany : Int32) (w_many : Value) (w_heardOf : Value) (w_heardBy : Value) (x_heardMany : Int32) (w_worth : Value) (x_drawn : Int32) (x_came : Int32) (w_kept : Value) (w_isKept : Value) (w_keptCame : Value) (f_text : Nat → Int32) (f_told : Nat → Int32) (f_now : Nat → Int32) (Post : Int32 → (Int32 × Int32 × Int32 × Int32 × Int32 × Int32 × Int32 × Int32 × Int32 × (Nat → Int32) × (Nat → Int32)) → Prop) (hg : p_X8_cats F x_arches x_cats x_typed x_undoMany x_came f_text f_told f_now Post) : MWi l D cT yX8_cats cX8_cats 4 (some .int) 3 63 0 0 [.ref h] [(h, oX8 (.ref q_now) (.int x_arches) (.int x_cats) (.ref q_text) (.int x_typed) w_row (.int x_rowMany) (.int x_thrown) w_read (.int x_length) (.int x_top) (.int x_at) (.int x_wrong) (.ref q_told) w_rule w_otherRule (.int x_ruleSize) (.int x_isAsked) w_asked w_undos (.int x_undoMany) w_aside w_then w_hold (.int x_dropped) w_acts w_guarded w_train (.int x_trolleyEnd) w_feltOf w_feltBy (.int x_feltMany) w_many w_heardOf w_heardBy (.int x_heardMany) w_worth (.int x_drawn) (.int x_came) w_kept w_isKept w_keptCame), (q_text, aB cT 80 f_text), (q_told, aI cT 24 f_told), (q_now, aI cT 47 f_now)] Post (fun (u : (Int32 × Int32 × Int32 × Int32 × Int32 × Int32 × Int32 × Int32 × Int32 × (Nat → Int32) × (Nat → Int32))) => [(h, oX8 (.ref q_now) (.int x_arches) (.int u.1) (.ref q_text) (.int u.2.1) w_row (.int x_rowMany) (.int u.2.2.1) (.ref q_text) (.int u.2.2.2.1) (.int u.2.2.2.2.1) (.int u.2.2.2.2.2.1) (.int u.2.2.2.2.2.2.1) (.ref q_told) w_rule w_otherRule (.int x_ruleSize) (.int x_isAsked) w_asked w_undos (.int u.2.2.2.2.2.2.2.1) w_aside w_then w_hold (.int x_dropped) w_acts w_guarded w_train (.int x_trolleyEnd) w_feltOf w_feltBy (.int x_feltMany) w_many w_heardOf w_heardBy (.int x_heardMany) w_worth (.int x_drawn) (.int u.2.2.2.2.2.2.2.2.1) w_kept w_isKept w_keptCame), (q_text, aB cT 80 f_text), (q_told, aI cT 24 u.2.2.2.2.2.2.2.2.2.1), (q_now, aI cT 47 u.2.2.2.2.2.2.2.2.2.2)]) := by
  refine MWi.of (by decide) (Nat.le_of_ble_eq_true rfl) ?_
  intro p e s m below meth c A hA C0 hnm hr hP hD ls hl
  have hl : lv_has ls 4 [(0, .ref h)] := hl
  have hx := C0.x
  have hb := C0.b
  have hS : va_S A s.heap s.heap [] := va_S.rf
  have hP : va_P D cls9 [(h, oX8 (.ref q_now) (.int x_arches) (.int x_cats) (.ref q_text) (.int x_typed) w_row (.int x_rowMany) (.int x_thrown) w_read (.int x_length) (.int x_top) (.int x_at) (.int x_wrong) (.ref q_told) w_rule w_otherRule (.int x_ruleSize) (.int x_isAsked) w_asked w_undos (.int x_undoMany) w_aside w_then w_hold (.int x_dropped) w_acts w_guarded w_train (.int x_trolleyEnd) w_feltOf w_feltBy (.int x_feltMany) w_many w_heardOf w_heardBy (.int x_heardMany) w_worth (.int x_drawn) (.int x_came) w_kept w_isKept w_keptCame), (q_text, aB cT 80 f_text), (q_told, aI cT 24 f_told), (q_now, aI cT 47 f_now)] s.heap := hP
  have hD : va_D A [(h, oX8 (.ref q_now) (.int x_arches) (.int x_cats) (.ref q_text) (.int x_typed) w_row (.int x_rowMany) (.int x_thrown) w_read (.int x_length) (.int x_top) (.int x_at) (.int x_wrong) (.ref q_told) w_rule w_otherRule (.int x_ruleSize) (.int x_isAsked) w_asked w_undos (.int x_undoMany) w_aside w_then w_hold (.int x_dropped) w_acts w_guarded w_train (.int x_trolleyEnd) w_feltOf w_feltBy (.int x_feltMany) w_many w_heardOf w_heardBy (.int x_heardMany) w_worth (.int x_drawn) (.int x_came) w_kept w_isKept w_keptCame), (q_text, aB cT 80 f_text), (q_told, aI cT 24 f_told), (q_now, aI cT 47 f_now)] := hD
  have L140 : ∀ (u_8 : (Int32 × Int32 × Int32 × Int32 × Int32)) (u_125 : Int32) (y1_24 : Int32) (x_at_24 : Int32) (f_told_24 : Nat → Int32) (n140 : Nat) (y3_140 : Int32) (x_cats_140 : Int32) (f_now_140 : Nat → Int32) (H : Heap) (locs : List Loc) (ls : Array Slot), p_X8_cats_140 F x_came u_8 u_125 y1_24 x_at_24 f_told_24 Post n140 y3_140 x_cats_140 f_now_140 → va_P D cls9 [(h, oX8 (.ref q_now) (.int x_arches) (.int x_cats_140) (.ref q_text) (.int u_8.1) w_row (.int x_rowMany) (.int (0 : Int32)) (.ref q_text) (.int u_8.2.1) (.int u_8.2.2.1) (.int x_at_24) (.int u_125) (.ref q_told) w_rule w_otherRule (.int x_ruleSize) (.int x_isAsked) w_asked w_undos (.int x_undoMany) w_aside w_then w_hold (.int x_dropped) w_acts w_guarded w_train (.int x_trolleyEnd) w_feltOf w_feltBy (.int x_feltMany) w_many w_heardOf w_heardBy (.int x_heardMany) w_worth (.int x_drawn) (.int x_came) w_kept w_isKept w_keptCame), (q_text, aB cT 80 f_text), (q_told, aI cT 24 f_told_24), (q_now, aI cT 47 f_now_140)] H → va_D A [(h, oX8 (.ref q_now) (.int x_arches) (.int x_cats_140) (.ref q_text) (.int u_8.1) w_row (.int x_rowMany) (.int (0 : Int32)) (.ref q_text) (.int u_8.2.1) (.int u_8.2.2.1) (.int x_at_24) (.int u_125) (.ref q_told) w_rule w_otherRule (.int x_ruleSize) (.int x_isAsked) w_asked w_undos (.int x_undoMany) w_aside w_then w_hold (.int x_dropped) w_acts w_guarded w_train (.int x_trolleyEnd) w_feltOf w_feltBy (.int x_feltMany) w_many w_heardOf w_heardBy (.int x_heardMany) w_worth (.int x_drawn) (.int x_came) w_kept w_isKept w_keptCame), (q_text, aB cT 80 f_text), (q_told, aI cT 24 f_told_24), (q_now, aI cT 47 f_now_140)] → va_S A s.heap H locs → lv_has ls 4 [(0, .ref h), (1, .int y1_24), (3, .int y3_140)] → W p l e (rmO 3 63 0 0) s m ([.ref h] : List Value).toArray below meth c H locs 0 0 (MQ below (va_Qi Post (cB D A (fun (u : (Int32 × Int32 × Int32 × Int32 × Int32 × Int32 × Int32 × Int32 × Int32 × (Nat → Int32) × (Nat → Int32))) => [(h, oX8 (.ref q_now) (.int x_arches) (.int u.1) (.ref q_text) (.int u.2.1) w_row (.int x_rowMany) (.int u.2.2.1) (.ref q_text) (.int u.2.2.2.1) (.int u.2.2.2.2.1) (.int u.2.2.2.2.2.1) (.int u.2.2.2.2.2.2.1) (.ref q_told) w_rule w_otherRule (.int x_ruleSize) (.int x_isAsked) w_asked w_undos (.int u.2.2.2.2.2.2.2.1) w_aside w_then w_hold (.int x_dropped) w_acts w_guarded w_train (.int x_trolleyEnd) w_feltOf w_feltBy (.int x_feltMany) w_many w_heardOf w_heardBy (.int x_heardMany) w_worth (.int x_drawn) (.int u.2.2.2.2.2.2.2.2.1) w_kept w_isKept w_keptCame), (q_text, aB cT 80 f_text), (q_told, aI cT 24 u.2.2.2.2.2.2.2.2.2.1), (q_now, aI cT 47 u.2.2.2.2.2.2.2.2.2.2)])) A) ([.ref h] : List Value).toArray s 0 0 A) (F0 m 140 ls []) := by
    intro u_8 u_125 y1_24 x_at_24 f_told_24 n140
    induction n140 with
    | zero =>
      intro y3_140 x_cats_140 f_now_140 H locs ls hg hP hD hS hl
      exact False.elim hg
    | succ n140 ih140 =>
      intro y3_140 x_cats_140 f_now_140 H locs ls hg hP hD hS hl
      rw [p_X8_cats_140_s] at hg
      refine lv_iload_n hx hb dX8_cats_140 rfl (lv_at hl 2 rfl) ?_
      refine lv_iload_n hx hb dX8_cats_141 rfl (lv_at hl 1 rfl) ?_
      refine lv_icmp_ge (tgt := 238) hx hb dX8_cats_142 (by decide) (fun c_142 => ?_) (fun c_142 => ?_)
      · have hg := hg.1 c_142
        refine lv_aload_n hx hb dX8_cats_238 rfl (lv_at hl 0 rfl) ?_
        refine k_Vv (rest := []) (wr := [(q_text, aB cT 80 f_text), (q_told, aI cT 24 f_told_24), (q_now, aI cT 47 f_now_140)]) (w2 := fun u_239 => [(q_text, aB cT 80 f_text), (q_told, aI cT 24 f_told_24), (q_now, aI cT 47 f_now_140), (h, oX8 (.ref q_now) (.int x_arches) (.int x_cats_140) (.ref q_text) (.int u_8.1) w_row (.int x_rowMany) (.int (0 : Int32)) (.ref q_text) (.int u_8.2.1) (.int u_8.2.2.1) (.int x_at_24) (.int u_125) (.ref q_told) w_rule w_otherRule (.int x_ruleSize) (.int x_isAsked) w_asked w_undos (.int u_239.1) w_aside w_then w_hold (.int x_dropped) w_acts w_guarded w_train (.int x_trolleyEnd) w_feltOf w_feltBy (.int x_feltMany) w_many w_heardOf w_heardBy (.int x_heardMany) w_worth (.int x_drawn) (.int u_239.2) w_kept w_isKept w_keptCame)]) C0 lk_X8_153 (c_X8_toldAnew l D cT F h (.ref q_now) x_arches x_cats_140 (.ref q_text) u_8.1 w_row x_rowMany (0 : Int32) (.ref q_text) u_8.2.1 u_8.2.2.1 x_at_24 u_125 (.ref q_told) w_rule w_otherRule x_ruleSize x_isAsked w_asked w_undos x_undoMany w_aside w_then w_hold x_dropped w_acts w_guarded w_train x_trolleyEnd w_feltOf w_feltBy x_feltMany w_many w_heardOf w_heardBy x_heardMany w_worth x_drawn x_came w_kept w_isKept w_keptCame _ hg) hP hD hS hA [0] [1, 2, 3] (by decide +kernel) rfl rfl (fun _ => rfl) rfl rfl ⟨Nat.le_of_ble_eq_true rfl, Nat.le_of_ble_eq_true rfl⟩ rfl hl.1 rfl (Nat.le_of_ble_eq_true rfl) dX8_cats_239 ⟨Nat.le_of_ble_eq_true rfl, Nat.le_of_ble_eq_true rfl⟩ ?_
        intro u_239 H locs hg hP hD hS
        refine lv_iload_n hx hb dX8_cats_242 rfl (lv_at hl 1 rfl) ?_
        exact k_iret C0 hr (x_cats_140, u_8.1, (0 : Int32), u_8.2.1, u_8.2.2.1, x_at_24, u_125, u_239.1, u_239.2, f_told_24, f_now_140) hg (subP hP [3, 0, 1, 2] rfl) (hD.sub [3, 0, 1, 2] (nd2_ok _ (by decide +kernel)) rfl) hS dX8_cats_243
      have hg := hg.2 c_142
      refine lv_aload_n hx hb dX8_cats_145 rfl (lv_at hl 0 rfl) ?_
      refine gf_X8_9 C0 hP 0 rfl rfl dX8_cats_146 ?_
      refine lv_bipush (v := (12 : Int32)) hx hb dX8_cats_149 (by decide) ?_
      refine lv_aload_n hx hb dX8_cats_151 rfl (lv_at hl 0 rfl) ?_
      refine gf_X8_96 C0 hP 0 rfl rfl dX8_cats_152 ?_
      refine lv_iadd hx hb dX8_cats_155 ?_
      refine lv_aload_n hx hb dX8_cats_156 rfl (lv_at hl 0 rfl) ?_
      refine gf_X8_21 C0 hP 0 rfl rfl dX8_cats_157 ?_
      refine lv_iconst (v := (3 : Int32)) hx hb dX8_cats_160 (by decide) ?_
      refine lv_iload_n hx hb dX8_cats_161 rfl (lv_at hl 2 rfl) ?_
      refine lv_imul hx hb dX8_cats_162 ?_
      obtain ⟨g_163, hg⟩ := hg
      refine k_iald C0 hP 2 rfl g_163 dX8_cats_163 ?_
      obtain ⟨g_164, hg⟩ := hg
      refine k_iast C0 hP hD hS 3 rfl g_164 (ws' := [(h, oX8 (.ref q_now) (.int x_arches) (.int x_cats_140) (.ref q_text) (.int u_8.1) w_row (.int x_rowMany) (.int (0 : Int32)) (.ref q_text) (.int u_8.2.1) (.int u_8.2.2.1) (.int x_at_24) (.int u_125) (.ref q_told) w_rule w_otherRule (.int x_ruleSize) (.int x_isAsked) w_asked w_undos (.int x_undoMany) w_aside w_then w_hold (.int x_dropped) w_acts w_guarded w_train (.int x_trolleyEnd) w_feltOf w_feltBy (.int x_feltMany) w_many w_heardOf w_heardBy (.int x_heardMany) w_worth (.int x_drawn) (.int x_came) w_kept w_isKept w_keptCame), (q_text, aB cT 80 f_text), (q_told, aI cT 24 f_told_24), (q_now, aI cT 47 (upd f_now_140 ((12 : Int32) + x_cats_140).toNatClampNeg (f_told_24 ((3 : Int32) * y3_140).toNatClampNeg)))]) rfl dX8_cats_164 (fun H locs hP hD hS => ?_)
      refine lv_aload_n hx hb dX8_cats_165 rfl (lv_at hl 0 rfl) ?_
      refine gf_X8_9 C0 hP 0 rfl rfl dX8_cats_166 ?_
      refine lv_bipush (v := (20 : Int32)) hx hb dX8_cats_169 (by decide) ?_
      refine lv_aload_n hx hb dX8_cats_171 rfl (lv_at hl 0 rfl) ?_
      refine gf_X8_96 C0 hP 0 rfl rfl dX8_cats_172 ?_
      refine lv_iadd hx hb dX8_cats_175 ?_
      refine lv_aload_n hx hb dX8_cats_176 rfl (lv_at hl 0 rfl) ?_
      refine gf_X8_21 C0 hP 0 rfl rfl dX8_cats_177 ?_
      refine lv_iconst (v := (3 : Int32)) hx hb dX8_cats_180 (by decide) ?_
      refine lv_iload_n hx hb dX8_cats_181 rfl (lv_at hl 2 rfl) ?_
      refine lv_imul hx hb dX8_cats_182 ?_
      refine lv_iconst (v := (1 : Int32)) hx hb dX8_cats_183 (by decide) ?_
      refine lv_iadd hx hb dX8_cats_184 ?_
      obtain ⟨g_185, hg⟩ := hg
      refine k_iald C0 hP 2 rfl g_185 dX8_cats_185 ?_
      obtain ⟨g_186, hg⟩ := hg
      refine k_iast C0 hP hD hS 3 rfl g_186 (ws' := [(h, oX8 (.ref q_now) (.int x_arches) (.int x_cats_140) (.ref q_text) (.int u_8.1) w_row (.int x_rowMany) (.int (0 : Int32)) (.ref q_text) (.int u_8.2.1) (.int u_8.2.2.1) (.int x_at_24) (.int u_125) (.ref q_told) w_rule w_otherRule (.int x_ruleSize) (.int x_isAsked) w_asked w_undos (.int x_undoMany) w_aside w_then w_hold (.int x_dropped) w_acts w_guarded w_train (.int x_trolleyEnd) w_feltOf w_feltBy (.int x_feltMany) w_many w_heardOf w_heardBy (.int x_heardMany) w_worth (.int x_drawn) (.int x_came) w_kept w_isKept w_keptCame), (q_text, aB cT 80 f_text), (q_told, aI cT 24 f_told_24), (q_now, aI cT 47 (upd (upd f_now_140 ((12 : Int32) + x_cats_140).toNatClampNeg (f_told_24 ((3 : Int32) * y3_140).toNatClampNeg)) ((20 : Int32) + x_cats_140).toNatClampNeg (f_told_24 (((3 : Int32) * y3_140) + (1 : Int32)).toNatClampNeg)))]) rfl dX8_cats_186 (fun H locs hP hD hS => ?_)
      refine lv_aload_n hx hb dX8_cats_187 rfl (lv_at hl 0 rfl) ?_
      refine gf_X8_9 C0 hP 0 rfl rfl dX8_cats_188 ?_
      refine lv_bipush (v := (28 : Int32)) hx hb dX8_cats_191 (by decide) ?_
      refine lv_aload_n hx hb dX8_cats_193 rfl (lv_at hl 0 rfl) ?_
      refine gf_X8_96 C0 hP 0 rfl rfl dX8_cats_194 ?_
      refine lv_iadd hx hb dX8_cats_197 ?_
      refine lv_iconst (v := (0 : Int32)) hx hb dX8_cats_198 (by decide) ?_
      obtain ⟨g_199, hg⟩ := hg
      refine k_iast C0 hP hD hS 3 rfl g_199 (ws' := [(h, oX8 (.ref q_now) (.int x_arches) (.int x_cats_140) (.ref q_text) (.int u_8.1) w_row (.int x_rowMany) (.int (0 : Int32)) (.ref q_text) (.int u_8.2.1) (.int u_8.2.2.1) (.int x_at_24) (.int u_125) (.ref q_told) w_rule w_otherRule (.int x_ruleSize) (.int x_isAsked) w_asked w_undos (.int x_undoMany) w_aside w_then w_hold (.int x_dropped) w_acts w_guarded w_train (.int x_trolleyEnd) w_feltOf w_feltBy (.int x_feltMany) w_many w_heardOf w_heardBy (.int x_heardMany) w_worth (.int x_drawn) (.int x_came) w_kept w_isKept w_keptCame), (q_text, aB cT 80 f_text), (q_told, aI cT 24 f_told_24), (q_now, aI cT 47 (upd (upd (upd f_now_140 ((12 : Int32) + x_cats_140).toNatClampNeg (f_told_24 ((3 : Int32) * y3_140).toNatClampNeg)) ((20 : Int32) + x_cats_140).toNatClampNeg (f_told_24 (((3 : Int32) * y3_140) + (1 : Int32)).toNatClampNeg)) ((28 : Int32) + x_cats_140).toNatClampNeg (0 : Int32)))]) rfl dX8_cats_199 (fun H locs hP hD hS => ?_)
      refine lv_aload_n hx hb dX8_cats_200 rfl (lv_at hl 0 rfl) ?_
      refine gf_X8_9 C0 hP 0 rfl rfl dX8_cats_201 ?_
      refine lv_bipush (v := (36 : Int32)) hx hb dX8_cats_204 (by decide) ?_
      refine lv_aload_n hx hb dX8_cats_206 rfl (lv_at hl 0 rfl) ?_
      refine gf_X8_96 C0 hP 0 rfl rfl dX8_cats_207 ?_
      refine lv_iadd hx hb dX8_cats_210 ?_
      refine lv_aload_n hx hb dX8_cats_211 rfl (lv_at hl 0 rfl) ?_
      refine gf_X8_21 C0 hP 0 rfl rfl dX8_cats_212 ?_
      refine lv_iconst (v := (3 : Int32)) hx hb dX8_cats_215 (by decide) ?_
      refine lv_iload_n hx hb dX8_cats_216 rfl (lv_at hl 2 rfl) ?_
      refine lv_imul hx hb dX8_cats_217 ?_
      refine lv_iconst (v := (2 : Int32)) hx hb dX8_cats_218 (by decide) ?_
      refine lv_iadd hx hb dX8_cats_219 ?_
      obtain ⟨g_220, hg⟩ := hg
      refine k_iald C0 hP 2 rfl g_220 dX8_cats_220 ?_
      obtain ⟨g_221, hg⟩ := hg
      refine k_iast C0 hP hD hS 3 rfl g_221 (ws' := [(h, oX8 (.ref q_now) (.int x_arches) (.int x_cats_140) (.ref q_text) (.int u_8.1) w_row (.int x_rowMany) (.int (0 : Int32)) (.ref q_text) (.int u_8.2.1) (.int u_8.2.2.1) (.int x_at_24) (.int u_125) (.ref q_told) w_rule w_otherRule (.int x_ruleSize) (.int x_isAsked) w_asked w_undos (.int x_undoMany) w_aside w_then w_hold (.int x_dropped) w_acts w_guarded w_train (.int x_trolleyEnd) w_feltOf w_feltBy (.int x_feltMany) w_many w_heardOf w_heardBy (.int x_heardMany) w_worth (.int x_drawn) (.int x_came) w_kept w_isKept w_keptCame), (q_text, aB cT 80 f_text), (q_told, aI cT 24 f_told_24), (q_now, aI cT 47 (upd (upd (upd (upd f_now_140 ((12 : Int32) + x_cats_140).toNatClampNeg (f_told_24 ((3 : Int32) * y3_140).toNatClampNeg)) ((20 : Int32) + x_cats_140).toNatClampNeg (f_told_24 (((3 : Int32) * y3_140) + (1 : Int32)).toNatClampNeg)) ((28 : Int32) + x_cats_140).toNatClampNeg (0 : Int32)) ((36 : Int32) + x_cats_140).toNatClampNeg (f_told_24 (((3 : Int32) * y3_140) + (2 : Int32)).toNatClampNeg)))]) rfl dX8_cats_221 (fun H locs hP hD hS => ?_)
      refine lv_aload_n hx hb dX8_cats_222 rfl (lv_at hl 0 rfl) ?_
      refine lv_dup hx hb dX8_cats_223 rfl ?_
      refine gf_X8_96 C0 hP 0 rfl rfl dX8_cats_224 ?_
      refine lv_iconst (v := (1 : Int32)) hx hb dX8_cats_227 (by decide) ?_
      refine lv_iadd hx hb dX8_cats_228 ?_
      refine pf_X8_96 C0 hP hD hS 0 rfl (Nat.le_of_ble_eq_true rfl) (ws2 := [(h, oX8 (.ref q_now) (.int x_arches) (.int (x_cats_140 + (1 : Int32))) (.ref q_text) (.int u_8.1) w_row (.int x_rowMany) (.int (0 : Int32)) (.ref q_text) (.int u_8.2.1) (.int u_8.2.2.1) (.int x_at_24) (.int u_125) (.ref q_told) w_rule w_otherRule (.int x_ruleSize) (.int x_isAsked) w_asked w_undos (.int x_undoMany) w_aside w_then w_hold (.int x_dropped) w_acts w_guarded w_train (.int x_trolleyEnd) w_feltOf w_feltBy (.int x_feltMany) w_many w_heardOf w_heardBy (.int x_heardMany) w_worth (.int x_drawn) (.int x_came) w_kept w_isKept w_keptCame), (q_text, aB cT 80 f_text), (q_told, aI cT 24 f_told_24), (q_now, aI cT 47 (upd (upd (upd (upd f_now_140 ((12 : Int32) + x_cats_140).toNatClampNeg (f_told_24 ((3 : Int32) * y3_140).toNatClampNeg)) ((20 : Int32) + x_cats_140).toNatClampNeg (f_told_24 (((3 : Int32) * y3_140) + (1 : Int32)).toNatClampNeg)) ((28 : Int32) + x_cats_140).toNatClampNeg (0 : Int32)) ((36 : Int32) + x_cats_140).toNatClampNeg (f_told_24 (((3 : Int32) * y3_140) + (2 : Int32)).toNatClampNeg)))]) rfl dX8_cats_229 (fun H locs hP hD hS => ?_)
      refine lv_iinc (v := (y3_140 + (1 : Int32))) (lv' := [(3, .int (y3_140 + (1 : Int32))), (0, .ref h), (1, .int y1_24)]) hx hb dX8_cats_232 hl (k := 2) rfl rfl (by decide) rfl (fun ls hl => ?_)
      refine lv_goto (tgt := 140) hx hb dX8_cats_235 (by decide) ?_
      exact ih140 (y3_140 + (1 : Int32)) (x_cats_140 + (1 : Int32)) (upd (upd (upd (upd f_now_140 ((12 : Int32) + x_cats_140).toNatClampNeg (f_told_24 ((3 : Int32) * y3_140).toNatClampNeg)) ((20 : Int32) + x_cats_140).toNatClampNeg (f_told_24 (((3 : Int32) * y3_140) + (1 : Int32)).toNatClampNeg)) ((28 : Int32) + x_cats_140).toNatClampNeg (0 : Int32)) ((36 : Int32) + x_cats_140).toNatClampNeg (f_told_24 (((3 : Int32) * y3_140) + (2 : Int32)).toNatClampNeg)) _ _ _ hg hP hD hS (lv_sub hl [1, 2, 0] rfl)
  have L124 : ∀ (u_8 : (Int32 × Int32 × Int32 × Int32 × Int32)) (y1_24 : Int32) (x_at_24 : Int32) (x_wrong_24 : Int32) (f_told_24 : Nat → Int32) (H : Heap) (locs : List Loc) (ls : Array Slot), p_X8_cats_124 F x_cats x_undoMany x_came f_now u_8 y1_24 x_at_24 x_wrong_24 f_told_24 Post → va_P D cls9 [(h, oX8 (.ref q_now) (.int x_arches) (.int x_cats) (.ref q_text) (.int u_8.1) w_row (.int x_rowMany) (.int (0 : Int32)) (.ref q_text) (.int u_8.2.1) (.int u_8.2.2.1) (.int x_at_24) (.int x_wrong_24) (.ref q_told) w_rule w_otherRule (.int x_ruleSize) (.int x_isAsked) w_asked w_undos (.int x_undoMany) w_aside w_then w_hold (.int x_dropped) w_acts w_guarded w_train (.int x_trolleyEnd) w_feltOf w_feltBy (.int x_feltMany) w_many w_heardOf w_heardBy (.int x_heardMany) w_worth (.int x_drawn) (.int x_came) w_kept w_isKept w_keptCame), (q_text, aB cT 80 f_text), (q_told, aI cT 24 f_told_24), (q_now, aI cT 47 f_now)] H → va_D A [(h, oX8 (.ref q_now) (.int x_arches) (.int x_cats) (.ref q_text) (.int u_8.1) w_row (.int x_rowMany) (.int (0 : Int32)) (.ref q_text) (.int u_8.2.1) (.int u_8.2.2.1) (.int x_at_24) (.int x_wrong_24) (.ref q_told) w_rule w_otherRule (.int x_ruleSize) (.int x_isAsked) w_asked w_undos (.int x_undoMany) w_aside w_then w_hold (.int x_dropped) w_acts w_guarded w_train (.int x_trolleyEnd) w_feltOf w_feltBy (.int x_feltMany) w_many w_heardOf w_heardBy (.int x_heardMany) w_worth (.int x_drawn) (.int x_came) w_kept w_isKept w_keptCame), (q_text, aB cT 80 f_text), (q_told, aI cT 24 f_told_24), (q_now, aI cT 47 f_now)] → va_S A s.heap H locs → lv_has ls 4 [(0, .ref h), (1, .int y1_24)] → W p l e (rmO 3 63 0 0) s m ([.ref h] : List Value).toArray below meth c H locs 0 0 (MQ below (va_Qi Post (cB D A (fun (u : (Int32 × Int32 × Int32 × Int32 × Int32 × Int32 × Int32 × Int32 × Int32 × (Nat → Int32) × (Nat → Int32))) => [(h, oX8 (.ref q_now) (.int x_arches) (.int u.1) (.ref q_text) (.int u.2.1) w_row (.int x_rowMany) (.int u.2.2.1) (.ref q_text) (.int u.2.2.2.1) (.int u.2.2.2.2.1) (.int u.2.2.2.2.2.1) (.int u.2.2.2.2.2.2.1) (.ref q_told) w_rule w_otherRule (.int x_ruleSize) (.int x_isAsked) w_asked w_undos (.int u.2.2.2.2.2.2.2.1) w_aside w_then w_hold (.int x_dropped) w_acts w_guarded w_train (.int x_trolleyEnd) w_feltOf w_feltBy (.int x_feltMany) w_many w_heardOf w_heardBy (.int x_heardMany) w_worth (.int x_drawn) (.int u.2.2.2.2.2.2.2.2.1) w_kept w_isKept w_keptCame), (q_text, aB cT 80 f_text), (q_told, aI cT 24 u.2.2.2.2.2.2.2.2.2.1), (q_now, aI cT 47 u.2.2.2.2.2.2.2.2.2.2)])) A) ([.ref h] : List Value).toArray s 0 0 A) (F0 m 124 ls []) := by
    intro u_8 y1_24 x_at_24 x_wrong_24 f_told_24 H locs ls hg hP hD hS hl
    unfold p_X8_cats_124 at hg
    refine lv_aload_n hx hb dX8_cats_124 rfl (lv_at hl 0 rfl) ?_
    refine k_Vi (rest := []) (wr := [(q_text, aB cT 80 f_text), (q_told, aI cT 24 f_told_24), (q_now, aI cT 47 f_now)]) (w2 := fun u_125 => [(q_text, aB cT 80 f_text), (q_told, aI cT 24 f_told_24), (q_now, aI cT 47 f_now), (h, oX8 (.ref q_now) (.int x_arches) (.int x_cats) (.ref q_text) (.int u_8.1) w_row (.int x_rowMany) (.int (0 : Int32)) (.ref q_text) (.int u_8.2.1) (.int u_8.2.2.1) (.int x_at_24) (.int u_125) (.ref q_told) w_rule w_otherRule (.int x_ruleSize) (.int x_isAsked) w_asked w_undos (.int x_undoMany) w_aside w_then w_hold (.int x_dropped) w_acts w_guarded w_train (.int x_trolleyEnd) w_feltOf w_feltBy (.int x_feltMany) w_many w_heardOf w_heardBy (.int x_heardMany) w_worth (.int x_drawn) (.int x_came) w_kept w_isKept w_keptCame)]) C0 lk_X8_150 (c_X8_wasRight l D cT F h (.ref q_now) x_arches x_cats (.ref q_text) u_8.1 w_row x_rowMany (0 : Int32) (.ref q_text) u_8.2.1 u_8.2.2.1 x_at_24 x_wrong_24 (.ref q_told) w_rule w_otherRule x_ruleSize x_isAsked w_asked w_undos x_undoMany w_aside w_then w_hold x_dropped w_acts w_guarded w_train x_trolleyEnd w_feltOf w_feltBy x_feltMany w_many w_heardOf w_heardBy x_heardMany w_worth x_drawn x_came w_kept w_isKept w_keptCame _ hg) hP hD hS hA [0] [1, 2, 3] (by decide +kernel) rfl rfl (fun _ => rfl) rfl rfl ⟨Nat.le_of_ble_eq_true rfl, Nat.le_of_ble_eq_true rfl⟩ rfl hl.1 rfl (Nat.le_of_ble_eq_true rfl) dX8_cats_125 ⟨Nat.le_of_ble_eq_true rfl, Nat.le_of_ble_eq_true rfl⟩ ?_
    intro r_125 u_125 H locs hg hP hD hS
    refine lv_if_ne (tgt := 138) hx hb dX8_cats_128 (by decide) (fun c_128 => ?_) (fun c_128 => ?_)
    · have hg := hg.1 c_128
      refine lv_iconst (v := (0 : Int32)) hx hb dX8_cats_138 (by decide) ?_
      refine lv_istore_n (lv' := [(3, .int (0 : Int32)), (0, .ref h), (1, .int y1_24)]) hx hb dX8_cats_139 rfl hl (by decide) rfl (fun ls hl => ?_)
      exact L140 u_8 u_125 y1_24 x_at_24 f_told_24 F (0 : Int32) x_cats f_now _ _ _ hg (subP hP [3, 0, 1, 2] rfl) (hD.sub [3, 0, 1, 2] (nd2_ok _ (by decide +kernel)) rfl) hS (lv_sub hl [1, 2, 0] rfl)
    have hg := hg.2 c_128
    refine lv_iconst (v := (-1 : Int32)) hx hb dX8_cats_131 (by decide) ?_
    refine lv_aload_n hx hb dX8_cats_132 rfl (lv_at hl 0 rfl) ?_
    refine gf_X8_114 C0 hP 3 rfl rfl dX8_cats_133 ?_
    refine lv_isub hx hb dX8_cats_136 ?_
    exact k_iret C0 hr (x_cats, u_8.1, (0 : Int32), u_8.2.1, u_8.2.2.1, x_at_24, u_125, x_undoMany, x_came, f_told_24, f_now) hg (subP hP [3, 0, 1, 2] rfl) (hD.sub [3, 0, 1, 2] (nd2_ok _ (by decide +kernel)) rfl) hS dX8_cats_137
  have L24 : ∀ (u_8 : (Int32 × Int32 × Int32 × Int32 × Int32)) (n24 : Nat) (y2_24 : Int32) (y1_24 : Int32) (x_at_24 : Int32) (x_wrong_24 : Int32) (f_told_24 : Nat → Int32) (H : Heap) (locs : List Loc) (ls : Array Slot), p_X8_cats_24 F x_arches x_cats x_undoMany x_came f_text f_now u_8 Post n24 y2_24 y1_24 x_at_24 x_wrong_24 f_told_24 → va_P D cls9 [(h, oX8 (.ref q_now) (.int x_arches) (.int x_cats) (.ref q_text) (.int u_8.1) w_row (.int x_rowMany) (.int (0 : Int32)) (.ref q_text) (.int u_8.2.1) (.int u_8.2.2.1) (.int x_at_24) (.int x_wrong_24) (.ref q_told) w_rule w_otherRule (.int x_ruleSize) (.int x_isAsked) w_asked w_undos (.int x_undoMany) w_aside w_then w_hold (.int x_dropped) w_acts w_guarded w_train (.int x_trolleyEnd) w_feltOf w_feltBy (.int x_feltMany) w_many w_heardOf w_heardBy (.int x_heardMany) w_worth (.int x_drawn) (.int x_came) w_kept w_isKept w_keptCame), (q_text, aB cT 80 f_text), (q_told, aI cT 24 f_told_24), (q_now, aI cT 47 f_now)] H → va_D A [(h, oX8 (.ref q_now) (.int x_arches) (.int x_cats) (.ref q_text) (.int u_8.1) w_row (.int x_rowMany) (.int (0 : Int32)) (.ref q_text) (.int u_8.2.1) (.int u_8.2.2.1) (.int x_at_24) (.int x_wrong_24) (.ref q_told) w_rule w_otherRule (.int x_ruleSize) (.int x_isAsked) w_asked w_undos (.int x_undoMany) w_aside w_then w_hold (.int x_dropped) w_acts w_guarded w_train (.int x_trolleyEnd) w_feltOf w_feltBy (.int x_feltMany) w_many w_heardOf w_heardBy (.int x_heardMany) w_worth (.int x_drawn) (.int x_came) w_kept w_isKept w_keptCame), (q_text, aB cT 80 f_text), (q_told, aI cT 24 f_told_24), (q_now, aI cT 47 f_now)] → va_S A s.heap H locs → lv_has ls 4 [(0, .ref h), (1, .int y1_24), (2, .int y2_24)] → W p l e (rmO 3 63 0 0) s m ([.ref h] : List Value).toArray below meth c H locs 0 0 (MQ below (va_Qi Post (cB D A (fun (u : (Int32 × Int32 × Int32 × Int32 × Int32 × Int32 × Int32 × Int32 × Int32 × (Nat → Int32) × (Nat → Int32))) => [(h, oX8 (.ref q_now) (.int x_arches) (.int u.1) (.ref q_text) (.int u.2.1) w_row (.int x_rowMany) (.int u.2.2.1) (.ref q_text) (.int u.2.2.2.1) (.int u.2.2.2.2.1) (.int u.2.2.2.2.2.1) (.int u.2.2.2.2.2.2.1) (.ref q_told) w_rule w_otherRule (.int x_ruleSize) (.int x_isAsked) w_asked w_undos (.int u.2.2.2.2.2.2.2.1) w_aside w_then w_hold (.int x_dropped) w_acts w_guarded w_train (.int x_trolleyEnd) w_feltOf w_feltBy (.int x_feltMany) w_many w_heardOf w_heardBy (.int x_heardMany) w_worth (.int x_drawn) (.int u.2.2.2.2.2.2.2.2.1) w_kept w_isKept w_keptCame), (q_text, aB cT 80 f_text), (q_told, aI cT 24 u.2.2.2.2.2.2.2.2.2.1), (q_now, aI cT 47 u.2.2.2.2.2.2.2.2.2.2)])) A) ([.ref h] : List Value).toArray s 0 0 A) (F0 m 24 ls []) := by
    intro u_8 n24
    induction n24 with
    | zero =>
      intro y2_24 y1_24 x_at_24 x_wrong_24 f_told_24 H locs ls hg hP hD hS hl
      exact False.elim hg
    | succ n24 ih24 =>
      have L111 : ∀ (y1_24 : Int32) (x_at_111 : Int32) (x_wrong_111 : Int32) (f_told_111 : Nat → Int32) (H : Heap) (locs : List Loc) (ls : Array Slot), p_X8_cats_111 F f_text u_8 y1_24 (p_X8_cats_24 F x_arches x_cats x_undoMany x_came f_text f_now u_8 Post n24) Post x_at_111 x_wrong_111 f_told_111 → va_P D cls9 [(h, oX8 (.ref q_now) (.int x_arches) (.int x_cats) (.ref q_text) (.int u_8.1) w_row (.int x_rowMany) (.int (0 : Int32)) (.ref q_text) (.int u_8.2.1) (.int u_8.2.2.1) (.int x_at_111) (.int x_wrong_111) (.ref q_told) w_rule w_otherRule (.int x_ruleSize) (.int x_isAsked) w_asked w_undos (.int x_undoMany) w_aside w_then w_hold (.int x_dropped) w_acts w_guarded w_train (.int x_trolleyEnd) w_feltOf w_feltBy (.int x_feltMany) w_many w_heardOf w_heardBy (.int x_heardMany) w_worth (.int x_drawn) (.int x_came) w_kept w_isKept w_keptCame), (q_text, aB cT 80 f_text), (q_told, aI cT 24 f_told_111), (q_now, aI cT 47 f_now)] H → va_D A [(h, oX8 (.ref q_now) (.int x_arches) (.int x_cats) (.ref q_text) (.int u_8.1) w_row (.int x_rowMany) (.int (0 : Int32)) (.ref q_text) (.int u_8.2.1) (.int u_8.2.2.1) (.int x_at_111) (.int x_wrong_111) (.ref q_told) w_rule w_otherRule (.int x_ruleSize) (.int x_isAsked) w_asked w_undos (.int x_undoMany) w_aside w_then w_hold (.int x_dropped) w_acts w_guarded w_train (.int x_trolleyEnd) w_feltOf w_feltBy (.int x_feltMany) w_many w_heardOf w_heardBy (.int x_heardMany) w_worth (.int x_drawn) (.int x_came) w_kept w_isKept w_keptCame), (q_text, aB cT 80 f_text), (q_told, aI cT 24 f_told_111), (q_now, aI cT 47 f_now)] → va_S A s.heap H locs → lv_has ls 4 [(0, .ref h), (1, .int y1_24)] → W p l e (rmO 3 63 0 0) s m ([.ref h] : List Value).toArray below meth c H locs 0 0 (MQ below (va_Qi Post (cB D A (fun (u : (Int32 × Int32 × Int32 × Int32 × Int32 × Int32 × Int32 × Int32 × Int32 × (Nat → Int32) × (Nat → Int32))) => [(h, oX8 (.ref q_now) (.int x_arches) (.int u.1) (.ref q_text) (.int u.2.1) w_row (.int x_rowMany) (.int u.2.2.1) (.ref q_text) (.int u.2.2.2.1) (.int u.2.2.2.2.1) (.int u.2.2.2.2.2.1) (.int u.2.2.2.2.2.2.1) (.ref q_told) w_rule w_otherRule (.int x_ruleSize) (.int x_isAsked) w_asked w_undos (.int u.2.2.2.2.2.2.2.1) w_aside w_then w_hold (.int x_dropped) w_acts w_guarded w_train (.int x_trolleyEnd) w_feltOf w_feltBy (.int x_feltMany) w_many w_heardOf w_heardBy (.int x_heardMany) w_worth (.int x_drawn) (.int u.2.2.2.2.2.2.2.2.1) w_kept w_isKept w_keptCame), (q_text, aB cT 80 f_text), (q_told, aI cT 24 u.2.2.2.2.2.2.2.2.2.1), (q_now, aI cT 47 u.2.2.2.2.2.2.2.2.2.2)])) A) ([.ref h] : List Value).toArray s 0 0 A) (F0 m 111 ls []) := by
        intro y1_24 x_at_111 x_wrong_111 f_told_111 H locs ls hg hP hD hS hl
        unfold p_X8_cats_111 at hg
        refine lv_iinc (v := (y1_24 + (1 : Int32))) (lv' := [(1, .int (y1_24 + (1 : Int32))), (0, .ref h)]) hx hb dX8_cats_111 hl (k := 1) rfl rfl (by decide) rfl (fun ls hl => ?_)
        refine lv_aload_n hx hb dX8_cats_114 rfl (lv_at hl 1 rfl) ?_
        refine lv_bipush (v := (59 : Int32)) hx hb dX8_cats_115 (by decide) ?_
        refine k_Vi (rest := []) (wr := [(q_told, aI cT 24 f_told_111), (q_now, aI cT 47 f_now)]) (w2 := fun u_117 => [(q_told, aI cT 24 f_told_111), (q_now, aI cT 47 f_now), (h, oX8 (.ref q_now) (.int x_arches) (.int x_cats) (.ref q_text) (.int u_8.1) w_row (.int x_rowMany) (.int (0 : Int32)) (.ref q_text) (.int u_8.2.1) (.int u_8.2.2.1) (.int u_117) (.int x_wrong_111) (.ref q_told) w_rule w_otherRule (.int x_ruleSize) (.int x_isAsked) w_asked w_undos (.int x_undoMany) w_aside w_then w_hold (.int x_dropped) w_acts w_guarded w_train (.int x_trolleyEnd) w_feltOf w_feltBy (.int x_feltMany) w_many w_heardOf w_heardBy (.int x_heardMany) w_worth (.int x_drawn) (.int x_came) w_kept w_isKept w_keptCame), (q_text, aB cT 80 f_text)]) C0 lk_X8_129 (c_X8_passes l D cT F h (59 : Int32) (.ref q_now) x_arches x_cats (.ref q_text) u_8.1 w_row x_rowMany (0 : Int32) q_text u_8.2.1 u_8.2.2.1 x_at_111 x_wrong_111 (.ref q_told) w_rule w_otherRule x_ruleSize x_isAsked w_asked w_undos x_undoMany w_aside w_then w_hold x_dropped w_acts w_guarded w_train x_trolleyEnd w_feltOf w_feltBy x_feltMany w_many w_heardOf w_heardBy x_heardMany w_worth x_drawn x_came w_kept w_isKept w_keptCame 80 f_text _ hg) hP hD hS hA [0, 1] [2, 3] (by decide +kernel) rfl rfl (fun _ => rfl) rfl rfl ⟨Nat.le_of_ble_eq_true rfl, Nat.le_of_ble_eq_true rfl⟩ rfl hl.1 rfl (Nat.le_of_ble_eq_true rfl) dX8_cats_117 ⟨Nat.le_of_ble_eq_true rfl, Nat.le_of_ble_eq_true rfl⟩ ?_
        intro r_117 u_117 H locs hg hP hD hS
        refine lv_istore_n (lv' := [(2, .int r_117), (1, .int (y1_24 + (1 : Int32))), (0, .ref h)]) hx hb dX8_cats_120 rfl hl (by decide) rfl (fun ls hl => ?_)
        refine lv_goto (tgt := 24) hx hb dX8_cats_121 (by decide) ?_
        exact ih24 r_117 (y1_24 + (1 : Int32)) u_117 x_wrong_111 f_told_111 _ _ _ hg (subP hP [2, 3, 0, 1] rfl) (hD.sub [2, 3, 0, 1] (nd2_ok _ (by decide +kernel)) rfl) hS (lv_sub hl [2, 1, 0] rfl)
      intro y2_24 y1_24 x_at_24 x_wrong_24 f_told_24 H locs ls hg hP hD hS hl
      rw [p_X8_cats_24_s] at hg
      refine lv_iload_n hx hb dX8_cats_24 rfl (lv_at hl 2 rfl) ?_
      refine lv_if_eq (tgt := 124) hx hb dX8_cats_25 (by decide) (fun c_25 => ?_) (fun c_25 => ?_)
      · have hg := hg.1 c_25
        exact L124 u_8 y1_24 x_at_24 x_wrong_24 f_told_24 _ _ _ hg hP hD hS (lv_sub hl [0, 1] rfl)
      have hg := hg.2 c_25
      refine lv_aload_n hx hb dX8_cats_28 rfl (lv_at hl 0 rfl) ?_
      refine k_Vxi (rest := []) C0 lk_X8_121 (c_X8_fine l D cT F h (.ref q_now) x_arches x_cats (.ref q_text) u_8.1 w_row x_rowMany (0 : Int32) (.ref q_text) u_8.2.1 u_8.2.2.1 x_at_24 x_wrong_24 (.ref q_told) w_rule w_otherRule x_ruleSize x_isAsked w_asked w_undos x_undoMany w_aside w_then w_hold x_dropped w_acts w_guarded w_train x_trolleyEnd w_feltOf w_feltBy x_feltMany w_many w_heardOf w_heardBy x_heardMany w_worth x_drawn x_came w_kept w_isKept w_keptCame _ hg) hP hD hS hA [0] (by decide +kernel) rfl rfl rfl ⟨Nat.le_of_ble_eq_true rfl, Nat.le_of_ble_eq_true rfl⟩ rfl hl.1 rfl (Nat.le_of_ble_eq_true rfl) dX8_cats_29 ⟨Nat.le_of_ble_eq_true rfl, Nat.le_of_ble_eq_true rfl⟩ (fun r_29 hg => ?_)
      refine lv_if_eq (tgt := 124) hx hb dX8_cats_32 (by decide) (fun c_32 => ?_) (fun c_32 => ?_)
      · have hg := hg.1 c_32
        exact L124 u_8 y1_24 x_at_24 x_wrong_24 f_told_24 _ _ _ hg hP hD hS (lv_sub hl [0, 1] rfl)
      have hg := hg.2 c_32
      refine lv_aload_n hx hb dX8_cats_35 rfl (lv_at hl 0 rfl) ?_
      refine gf_X8_96 C0 hP 0 rfl rfl dX8_cats_36 ?_
      refine lv_iload_n hx hb dX8_cats_39 rfl (lv_at hl 1 rfl) ?_
      refine lv_iadd hx hb dX8_cats_40 ?_
      refine lv_bipush (v := (8 : Int32)) hx hb dX8_cats_41 (by decide) ?_
      refine lv_icmp_ne (tgt := 57) hx hb dX8_cats_43 (by decide) (fun c_43 => ?_) (fun c_43 => ?_)
      · have hg := hg.1 c_43
        refine lv_aload_n hx hb dX8_cats_57 rfl (lv_at hl 0 rfl) ?_
        refine gf_X8_21 C0 hP 0 rfl rfl dX8_cats_58 ?_
        refine lv_iconst (v := (3 : Int32)) hx hb dX8_cats_61 (by decide) ?_
        refine lv_iload_n hx hb dX8_cats_62 rfl (lv_at hl 1 rfl) ?_
        refine lv_imul hx hb dX8_cats_63 ?_
        refine lv_aload_n hx hb dX8_cats_64 rfl (lv_at hl 0 rfl) ?_
        refine lv_bipush (v := (48 : Int32)) hx hb dX8_cats_65 (by decide) ?_
        refine lv_bipush (v := (10 : Int32)) hx hb dX8_cats_67 (by decide) ?_
        refine k_Vi (rest := [.int ((3 : Int32) * y1_24), .ref q_told]) (wr := [(q_told, aI cT 24 f_told_24), (q_now, aI cT 47 f_now)]) (w2 := fun u_69 => [(q_told, aI cT 24 f_told_24), (q_now, aI cT 47 f_now), (h, oX8 (.ref q_now) (.int x_arches) (.int x_cats) (.ref q_text) (.int u_8.1) w_row (.int x_rowMany) (.int (0 : Int32)) (.ref q_text) (.int u_8.2.1) (.int u_8.2.2.1) (.int u_69.1) (.int u_69.2) (.ref q_told) w_rule w_otherRule (.int x_ruleSize) (.int x_isAsked) w_asked w_undos (.int x_undoMany) w_aside w_then w_hold (.int x_dropped) w_acts w_guarded w_train (.int x_trolleyEnd) w_feltOf w_feltBy (.int x_feltMany) w_many w_heardOf w_heardBy (.int x_heardMany) w_worth (.int x_drawn) (.int x_came) w_kept w_isKept w_keptCame), (q_text, aB cT 80 f_text)]) C0 lk_X8_137 (c_X8_oneOf l D cT F h (48 : Int32) (10 : Int32) (.ref q_now) x_arches x_cats (.ref q_text) u_8.1 w_row x_rowMany (0 : Int32) q_text u_8.2.1 u_8.2.2.1 x_at_24 x_wrong_24 (.ref q_told) w_rule w_otherRule x_ruleSize x_isAsked w_asked w_undos x_undoMany w_aside w_then w_hold x_dropped w_acts w_guarded w_train x_trolleyEnd w_feltOf w_feltBy x_feltMany w_many w_heardOf w_heardBy x_heardMany w_worth x_drawn x_came w_kept w_isKept w_keptCame 80 f_text _ hg) hP hD hS hA [0, 1] [2, 3] (by decide +kernel) rfl rfl (fun _ => rfl) rfl rfl ⟨Nat.le_of_ble_eq_true rfl, Nat.le_of_ble_eq_true rfl⟩ rfl hl.1 rfl (Nat.le_of_ble_eq_true rfl) dX8_cats_69 ⟨Nat.le_of_ble_eq_true rfl, Nat.le_of_ble_eq_true rfl⟩ ?_
        intro r_69 u_69 H locs hg hP hD hS
        obtain ⟨g_72, hg⟩ := hg
        refine k_iast C0 hP hD hS 0 rfl g_72 (ws' := [(q_told, aI cT 24 (upd f_told_24 ((3 : Int32) * y1_24).toNatClampNeg r_69)), (q_now, aI cT 47 f_now), (h, oX8 (.ref q_now) (.int x_arches) (.int x_cats) (.ref q_text) (.int u_8.1) w_row (.int x_rowMany) (.int (0 : Int32)) (.ref q_text) (.int u_8.2.1) (.int u_8.2.2.1) (.int u_69.1) (.int u_69.2) (.ref q_told) w_rule w_otherRule (.int x_ruleSize) (.int x_isAsked) w_asked w_undos (.int x_undoMany) w_aside w_then w_hold (.int x_dropped) w_acts w_guarded w_train (.int x_trolleyEnd) w_feltOf w_feltBy (.int x_feltMany) w_many w_heardOf w_heardBy (.int x_heardMany) w_worth (.int x_drawn) (.int x_came) w_kept w_isKept w_keptCame), (q_text, aB cT 80 f_text)]) rfl dX8_cats_72 (fun H locs hP hD hS => ?_)
        refine lv_aload_n hx hb dX8_cats_73 rfl (lv_at hl 0 rfl) ?_
        refine gf_X8_21 C0 hP 2 rfl rfl dX8_cats_74 ?_
        refine lv_iconst (v := (3 : Int32)) hx hb dX8_cats_77 (by decide) ?_
        refine lv_iload_n hx hb dX8_cats_78 rfl (lv_at hl 1 rfl) ?_
        refine lv_imul hx hb dX8_cats_79 ?_
        refine lv_iconst (v := (1 : Int32)) hx hb dX8_cats_80 (by decide) ?_
        refine lv_iadd hx hb dX8_cats_81 ?_
        refine lv_aload_n hx hb dX8_cats_82 rfl (lv_at hl 0 rfl) ?_
        refine lv_bipush (v := (48 : Int32)) hx hb dX8_cats_83 (by decide) ?_
        refine lv_bipush (v := (10 : Int32)) hx hb dX8_cats_85 (by decide) ?_
        refine k_Vi (rest := [.int (((3 : Int32) * y1_24) + (1 : Int32)), .ref q_told]) (wr := [(q_told, aI cT 24 (upd f_told_24 ((3 : Int32) * y1_24).toNatClampNeg r_69)), (q_now, aI cT 47 f_now)]) (w2 := fun u_87 => [(q_told, aI cT 24 (upd f_told_24 ((3 : Int32) * y1_24).toNatClampNeg r_69)), (q_now, aI cT 47 f_now), (h, oX8 (.ref q_now) (.int x_arches) (.int x_cats) (.ref q_text) (.int u_8.1) w_row (.int x_rowMany) (.int (0 : Int32)) (.ref q_text) (.int u_8.2.1) (.int u_8.2.2.1) (.int u_87.1) (.int u_87.2) (.ref q_told) w_rule w_otherRule (.int x_ruleSize) (.int x_isAsked) w_asked w_undos (.int x_undoMany) w_aside w_then w_hold (.int x_dropped) w_acts w_guarded w_train (.int x_trolleyEnd) w_feltOf w_feltBy (.int x_feltMany) w_many w_heardOf w_heardBy (.int x_heardMany) w_worth (.int x_drawn) (.int x_came) w_kept w_isKept w_keptCame), (q_text, aB cT 80 f_text)]) C0 lk_X8_137 (c_X8_oneOf l D cT F h (48 : Int32) (10 : Int32) (.ref q_now) x_arches x_cats (.ref q_text) u_8.1 w_row x_rowMany (0 : Int32) q_text u_8.2.1 u_8.2.2.1 u_69.1 u_69.2 (.ref q_told) w_rule w_otherRule x_ruleSize x_isAsked w_asked w_undos x_undoMany w_aside w_then w_hold x_dropped w_acts w_guarded w_train x_trolleyEnd w_feltOf w_feltBy x_feltMany w_many w_heardOf w_heardBy x_heardMany w_worth x_drawn x_came w_kept w_isKept w_keptCame 80 f_text _ hg) hP hD hS hA [2, 3] [0, 1] (by decide +kernel) rfl rfl (fun _ => rfl) rfl rfl ⟨Nat.le_of_ble_eq_true rfl, Nat.le_of_ble_eq_true rfl⟩ rfl hl.1 rfl (Nat.le_of_ble_eq_true rfl) dX8_cats_87 ⟨Nat.le_of_ble_eq_true rfl, Nat.le_of_ble_eq_true rfl⟩ ?_
        intro r_87 u_87 H locs hg hP hD hS
        obtain ⟨g_90, hg⟩ := hg
        refine k_iast C0 hP hD hS 0 rfl g_90 (ws' := [(q_told, aI cT 24 (upd (upd f_told_24 ((3 : Int32) * y1_24).toNatClampNeg r_69) (((3 : Int32) * y1_24) + (1 : Int32)).toNatClampNeg r_87)), (q_now, aI cT 47 f_now), (h, oX8 (.ref q_now) (.int x_arches) (.int x_cats) (.ref q_text) (.int u_8.1) w_row (.int x_rowMany) (.int (0 : Int32)) (.ref q_text) (.int u_8.2.1) (.int u_8.2.2.1) (.int u_87.1) (.int u_87.2) (.ref q_told) w_rule w_otherRule (.int x_ruleSize) (.int x_isAsked) w_asked w_undos (.int x_undoMany) w_aside w_then w_hold (.int x_dropped) w_acts w_guarded w_train (.int x_trolleyEnd) w_feltOf w_feltBy (.int x_feltMany) w_many w_heardOf w_heardBy (.int x_heardMany) w_worth (.int x_drawn) (.int x_came) w_kept w_isKept w_keptCame), (q_text, aB cT 80 f_text)]) rfl dX8_cats_90 (fun H locs hP hD hS => ?_)
        refine lv_aload_n hx hb dX8_cats_91 rfl (lv_at hl 0 rfl) ?_
        refine gf_X8_21 C0 hP 2 rfl rfl dX8_cats_92 ?_
        refine lv_iconst (v := (3 : Int32)) hx hb dX8_cats_95 (by decide) ?_
        refine lv_iload_n hx hb dX8_cats_96 rfl (lv_at hl 1 rfl) ?_
        refine lv_imul hx hb dX8_cats_97 ?_
        refine lv_iconst (v := (2 : Int32)) hx hb dX8_cats_98 (by decide) ?_
        refine lv_iadd hx hb dX8_cats_99 ?_
        refine lv_aload_n hx hb dX8_cats_100 rfl (lv_at hl 0 rfl) ?_
        refine lv_bipush (v := (48 : Int32)) hx hb dX8_cats_101 (by decide) ?_
        refine lv_aload_n hx hb dX8_cats_103 rfl (lv_at hl 0 rfl) ?_
        refine gf_X8_89 C0 hP 2 rfl rfl dX8_cats_104 ?_
        refine k_Vi (rest := [.int (((3 : Int32) * y1_24) + (2 : Int32)), .ref q_told]) (wr := [(q_told, aI cT 24 (upd (upd f_told_24 ((3 : Int32) * y1_24).toNatClampNeg r_69) (((3 : Int32) * y1_24) + (1 : Int32)).toNatClampNeg r_87)), (q_now, aI cT 47 f_now)]) (w2 := fun u_107 => [(q_told, aI cT 24 (upd (upd f_told_24 ((3 : Int32) * y1_24).toNatClampNeg r_69) (((3 : Int32) * y1_24) + (1 : Int32)).toNatClampNeg r_87)), (q_now, aI cT 47 f_now), (h, oX8 (.ref q_now) (.int x_arches) (.int x_cats) (.ref q_text) (.int u_8.1) w_row (.int x_rowMany) (.int (0 : Int32)) (.ref q_text) (.int u_8.2.1) (.int u_8.2.2.1) (.int u_107.1) (.int u_107.2) (.ref q_told) w_rule w_otherRule (.int x_ruleSize) (.int x_isAsked) w_asked w_undos (.int x_undoMany) w_aside w_then w_hold (.int x_dropped) w_acts w_guarded w_train (.int x_trolleyEnd) w_feltOf w_feltBy (.int x_feltMany) w_many w_heardOf w_heardBy (.int x_heardMany) w_worth (.int x_drawn) (.int x_came) w_kept w_isKept w_keptCame), (q_text, aB cT 80 f_text)]) C0 lk_X8_137 (c_X8_oneOf l D cT F h (48 : Int32) x_arches (.ref q_now) x_arches x_cats (.ref q_text) u_8.1 w_row x_rowMany (0 : Int32) q_text u_8.2.1 u_8.2.2.1 u_87.1 u_87.2 (.ref q_told) w_rule w_otherRule x_ruleSize x_isAsked w_asked w_undos x_undoMany w_aside w_then w_hold x_dropped w_acts w_guarded w_train x_trolleyEnd w_feltOf w_feltBy x_feltMany w_many w_heardOf w_heardBy x_heardMany w_worth x_drawn x_came w_kept w_isKept w_keptCame 80 f_text _ hg) hP hD hS hA [2, 3] [0, 1] (by decide +kernel) rfl rfl (fun _ => rfl) rfl rfl ⟨Nat.le_of_ble_eq_true rfl, Nat.le_of_ble_eq_true rfl⟩ rfl hl.1 rfl (Nat.le_of_ble_eq_true rfl) dX8_cats_107 ⟨Nat.le_of_ble_eq_true rfl, Nat.le_of_ble_eq_true rfl⟩ ?_
        intro r_107 u_107 H locs hg hP hD hS
        obtain ⟨g_110, hg⟩ := hg
        refine k_iast C0 hP hD hS 0 rfl g_110 (ws' := [(q_told, aI cT 24 (upd (upd (upd f_told_24 ((3 : Int32) * y1_24).toNatClampNeg r_69) (((3 : Int32) * y1_24) + (1 : Int32)).toNatClampNeg r_87) (((3 : Int32) * y1_24) + (2 : Int32)).toNatClampNeg r_107)), (q_now, aI cT 47 f_now), (h, oX8 (.ref q_now) (.int x_arches) (.int x_cats) (.ref q_text) (.int u_8.1) w_row (.int x_rowMany) (.int (0 : Int32)) (.ref q_text) (.int u_8.2.1) (.int u_8.2.2.1) (.int u_107.1) (.int u_107.2) (.ref q_told) w_rule w_otherRule (.int x_ruleSize) (.int x_isAsked) w_asked w_undos (.int x_undoMany) w_aside w_then w_hold (.int x_dropped) w_acts w_guarded w_train (.int x_trolleyEnd) w_feltOf w_feltBy (.int x_feltMany) w_many w_heardOf w_heardBy (.int x_heardMany) w_worth (.int x_drawn) (.int x_came) w_kept w_isKept w_keptCame), (q_text, aB cT 80 f_text)]) rfl dX8_cats_110 (fun H locs hP hD hS => ?_)
        exact L111 y1_24 u_107.1 u_107.2 (upd (upd (upd f_told_24 ((3 : Int32) * y1_24).toNatClampNeg r_69) (((3 : Int32) * y1_24) + (1 : Int32)).toNatClampNeg r_87) (((3 : Int32) * y1_24) + (2 : Int32)).toNatClampNeg r_107) _ _ _ hg (subP hP [2, 3, 0, 1] rfl) (hD.sub [2, 3, 0, 1] (nd2_ok _ (by decide +kernel)) rfl) hS (lv_sub hl [0, 1] rfl)
      have hg := hg.2 c_43
      refine lv_aload_n hx hb dX8_cats_46 rfl (lv_at hl 0 rfl) ?_
      refine lv_aload_n hx hb dX8_cats_47 rfl (lv_at hl 0 rfl) ?_
      refine gf_X8_111 C0 hP 0 rfl rfl dX8_cats_48 ?_
      refine k_Vv (rest := []) (wr := [(q_text, aB cT 80 f_text), (q_told, aI cT 24 f_told_24), (q_now, aI cT 47 f_now)]) (w2 := fun u_51 => [(q_text, aB cT 80 f_text), (q_told, aI cT 24 f_told_24), (q_now, aI cT 47 f_now), (h, oX8 (.ref q_now) (.int x_arches) (.int x_cats) (.ref q_text) (.int u_8.1) w_row (.int x_rowMany) (.int (0 : Int32)) (.ref q_text) (.int u_8.2.1) (.int u_8.2.2.1) (.int x_at_24) (.int u_51) (.ref q_told) w_rule w_otherRule (.int x_ruleSize) (.int x_isAsked) w_asked w_undos (.int x_undoMany) w_aside w_then w_hold (.int x_dropped) w_acts w_guarded w_train (.int x_trolleyEnd) w_feltOf w_feltBy (.int x_feltMany) w_many w_heardOf w_heardBy (.int x_heardMany) w_worth (.int x_drawn) (.int x_came) w_kept w_isKept w_keptCame)]) C0 lk_X8_133 (c_X8_fault l D cT F h x_at_24 (.ref q_now) x_arches x_cats (.ref q_text) u_8.1 w_row x_rowMany (0 : Int32) (.ref q_text) u_8.2.1 u_8.2.2.1 x_at_24 x_wrong_24 (.ref q_told) w_rule w_otherRule x_ruleSize x_isAsked w_asked w_undos x_undoMany w_aside w_then w_hold x_dropped w_acts w_guarded w_train x_trolleyEnd w_feltOf w_feltBy x_feltMany w_many w_heardOf w_heardBy x_heardMany w_worth x_drawn x_came w_kept w_isKept w_keptCame _ hg) hP hD hS hA [0] [1, 2, 3] (by decide +kernel) rfl rfl (fun _ => rfl) rfl rfl ⟨Nat.le_of_ble_eq_true rfl, Nat.le_of_ble_eq_true rfl⟩ rfl hl.1 rfl (Nat.le_of_ble_eq_true rfl) dX8_cats_51 ⟨Nat.le_of_ble_eq_true rfl, Nat.le_of_ble_eq_true rfl⟩ ?_
      intro u_51 H locs hg hP hD hS
      refine lv_goto (tgt := 111) hx hb dX8_cats_54 (by decide) ?_
      exact L111 y1_24 x_at_24 u_51 f_told_24 _ _ _ hg (subP hP [3, 0, 1, 2] rfl) (hD.sub [3, 0, 1, 2] (nd2_ok _ (by decide +kernel)) rfl) hS (lv_sub hl [0, 1] rfl)
  unfold p_X8_cats at hg
  refine lv_aload_n hx hb dX8_cats_0 rfl (lv_at hl 0 rfl) ?_
  refine lv_iconst (v := (0 : Int32)) hx hb dX8_cats_1 (by decide) ?_
  refine pf_X8_82 C0 hP hD hS 0 rfl (Nat.le_of_ble_eq_true rfl) (ws2 := [(h, oX8 (.ref q_now) (.int x_arches) (.int x_cats) (.ref q_text) (.int x_typed) w_row (.int x_rowMany) (.int (0 : Int32)) w_read (.int x_length) (.int x_top) (.int x_at) (.int x_wrong) (.ref q_told) w_rule w_otherRule (.int x_ruleSize) (.int x_isAsked) w_asked w_undos (.int x_undoMany) w_aside w_then w_hold (.int x_dropped) w_acts w_guarded w_train (.int x_trolleyEnd) w_feltOf w_feltBy (.int x_feltMany) w_many w_heardOf w_heardBy (.int x_heardMany) w_worth (.int x_drawn) (.int x_came) w_kept w_isKept w_keptCame), (q_text, aB cT 80 f_text), (q_told, aI cT 24 f_told), (q_now, aI cT 47 f_now)]) rfl dX8_cats_2 (fun H locs hP hD hS => ?_)
  refine lv_aload_n hx hb dX8_cats_5 rfl (lv_at hl 0 rfl) ?_
  refine lv_bipush (v := (31 : Int32)) hx hb dX8_cats_6 (by decide) ?_
  refine k_Vv (rest := []) (wr := [(q_text, aB cT 80 f_text), (q_told, aI cT 24 f_told), (q_now, aI cT 47 f_now)]) (w2 := fun u_8 => [(q_text, aB cT 80 f_text), (q_told, aI cT 24 f_told), (q_now, aI cT 47 f_now), (h, oX8 (.ref q_now) (.int x_arches) (.int x_cats) (.ref q_text) (.int u_8.1) w_row (.int x_rowMany) (.int (0 : Int32)) (.ref q_text) (.int u_8.2.1) (.int u_8.2.2.1) (.int u_8.2.2.2.1) (.int u_8.2.2.2.2) (.ref q_told) w_rule w_otherRule (.int x_ruleSize) (.int x_isAsked) w_asked w_undos (.int x_undoMany) w_aside w_then w_hold (.int x_dropped) w_acts w_guarded w_train (.int x_trolleyEnd) w_feltOf w_feltBy (.int x_feltMany) w_many w_heardOf w_heardBy (.int x_heardMany) w_worth (.int x_drawn) (.int x_came) w_kept w_isKept w_keptCame)]) C0 lk_X8_147 (c_X8_beginText l D cT F h (31 : Int32) (.ref q_now) x_arches x_cats q_text x_typed w_row x_rowMany (0 : Int32) w_read x_length x_top x_at x_wrong (.ref q_told) w_rule w_otherRule x_ruleSize x_isAsked w_asked w_undos x_undoMany w_aside w_then w_hold x_dropped w_acts w_guarded w_train x_trolleyEnd w_feltOf w_feltBy x_feltMany w_many w_heardOf w_heardBy x_heardMany w_worth x_drawn x_came w_kept w_isKept w_keptCame _ hg) hP hD hS hA [0] [1, 2, 3] (by decide +kernel) rfl rfl (fun _ => rfl) rfl rfl ⟨Nat.le_of_ble_eq_true rfl, Nat.le_of_ble_eq_true rfl⟩ rfl hl.1 rfl (Nat.le_of_ble_eq_true rfl) dX8_cats_8 ⟨Nat.le_of_ble_eq_true rfl, Nat.le_of_ble_eq_true rfl⟩ ?_
  intro u_8 H locs hg hP hD hS
  refine lv_aload_n hx hb dX8_cats_11 rfl (lv_at hl 0 rfl) ?_
  refine gf_X8_105 C0 hP 3 rfl rfl dX8_cats_12 ?_
  refine lv_if_ne (tgt := 20) hx hb dX8_cats_15 (by decide) (fun c_15 => ?_) (fun c_15 => ?_)
  · have hg := hg.1 c_15
    refine lv_iconst (v := (0 : Int32)) hx hb dX8_cats_20 (by decide) ?_
    refine lv_istore_n (lv' := [(1, .int (0 : Int32)), (0, .ref h)]) hx hb dX8_cats_21 rfl hl (by decide) rfl (fun ls hl => ?_)
    refine lv_iconst (v := (1 : Int32)) hx hb dX8_cats_22 (by decide) ?_
    refine lv_istore_n (lv' := [(2, .int (1 : Int32)), (1, .int (0 : Int32)), (0, .ref h)]) hx hb dX8_cats_23 rfl hl (by decide) rfl (fun ls hl => ?_)
    exact L24 u_8 F (1 : Int32) (0 : Int32) u_8.2.2.2.1 u_8.2.2.2.2 f_told _ _ _ hg (subP hP [3, 0, 1, 2] rfl) (hD.sub [3, 0, 1, 2] (nd2_ok _ (by decide +kernel)) rfl) hS (lv_sub hl [2, 1, 0] rfl)
  have hg := hg.2 c_15
  refine lv_iconst (v := (0 : Int32)) hx hb dX8_cats_18 (by decide) ?_
  exact k_iret C0 hr (x_cats, u_8.1, (0 : Int32), u_8.2.1, u_8.2.2.1, u_8.2.2.2.1, u_8.2.2.2.2, x_undoMany, x_came, f_told, f_now) hg (subP hP [3, 0, 1, 2] rfl) (hD.sub [3, 0, 1, 2] (nd2_ok _ (by decide +kernel)) rfl) hS dX8_cats_19
theorem dX8_letterOf_0 : decode cX8_letterOf 0 = .ok (.iload_n 0, 1) := by decide +kernel
theorem dX8_letterOf_1 : decode cX8_letterOf 1 = .ok (.bipush 106, 2) := by decide +kernel
theorem dX8_letterOf_3 : decode cX8_letterOf 3 = .ok (.if_icmp .ne 7, 3) := by decide +kernel
theorem dX8_letterOf_6 : decode cX8_letterOf 6 = .ok (.iconst 0, 1) := by decide +kernel
theorem dX8_letterOf_7 : decode cX8_letterOf 7 = .ok (.goto 65, 3) := by decide +kernel
theorem dX8_letterOf_10 : decode cX8_letterOf 10 = .ok (.iload_n 0, 1) := by decide +kernel
theorem dX8_letterOf_11 : decode cX8_letterOf 11 = .ok (.bipush 98, 2) := by decide +kernel
theorem dX8_letterOf_13 : decode cX8_letterOf 13 = .ok (.if_icmp .ne 7, 3) := by decide +kernel
theorem dX8_letterOf_16 : decode cX8_letterOf 16 = .ok (.iconst 1, 1) := by decide +kernel
theorem dX8_letterOf_17 : decode cX8_letterOf 17 = .ok (.goto 55, 3) := by decide +kernel
theorem dX8_letterOf_20 : decode cX8_letterOf 20 = .ok (.iload_n 0, 1) := by decide +kernel
theorem dX8_letterOf_21 : decode cX8_letterOf 21 = .ok (.bipush 103, 2) := by decide +kernel
theorem dX8_letterOf_23 : decode cX8_letterOf 23 = .ok (.if_icmp .ne 7, 3) := by decide +kernel
theorem dX8_letterOf_26 : decode cX8_letterOf 26 = .ok (.iconst 2, 1) := by decide +kernel
theorem dX8_letterOf_27 : decode cX8_letterOf 27 = .ok (.goto 45, 3) := by decide +kernel
theorem dX8_letterOf_30 : decode cX8_letterOf 30 = .ok (.iload_n 0, 1) := by decide +kernel
theorem dX8_letterOf_31 : decode cX8_letterOf 31 = .ok (.bipush 107, 2) := by decide +kernel
theorem dX8_letterOf_33 : decode cX8_letterOf 33 = .ok (.if_icmp .ne 7, 3) := by decide +kernel
theorem dX8_letterOf_36 : decode cX8_letterOf 36 = .ok (.iconst 3, 1) := by decide +kernel
theorem dX8_letterOf_37 : decode cX8_letterOf 37 = .ok (.goto 35, 3) := by decide +kernel
theorem dX8_letterOf_40 : decode cX8_letterOf 40 = .ok (.iload_n 0, 1) := by decide +kernel
theorem dX8_letterOf_41 : decode cX8_letterOf 41 = .ok (.bipush 108, 2) := by decide +kernel
theorem dX8_letterOf_43 : decode cX8_letterOf 43 = .ok (.if_icmp .ne 7, 3) := by decide +kernel
theorem dX8_letterOf_46 : decode cX8_letterOf 46 = .ok (.iconst 4, 1) := by decide +kernel
theorem dX8_letterOf_47 : decode cX8_letterOf 47 = .ok (.goto 25, 3) := by decide +kernel
theorem dX8_letterOf_50 : decode cX8_letterOf 50 = .ok (.iload_n 0, 1) := by decide +kernel
theorem dX8_letterOf_51 : decode cX8_letterOf 51 = .ok (.bipush 115, 2) := by decide +kernel
theorem dX8_letterOf_53 : decode cX8_letterOf 53 = .ok (.if_icmp .ne 7, 3) := by decide +kernel
theorem dX8_letterOf_56 : decode cX8_letterOf 56 = .ok (.iconst 5, 1) := by decide +kernel
theorem dX8_letterOf_57 : decode cX8_letterOf 57 = .ok (.goto 15, 3) := by decide +kernel
theorem dX8_letterOf_60 : decode cX8_letterOf 60 = .ok (.iload_n 0, 1) := by decide +kernel
theorem dX8_letterOf_61 : decode cX8_letterOf 61 = .ok (.bipush 110, 2) := by decide +kernel
theorem dX8_letterOf_63 : decode cX8_letterOf 63 = .ok (.if_icmp .ne 8, 3) := by decide +kernel
theorem dX8_letterOf_66 : decode cX8_letterOf 66 = .ok (.bipush 6, 2) := by decide +kernel
theorem dX8_letterOf_68 : decode cX8_letterOf 68 = .ok (.goto 4, 3) := by decide +kernel
theorem dX8_letterOf_71 : decode cX8_letterOf 71 = .ok (.iconst (-1), 1) := by decide +kernel
theorem dX8_letterOf_72 : decode cX8_letterOf 72 = .ok (.ireturn, 1) := by decide +kernel
def p_X8_letterOf (F : Nat) (p0 : Int32) (Post : Int32 → Prop) : Prop := ((¬ p0 = (106 : Int32) → ((¬ p0 = (98 : Int32) → ((¬ p0 = (103 : Int32) → ((¬ p0 = (107 : Int32) → ((¬ p0 = (108 : Int32) → ((¬ p0 = (115 : Int32) → ((¬ p0 = (110 : Int32) → (Post (-1 : Int32))) ∧ (p0 = (110 : Int32) → (Post (6 : Int32))))) ∧ (p0 = (115 : Int32) → (Post (5 : Int32))))) ∧ (p0 = (108 : Int32) → (Post (4 : Int32))))) ∧ (p0 = (107 : Int32) → (Post (3 : Int32))))) ∧ (p0 = (103 : Int32) → (Post (2 : Int32))))) ∧ (p0 = (98 : Int32) → (Post (1 : Int32))))) ∧ (p0 = (106 : Int32) → (Post (0 : Int32))))
set_option maxHeartbeats 4000000 in
set_option maxRecDepth 100000 in
theorem c_X8_letterOf (l : Launch) (D : va_G) (cT : Nat → ClassId) (F : Nat) (p0 : Int32) (Post : Int32 → Prop) (hg : p_X8_letterOf F p0 Post) : MRi l D cT yX8_letterOf cX8_letterOf 1 (some .int) 0 0 [.int p0] [] Post := by
  refine MRi.of (by decide) (Nat.le_of_ble_eq_true rfl) ?_
  intro p e s m below meth c hA C0 hr hP hD hS ls hl
  have hl : lv_has ls 1 [(0, .int p0)] := hl
  have hx := C0.x
  have hb := C0.b
  have hP : va_P D cls9 [] s.heap := hP
  have hD : va_D (fun q => cT 6 ≤ q) [] := hD
  unfold p_X8_letterOf at hg
  refine lv_iload_n hx hb dX8_letterOf_0 rfl (lv_at hl 0 rfl) ?_
  refine lv_bipush (v := (106 : Int32)) hx hb dX8_letterOf_1 (by decide) ?_
  refine lv_icmp_ne (tgt := 10) hx hb dX8_letterOf_3 (by decide) (fun c_3 => ?_) (fun c_3 => ?_)
  · have hg := hg.1 c_3
    refine lv_iload_n hx hb dX8_letterOf_10 rfl (lv_at hl 0 rfl) ?_
    refine lv_bipush (v := (98 : Int32)) hx hb dX8_letterOf_11 (by decide) ?_
    refine lv_icmp_ne (tgt := 20) hx hb dX8_letterOf_13 (by decide) (fun c_13 => ?_) (fun c_13 => ?_)
    · have hg := hg.1 c_13
      refine lv_iload_n hx hb dX8_letterOf_20 rfl (lv_at hl 0 rfl) ?_
      refine lv_bipush (v := (103 : Int32)) hx hb dX8_letterOf_21 (by decide) ?_
      refine lv_icmp_ne (tgt := 30) hx hb dX8_letterOf_23 (by decide) (fun c_23 => ?_) (fun c_23 => ?_)
      · have hg := hg.1 c_23
        refine lv_iload_n hx hb dX8_letterOf_30 rfl (lv_at hl 0 rfl) ?_
        refine lv_bipush (v := (107 : Int32)) hx hb dX8_letterOf_31 (by decide) ?_
        refine lv_icmp_ne (tgt := 40) hx hb dX8_letterOf_33 (by decide) (fun c_33 => ?_) (fun c_33 => ?_)
        · have hg := hg.1 c_33
          refine lv_iload_n hx hb dX8_letterOf_40 rfl (lv_at hl 0 rfl) ?_
          refine lv_bipush (v := (108 : Int32)) hx hb dX8_letterOf_41 (by decide) ?_
          refine lv_icmp_ne (tgt := 50) hx hb dX8_letterOf_43 (by decide) (fun c_43 => ?_) (fun c_43 => ?_)
          · have hg := hg.1 c_43
            refine lv_iload_n hx hb dX8_letterOf_50 rfl (lv_at hl 0 rfl) ?_
            refine lv_bipush (v := (115 : Int32)) hx hb dX8_letterOf_51 (by decide) ?_
            refine lv_icmp_ne (tgt := 60) hx hb dX8_letterOf_53 (by decide) (fun c_53 => ?_) (fun c_53 => ?_)
            · have hg := hg.1 c_53
              refine lv_iload_n hx hb dX8_letterOf_60 rfl (lv_at hl 0 rfl) ?_
              refine lv_bipush (v := (110 : Int32)) hx hb dX8_letterOf_61 (by decide) ?_
              refine lv_icmp_ne (tgt := 71) hx hb dX8_letterOf_63 (by decide) (fun c_63 => ?_) (fun c_63 => ?_)
              · have hg := hg.1 c_63
                refine lv_iconst (v := (-1 : Int32)) hx hb dX8_letterOf_71 (by decide) ?_
                exact k_xiret C0 hr hg dX8_letterOf_72
              have hg := hg.2 c_63
              refine lv_bipush (v := (6 : Int32)) hx hb dX8_letterOf_66 (by decide) ?_
              refine lv_goto (tgt := 72) hx hb dX8_letterOf_68 (by decide) ?_
              exact k_xiret C0 hr hg dX8_letterOf_72
            have hg := hg.2 c_53
            refine lv_iconst (v := (5 : Int32)) hx hb dX8_letterOf_56 (by decide) ?_
            refine lv_goto (tgt := 72) hx hb dX8_letterOf_57 (by decide) ?_
            exact k_xiret C0 hr hg dX8_letterOf_72
          have hg := hg.2 c_43
          refine lv_iconst (v := (4 : Int32)) hx hb dX8_letterOf_46 (by decide) ?_
          refine lv_goto (tgt := 72) hx hb dX8_letterOf_47 (by decide) ?_
          exact k_xiret C0 hr hg dX8_letterOf_72
        have hg := hg.2 c_33
        refine lv_iconst (v := (3 : Int32)) hx hb dX8_letterOf_36 (by decide) ?_
        refine lv_goto (tgt := 72) hx hb dX8_letterOf_37 (by decide) ?_
        exact k_xiret C0 hr hg dX8_letterOf_72
      have hg := hg.2 c_23
      refine lv_iconst (v := (2 : Int32)) hx hb dX8_letterOf_26 (by decide) ?_
      refine lv_goto (tgt := 72) hx hb dX8_letterOf_27 (by decide) ?_
      exact k_xiret C0 hr hg dX8_letterOf_72
    have hg := hg.2 c_13
    refine lv_iconst (v := (1 : Int32)) hx hb dX8_letterOf_16 (by decide) ?_
    refine lv_goto (tgt := 72) hx hb dX8_letterOf_17 (by decide) ?_
    exact k_xiret C0 hr hg dX8_letterOf_72
  have hg := hg.2 c_3
  refine lv_iconst (v := (0 : Int32)) hx hb dX8_letterOf_6 (by decide) ?_
  refine lv_goto (tgt := 72) hx hb dX8_letterOf_7 (by decide) ?_
  exact k_xiret C0 hr hg dX8_letterOf_72
theorem dX8_product_0 : decode cX8_product 0 = .ok (.aload_n 0, 1) := by decide +kernel
theorem dX8_product_1 : decode cX8_product 1 = .ok (.iload_n 1, 1) := by decide +kernel
theorem dX8_product_2 : decode cX8_product 2 = .ok (.invokevirtual 163, 3) := by decide +kernel
theorem dX8_product_5 : decode cX8_product 5 = .ok (.istore_n 2, 1) := by decide +kernel
theorem dX8_product_6 : decode cX8_product 6 = .ok (.aload_n 0, 1) := by decide +kernel
theorem dX8_product_7 : decode cX8_product 7 = .ok (.invokevirtual 121, 3) := by decide +kernel
theorem dX8_product_10 : decode cX8_product 10 = .ok (.ifCond .eq 81, 3) := by decide +kernel
theorem dX8_product_13 : decode cX8_product 13 = .ok (.aload_n 0, 1) := by decide +kernel
theorem dX8_product_14 : decode cX8_product 14 = .ok (.invokevirtual 125, 3) := by decide +kernel
theorem dX8_product_17 : decode cX8_product 17 = .ok (.bipush 42, 2) := by decide +kernel
theorem dX8_product_19 : decode cX8_product 19 = .ok (.if_icmp .eq 12, 3) := by decide +kernel
theorem dX8_product_22 : decode cX8_product 22 = .ok (.aload_n 0, 1) := by decide +kernel
theorem dX8_product_23 : decode cX8_product 23 = .ok (.invokevirtual 125, 3) := by decide +kernel
theorem dX8_product_26 : decode cX8_product 26 = .ok (.bipush 47, 2) := by decide +kernel
theorem dX8_product_28 : decode cX8_product 28 = .ok (.if_icmp .ne 63, 3) := by decide +kernel
theorem dX8_product_31 : decode cX8_product 31 = .ok (.aload_n 0, 1) := by decide +kernel
theorem dX8_product_32 : decode cX8_product 32 = .ok (.invokevirtual 125, 3) := by decide +kernel
theorem dX8_product_35 : decode cX8_product 35 = .ok (.bipush 42, 2) := by decide +kernel
theorem dX8_product_37 : decode cX8_product 37 = .ok (.if_icmp .ne 7, 3) := by decide +kernel
theorem dX8_product_40 : decode cX8_product 40 = .ok (.iconst 1, 1) := by decide +kernel
theorem dX8_product_41 : decode cX8_product 41 = .ok (.goto 4, 3) := by decide +kernel
theorem dX8_product_44 : decode cX8_product 44 = .ok (.iconst 0, 1) := by decide +kernel
theorem dX8_product_45 : decode cX8_product 45 = .ok (.istore_n 3, 1) := by decide +kernel
theorem dX8_product_46 : decode cX8_product 46 = .ok (.aload_n 0, 1) := by decide +kernel
theorem dX8_product_47 : decode cX8_product 47 = .ok (.dup, 1) := by decide +kernel
theorem dX8_product_48 : decode cX8_product 48 = .ok (.getfield 111, 3) := by decide +kernel
theorem dX8_product_51 : decode cX8_product 51 = .ok (.iconst 1, 1) := by decide +kernel
theorem dX8_product_52 : decode cX8_product 52 = .ok (.iadd, 1) := by decide +kernel
theorem dX8_product_53 : decode cX8_product 53 = .ok (.putfield 111, 3) := by decide +kernel
theorem dX8_product_56 : decode cX8_product 56 = .ok (.aload_n 0, 1) := by decide +kernel
theorem dX8_product_57 : decode cX8_product 57 = .ok (.iload_n 1, 1) := by decide +kernel
theorem dX8_product_58 : decode cX8_product 58 = .ok (.invokevirtual 163, 3) := by decide +kernel
theorem dX8_product_61 : decode cX8_product 61 = .ok (.istore 4, 2) := by decide +kernel
theorem dX8_product_63 : decode cX8_product 63 = .ok (.iload_n 3, 1) := by decide +kernel
theorem dX8_product_64 : decode cX8_product 64 = .ok (.ifCond .eq 10, 3) := by decide +kernel
theorem dX8_product_67 : decode cX8_product 67 = .ok (.iload_n 2, 1) := by decide +kernel
theorem dX8_product_68 : decode cX8_product 68 = .ok (.iload 4, 2) := by decide +kernel
theorem dX8_product_70 : decode cX8_product 70 = .ok (.imul, 1) := by decide +kernel
theorem dX8_product_71 : decode cX8_product 71 = .ok (.goto 16, 3) := by decide +kernel
theorem dX8_product_74 : decode cX8_product 74 = .ok (.iload 4, 2) := by decide +kernel
theorem dX8_product_76 : decode cX8_product 76 = .ok (.ifCond .ne 7, 3) := by decide +kernel
theorem dX8_product_79 : decode cX8_product 79 = .ok (.iconst 0, 1) := by decide +kernel
theorem dX8_product_80 : decode cX8_product 80 = .ok (.goto 7, 3) := by decide +kernel
theorem dX8_product_83 : decode cX8_product 83 = .ok (.iload_n 2, 1) := by decide +kernel
theorem dX8_product_84 : decode cX8_product 84 = .ok (.iload 4, 2) := by decide +kernel
theorem dX8_product_86 : decode cX8_product 86 = .ok (.idiv, 1) := by decide +kernel
theorem dX8_product_87 : decode cX8_product 87 = .ok (.istore_n 2, 1) := by decide +kernel
theorem dX8_product_88 : decode cX8_product 88 = .ok (.goto (-82), 3) := by decide +kernel
theorem dX8_product_91 : decode cX8_product 91 = .ok (.iload_n 2, 1) := by decide +kernel
theorem dX8_product_92 : decode cX8_product 92 = .ok (.ireturn, 1) := by decide +kernel
def p_X8_product_87 (F : Nat) (T : Int32 → Int32 → Int32 → Int32 → Int32 → Int32 → Nat → (Nat → Int32) → (Nat → Int32) → (Int32 → (Int32 × Int32) → Prop) → Prop) (u_58 : (Int32 × Int32)) (k6 : Int32 → Int32 → Int32 → Prop) (Post : Int32 → (Int32 × Int32) → Prop) (s0_87 : Int32) : Prop := (k6 s0_87 u_58.1 u_58.2)
def p_X8_product_45 (F : Nat) (T : Int32 → Int32 → Int32 → Int32 → Int32 → Int32 → Nat → (Nat → Int32) → (Nat → Int32) → (Int32 → (Int32 × Int32) → Prop) → Prop) (p1 : Int32) (x_length : Int32) (x_top : Int32) (x_isAsked : Int32) (n_read : Nat) (f_read : Nat → Int32) (f_asked : Nat → Int32) (y2_6 : Int32) (x_at_6 : Int32) (x_wrong_6 : Int32) (k6 : Int32 → Int32 → Int32 → Prop) (Post : Int32 → (Int32 × Int32) → Prop) (s0_45 : Int32) : Prop := (T p1 x_length x_top (x_at_6 + (1 : Int32)) x_wrong_6 x_isAsked n_read f_read f_asked (fun (r_58 : Int32) (u_58 : (Int32 × Int32)) => ((s0_45 = 0 → ((¬ r_58 = 0 → (¬ r_58 = 0 ∧ (p_X8_product_87 F T u_58 k6 Post (y2_6 / r_58)))) ∧ (r_58 = 0 → (p_X8_product_87 F T u_58 k6 Post (0 : Int32))))) ∧ (¬ s0_45 = 0 → (p_X8_product_87 F T u_58 k6 Post (y2_6 * r_58))))))
def p_X8_product_31 (F : Nat) (T : Int32 → Int32 → Int32 → Int32 → Int32 → Int32 → Nat → (Nat → Int32) → (Nat → Int32) → (Int32 → (Int32 × Int32) → Prop) → Prop) (p1 : Int32) (x_length : Int32) (x_top : Int32) (x_isAsked : Int32) (n_read : Nat) (f_read : Nat → Int32) (f_asked : Nat → Int32) (y2_6 : Int32) (x_at_6 : Int32) (x_wrong_6 : Int32) (k6 : Int32 → Int32 → Int32 → Prop) (Post : Int32 → (Int32 × Int32) → Prop) : Prop := (p_X8_here F x_length x_top x_at_6 n_read f_read (fun (r_32 : Int32) => ((¬ r_32 = (42 : Int32) → (p_X8_product_45 F T p1 x_length x_top x_isAsked n_read f_read f_asked y2_6 x_at_6 x_wrong_6 k6 Post (0 : Int32))) ∧ (r_32 = (42 : Int32) → (p_X8_product_45 F T p1 x_length x_top x_isAsked n_read f_read f_asked y2_6 x_at_6 x_wrong_6 k6 Post (1 : Int32))))))
noncomputable def p_X8_product_6 (F : Nat) (T : Int32 → Int32 → Int32 → Int32 → Int32 → Int32 → Nat → (Nat → Int32) → (Nat → Int32) → (Int32 → (Int32 × Int32) → Prop) → Prop) (p1 : Int32) (x_length : Int32) (x_top : Int32) (x_isAsked : Int32) (n_read : Nat) (f_read : Nat → Int32) (f_asked : Nat → Int32) (Post : Int32 → (Int32 × Int32) → Prop) (n : Nat) : Int32 → Int32 → Int32 → Prop := Nat.rec (motive := fun _ => Int32 → Int32 → Int32 → Prop) (fun _ _ _ => False) (fun _ k6 => fun (y2_6 : Int32) (x_at_6 : Int32) (x_wrong_6 : Int32) => (p_X8_fine F x_wrong_6 (fun (r_7 : Int32) => ((r_7 = 0 → (Post y2_6 (x_at_6, x_wrong_6))) ∧ (¬ r_7 = 0 → (p_X8_here F x_length x_top x_at_6 n_read f_read (fun (r_14 : Int32) => ((r_14 = (42 : Int32) → (p_X8_product_31 F T p1 x_length x_top x_isAsked n_read f_read f_asked y2_6 x_at_6 x_wrong_6 k6 Post )) ∧ (¬ r_14 = (42 : Int32) → (p_X8_here F x_length x_top x_at_6 n_read f_read (fun (r_23 : Int32) => ((¬ r_23 = (47 : Int32) → (Post y2_6 (x_at_6, x_wrong_6))) ∧ (r_23 = (47 : Int32) → (p_X8_product_31 F T p1 x_length x_top x_isAsked n_read f_read f_asked y2_6 x_at_6 x_wrong_6 k6 Post )))))))))))))) n
theorem p_X8_product_6_s (F : Nat) (T : Int32 → Int32 → Int32 → Int32 → Int32 → Int32 → Nat → (Nat → Int32) → (Nat → Int32) → (Int32 → (Int32 × Int32) → Prop) → Prop) (p1 : Int32) (x_length : Int32) (x_top : Int32) (x_isAsked : Int32) (n_read : Nat) (f_read : Nat → Int32) (f_asked : Nat → Int32) (Post : Int32 → (Int32 × Int32) → Prop) (n : Nat) (y2_6 : Int32) (x_at_6 : Int32) (x_wrong_6 : Int32) : p_X8_product_6 F T p1 x_length x_top x_isAsked n_read f_read f_asked Post (n + 1) y2_6 x_at_6 x_wrong_6 = (p_X8_fine F x_wrong_6 (fun (r_7 : Int32) => ((r_7 = 0 → (Post y2_6 (x_at_6, x_wrong_6))) ∧ (¬ r_7 = 0 → (p_X8_here F x_length x_top x_at_6 n_read f_read (fun (r_14 : Int32) => ((r_14 = (42 : Int32) → (p_X8_product_31 F T p1 x_length x_top x_isAsked n_read f_read f_asked y2_6 x_at_6 x_wrong_6 (p_X8_product_6 F T p1 x_length x_top x_isAsked n_read f_read f_asked Post n) Post )) ∧ (¬ r_14 = (42 : Int32) → (p_X8_here F x_length x_top x_at_6 n_read f_read (fun (r_23 : Int32) => ((¬ r_23 = (47 : Int32) → (Post y2_6 (x_at_6, x_wrong_6))) ∧ (r_23 = (47 : Int32) → (p_X8_product_31 F T p1 x_length x_top x_isAsked n_read f_read f_asked y2_6 x_at_6 x_wrong_6 (p_X8_product_6 F T p1 x_length x_top x_isAsked n_read f_read f_asked Post n) Post ))))))))))))) := rfl
def p_X8_product (F : Nat) (T : Int32 → Int32 → Int32 → Int32 → Int32 → Int32 → Nat → (Nat → Int32) → (Nat → Int32) → (Int32 → (Int32 × Int32) → Prop) → Prop) (p1 : Int32) (x_length : Int32) (x_top : Int32) (x_at : Int32) (x_wrong : Int32) (x_isAsked : Int32) (n_read : Nat) (f_read : Nat → Int32) (f_asked : Nat → Int32) (Post : Int32 → (Int32 × Int32) → Prop) : Prop := (T p1 x_length x_top x_at x_wrong x_isAsked n_read f_read f_asked (fun (r_2 : Int32) (u_2 : (Int32 × Int32)) => (p_X8_product_6 F T p1 x_length x_top x_isAsked n_read f_read f_asked Post F r_2 u_2.1 u_2.2)))
set_option maxHeartbeats 4000000 in
set_option maxRecDepth 100000 in
theorem c_X8_product (l : Launch) (D : va_G) (cT : Nat → ClassId) (F : Nat) (T : Int32 → Int32 → Int32 → Int32 → Int32 → Int32 → Nat → (Nat → Int32) → (Nat → Int32) → (Int32 → (Int32 × Int32) → Prop) → Prop) (fT lT : Nat) (hT : ∀ (h : Nat) (p1 : Int32) (w_now : Value) (x_arches : Int32) (x_cats : Int32) (w_text : Value) (x_typed : Int32) (w_row : Value) (x_rowMany : Int32) (x_thrown : Int32) (q_read : Nat) (x_length : Int32) (x_top : Int32) (x_at : Int32) (x_wrong : Int32) (w_told : Value) (w_rule : Value) (w_otherRule : Value) (x_ruleSize : Int32) (x_isAsked : Int32) (q_asked : Nat) (w_undos : Value) (x_undoMany : Int32) (w_aside : Value) (w_then : Value) (w_hold : Value) (x_dropped : Int32) (w_acts : Value) (w_guarded : Value) (w_train : Value) (x_trolleyEnd : Int32) (w_feltOf : Value) (w_feltBy : Value) (x_feltMany : Int32) (w_many : Value) (w_heardOf : Value) (w_heardBy : Value) (x_heardMany : Int32) (w_worth : Value) (x_drawn : Int32) (x_came : Int32) (w_kept : Value) (w_isKept : Value) (w_keptCame : Value) (n_read : Nat) (f_read : Nat → Int32) (f_asked : Nat → Int32) (Post : Int32 → (Int32 × Int32) → Prop) (hg : T p1 x_length x_top x_at x_wrong x_isAsked n_read f_read f_asked Post), MWi l D cT yX8_thing cX8_thing 4 (some .int) fT lT 0 0 [.ref h, .int p1] [(h, oX8 w_now (.int x_arches) (.int x_cats) w_text (.int x_typed) w_row (.int x_rowMany) (.int x_thrown) (.ref q_read) (.int x_length) (.int x_top) (.int x_at) (.int x_wrong) w_told w_rule w_otherRule (.int x_ruleSize) (.int x_isAsked) (.ref q_asked) w_undos (.int x_undoMany) w_aside w_then w_hold (.int x_dropped) w_acts w_guarded w_train (.int x_trolleyEnd) w_feltOf w_feltBy (.int x_feltMany) w_many w_heardOf w_heardBy (.int x_heardMany) w_worth (.int x_drawn) (.int x_came) w_kept w_isKept w_keptCame), (q_read, aB cT n_read f_read), (q_asked, aI cT 7 f_asked)] Post (fun (u : Int32 × Int32) => [(h, oX8 w_now (.int x_arches) (.int x_cats) w_text (.int x_typed) w_row (.int x_rowMany) (.int x_thrown) (.ref q_read) (.int x_length) (.int x_top) (.int u.1) (.int u.2) w_told w_rule w_otherRule (.int x_ruleSize) (.int x_isAsked) (.ref q_asked) w_undos (.int x_undoMany) w_aside w_then w_hold (.int x_dropped) w_acts w_guarded w_train (.int x_trolleyEnd) w_feltOf w_feltBy (.int x_feltMany) w_many w_heardOf w_heardBy (.int x_heardMany) w_worth (.int x_drawn) (.int x_came) w_kept w_isKept w_keptCame), (q_read, aB cT n_read f_read), (q_asked, aI cT 7 f_asked)])) (h : Nat) (p1 : Int32) (w_now : Value) (x_arches : Int32) (x_cats : Int32) (w_text : Value) (x_typed : Int32) (w_row : Value) (x_rowMany : Int32) (x_thrown : Int32) (q_read : Nat) (x_length : Int32) (x_top : Int32) (x_at : Int32) (x_wrong : Int32) (w_told : Value) (w_rule : Value) (w_otherRule : Value) (x_ruleSize : Int32) (x_isAsked : Int32) (q_asked : Nat) (w_undos : Value) (x_undoMany : Int32) (w_aside : Value) (w_then : Value) (w_hold : Value) (x_dropped : Int32) (w_acts : Value) (w_guarded : Value) (w_train : Value) (x_trolleyEnd : Int32) (w_feltOf : Value) (w_feltBy : Value) (x_feltMany : Int32) (w_many : Value) (w_heardOf : Value) (w_heardBy : Value) (x_heardMany : Int32) (w_worth : Value) (x_drawn : Int32) (x_came : Int32) (w_kept : Value) (w_isKept : Value) (w_keptCame : Value) (n_read : Nat) (f_read : Nat → Int32) (f_asked : Nat → Int32) (Post : Int32 → (Int32 × Int32) → Prop) (hg : p_X8_product F T p1 x_length x_top x_at x_wrong x_isAsked n_read f_read f_asked Post) : MWi l D cT yX8_product cX8_product 5 (some .int) (fT + 4) (lT + 100) 0 0 [.ref h, .int p1] [(h, oX8 w_now (.int x_arches) (.int x_cats) w_text (.int x_typed) w_row (.int x_rowMany) (.int x_thrown) (.ref q_read) (.int x_length) (.int x_top) (.int x_at) (.int x_wrong) w_told w_rule w_otherRule (.int x_ruleSize) (.int x_isAsked) (.ref q_asked) w_undos (.int x_undoMany) w_aside w_then w_hold (.int x_dropped) w_acts w_guarded w_train (.int x_trolleyEnd) w_feltOf w_feltBy (.int x_feltMany) w_many w_heardOf w_heardBy (.int x_heardMany) w_worth (.int x_drawn) (.int x_came) w_kept w_isKept w_keptCame), (q_read, aB cT n_read f_read), (q_asked, aI cT 7 f_asked)] Post (fun (u : (Int32 × Int32)) => [(h, oX8 w_now (.int x_arches) (.int x_cats) w_text (.int x_typed) w_row (.int x_rowMany) (.int x_thrown) (.ref q_read) (.int x_length) (.int x_top) (.int u.1) (.int u.2) w_told w_rule w_otherRule (.int x_ruleSize) (.int x_isAsked) (.ref q_asked) w_undos (.int x_undoMany) w_aside w_then w_hold (.int x_dropped) w_acts w_guarded w_train (.int x_trolleyEnd) w_feltOf w_feltBy (.int x_feltMany) w_many w_heardOf w_heardBy (.int x_heardMany) w_worth (.int x_drawn) (.int x_came) w_kept w_isKept w_keptCame), (q_read, aB cT n_read f_read), (q_asked, aI cT 7 f_asked)]) := by
  refine MWi.of (by decide) (Nat.le_of_ble_eq_true rfl) ?_
  intro p e s m below meth c A hA C0 hnm hr hP hD ls hl
  have hl : lv_has ls 5 [(0, .ref h), (1, .int p1)] := hl
  have hx := C0.x
  have hb := C0.b
  have hS : va_S A s.heap s.heap [] := va_S.rf
  have hP : va_P D cls9 [(h, oX8 w_now (.int x_arches) (.int x_cats) w_text (.int x_typed) w_row (.int x_rowMany) (.int x_thrown) (.ref q_read) (.int x_length) (.int x_top) (.int x_at) (.int x_wrong) w_told w_rule w_otherRule (.int x_ruleSize) (.int x_isAsked) (.ref q_asked) w_undos (.int x_undoMany) w_aside w_then w_hold (.int x_dropped) w_acts w_guarded w_train (.int x_trolleyEnd) w_feltOf w_feltBy (.int x_feltMany) w_many w_heardOf w_heardBy (.int x_heardMany) w_worth (.int x_drawn) (.int x_came) w_kept w_isKept w_keptCame), (q_read, aB cT n_read f_read), (q_asked, aI cT 7 f_asked)] s.heap := hP
  have hD : va_D A [(h, oX8 w_now (.int x_arches) (.int x_cats) w_text (.int x_typed) w_row (.int x_rowMany) (.int x_thrown) (.ref q_read) (.int x_length) (.int x_top) (.int x_at) (.int x_wrong) w_told w_rule w_otherRule (.int x_ruleSize) (.int x_isAsked) (.ref q_asked) w_undos (.int x_undoMany) w_aside w_then w_hold (.int x_dropped) w_acts w_guarded w_train (.int x_trolleyEnd) w_feltOf w_feltBy (.int x_feltMany) w_many w_heardOf w_heardBy (.int x_heardMany) w_worth (.int x_drawn) (.int x_came) w_kept w_isKept w_keptCame), (q_read, aB cT n_read f_read), (q_asked, aI cT 7 f_asked)] := hD
  have L6 : ∀ (n6 : Nat) (y2_6 : Int32) (x_at_6 : Int32) (x_wrong_6 : Int32) (H : Heap) (locs : List Loc) (ls : Array Slot), p_X8_product_6 F T p1 x_length x_top x_isAsked n_read f_read f_asked Post n6 y2_6 x_at_6 x_wrong_6 → va_P D cls9 [(h, oX8 w_now (.int x_arches) (.int x_cats) w_text (.int x_typed) w_row (.int x_rowMany) (.int x_thrown) (.ref q_read) (.int x_length) (.int x_top) (.int x_at_6) (.int x_wrong_6) w_told w_rule w_otherRule (.int x_ruleSize) (.int x_isAsked) (.ref q_asked) w_undos (.int x_undoMany) w_aside w_then w_hold (.int x_dropped) w_acts w_guarded w_train (.int x_trolleyEnd) w_feltOf w_feltBy (.int x_feltMany) w_many w_heardOf w_heardBy (.int x_heardMany) w_worth (.int x_drawn) (.int x_came) w_kept w_isKept w_keptCame), (q_read, aB cT n_read f_read), (q_asked, aI cT 7 f_asked)] H → va_D A [(h, oX8 w_now (.int x_arches) (.int x_cats) w_text (.int x_typed) w_row (.int x_rowMany) (.int x_thrown) (.ref q_read) (.int x_length) (.int x_top) (.int x_at_6) (.int x_wrong_6) w_told w_rule w_otherRule (.int x_ruleSize) (.int x_isAsked) (.ref q_asked) w_undos (.int x_undoMany) w_aside w_then w_hold (.int x_dropped) w_acts w_guarded w_train (.int x_trolleyEnd) w_feltOf w_feltBy (.int x_feltMany) w_many w_heardOf w_heardBy (.int x_heardMany) w_worth (.int x_drawn) (.int x_came) w_kept w_isKept w_keptCame), (q_read, aB cT n_read f_read), (q_asked, aI cT 7 f_asked)] → va_S A s.heap H locs → lv_has ls 5 [(0, .ref h), (1, .int p1), (2, .int y2_6)] → W p l e (rmO (fT + 4) (lT + 100) 0 0) s m ([.ref h, .int p1] : List Value).toArray below meth c H locs 0 0 (MQ below (va_Qi Post (cB D A (fun (u : (Int32 × Int32)) => [(h, oX8 w_now (.int x_arches) (.int x_cats) w_text (.int x_typed) w_row (.int x_rowMany) (.int x_thrown) (.ref q_read) (.int x_length) (.int x_top) (.int u.1) (.int u.2) w_told w_rule w_otherRule (.int x_ruleSize) (.int x_isAsked) (.ref q_asked) w_undos (.int x_undoMany) w_aside w_then w_hold (.int x_dropped) w_acts w_guarded w_train (.int x_trolleyEnd) w_feltOf w_feltBy (.int x_feltMany) w_many w_heardOf w_heardBy (.int x_heardMany) w_worth (.int x_drawn) (.int x_came) w_kept w_isKept w_keptCame), (q_read, aB cT n_read f_read), (q_asked, aI cT 7 f_asked)])) A) ([.ref h, .int p1] : List Value).toArray s 0 0 A) (F0 m 6 ls []) := by
    intro n6
    induction n6 with
    | zero =>
      intro y2_6 x_at_6 x_wrong_6 H locs ls hg hP hD hS hl
      exact False.elim hg
    | succ n6 ih6 =>
      have L87 : ∀ (u_58 : (Int32 × Int32)) (s0_87 : Int32) (H : Heap) (locs : List Loc) (ls : Array Slot), p_X8_product_87 F T u_58 (p_X8_product_6 F T p1 x_length x_top x_isAsked n_read f_read f_asked Post n6) Post s0_87 → va_P D cls9 [(h, oX8 w_now (.int x_arches) (.int x_cats) w_text (.int x_typed) w_row (.int x_rowMany) (.int x_thrown) (.ref q_read) (.int x_length) (.int x_top) (.int u_58.1) (.int u_58.2) w_told w_rule w_otherRule (.int x_ruleSize) (.int x_isAsked) (.ref q_asked) w_undos (.int x_undoMany) w_aside w_then w_hold (.int x_dropped) w_acts w_guarded w_train (.int x_trolleyEnd) w_feltOf w_feltBy (.int x_feltMany) w_many w_heardOf w_heardBy (.int x_heardMany) w_worth (.int x_drawn) (.int x_came) w_kept w_isKept w_keptCame), (q_read, aB cT n_read f_read), (q_asked, aI cT 7 f_asked)] H → va_D A [(h, oX8 w_now (.int x_arches) (.int x_cats) w_text (.int x_typed) w_row (.int x_rowMany) (.int x_thrown) (.ref q_read) (.int x_length) (.int x_top) (.int u_58.1) (.int u_58.2) w_told w_rule w_otherRule (.int x_ruleSize) (.int x_isAsked) (.ref q_asked) w_undos (.int x_undoMany) w_aside w_then w_hold (.int x_dropped) w_acts w_guarded w_train (.int x_trolleyEnd) w_feltOf w_feltBy (.int x_feltMany) w_many w_heardOf w_heardBy (.int x_heardMany) w_worth (.int x_drawn) (.int x_came) w_kept w_isKept w_keptCame), (q_read, aB cT n_read f_read), (q_asked, aI cT 7 f_asked)] → va_S A s.heap H locs → lv_has ls 5 [(0, .ref h), (1, .int p1)] → W p l e (rmO (fT + 4) (lT + 100) 0 0) s m ([.ref h, .int p1] : List Value).toArray below meth c H locs 0 0 (MQ below (va_Qi Post (cB D A (fun (u : (Int32 × Int32)) => [(h, oX8 w_now (.int x_arches) (.int x_cats) w_text (.int x_typed) w_row (.int x_rowMany) (.int x_thrown) (.ref q_read) (.int x_length) (.int x_top) (.int u.1) (.int u.2) w_told w_rule w_otherRule (.int x_ruleSize) (.int x_isAsked) (.ref q_asked) w_undos (.int x_undoMany) w_aside w_then w_hold (.int x_dropped) w_acts w_guarded w_train (.int x_trolleyEnd) w_feltOf w_feltBy (.int x_feltMany) w_many w_heardOf w_heardBy (.int x_heardMany) w_worth (.int x_drawn) (.int x_came) w_kept w_isKept w_keptCame), (q_read, aB cT n_read f_read), (q_asked, aI cT 7 f_asked)])) A) ([.ref h, .int p1] : List Value).toArray s 0 0 A) (F0 m 87 ls [.int s0_87]) := by
        intro u_58 s0_87 H locs ls hg hP hD hS hl
        unfold p_X8_product_87 at hg
        refine lv_istore_n (lv' := [(2, .int s0_87), (0, .ref h), (1, .int p1)]) hx hb dX8_product_87 rfl hl (by decide) rfl (fun ls hl => ?_)
        refine lv_goto (tgt := 6) hx hb dX8_product_88 (by decide) ?_
        exact ih6 s0_87 u_58.1 u_58.2 _ _ _ hg hP hD hS (lv_sub hl [1, 2, 0] rfl)
      have L45 : ∀ (y2_6 : Int32) (x_at_6 : Int32) (x_wrong_6 : Int32) (s0_45 : Int32) (H : Heap) (locs : List Loc) (ls : Array Slot), p_X8_product_45 F T p1 x_length x_top x_isAsked n_read f_read f_asked y2_6 x_at_6 x_wrong_6 (p_X8_product_6 F T p1 x_length x_top x_isAsked n_read f_read f_asked Post n6) Post s0_45 → va_P D cls9 [(h, oX8 w_now (.int x_arches) (.int x_cats) w_text (.int x_typed) w_row (.int x_rowMany) (.int x_thrown) (.ref q_read) (.int x_length) (.int x_top) (.int x_at_6) (.int x_wrong_6) w_told w_rule w_otherRule (.int x_ruleSize) (.int x_isAsked) (.ref q_asked) w_undos (.int x_undoMany) w_aside w_then w_hold (.int x_dropped) w_acts w_guarded w_train (.int x_trolleyEnd) w_feltOf w_feltBy (.int x_feltMany) w_many w_heardOf w_heardBy (.int x_heardMany) w_worth (.int x_drawn) (.int x_came) w_kept w_isKept w_keptCame), (q_read, aB cT n_read f_read), (q_asked, aI cT 7 f_asked)] H → va_D A [(h, oX8 w_now (.int x_arches) (.int x_cats) w_text (.int x_typed) w_row (.int x_rowMany) (.int x_thrown) (.ref q_read) (.int x_length) (.int x_top) (.int x_at_6) (.int x_wrong_6) w_told w_rule w_otherRule (.int x_ruleSize) (.int x_isAsked) (.ref q_asked) w_undos (.int x_undoMany) w_aside w_then w_hold (.int x_dropped) w_acts w_guarded w_train (.int x_trolleyEnd) w_feltOf w_feltBy (.int x_feltMany) w_many w_heardOf w_heardBy (.int x_heardMany) w_worth (.int x_drawn) (.int x_came) w_kept w_isKept w_keptCame), (q_read, aB cT n_read f_read), (q_asked, aI cT 7 f_asked)] → va_S A s.heap H locs → lv_has ls 5 [(0, .ref h), (1, .int p1), (2, .int y2_6)] → W p l e (rmO (fT + 4) (lT + 100) 0 0) s m ([.ref h, .int p1] : List Value).toArray below meth c H locs 0 0 (MQ below (va_Qi Post (cB D A (fun (u : (Int32 × Int32)) => [(h, oX8 w_now (.int x_arches) (.int x_cats) w_text (.int x_typed) w_row (.int x_rowMany) (.int x_thrown) (.ref q_read) (.int x_length) (.int x_top) (.int u.1) (.int u.2) w_told w_rule w_otherRule (.int x_ruleSize) (.int x_isAsked) (.ref q_asked) w_undos (.int x_undoMany) w_aside w_then w_hold (.int x_dropped) w_acts w_guarded w_train (.int x_trolleyEnd) w_feltOf w_feltBy (.int x_feltMany) w_many w_heardOf w_heardBy (.int x_heardMany) w_worth (.int x_drawn) (.int x_came) w_kept w_isKept w_keptCame), (q_read, aB cT n_read f_read), (q_asked, aI cT 7 f_asked)])) A) ([.ref h, .int p1] : List Value).toArray s 0 0 A) (F0 m 45 ls [.int s0_45]) := by
        intro y2_6 x_at_6 x_wrong_6 s0_45 H locs ls hg hP hD hS hl
        unfold p_X8_product_45 at hg
        refine lv_istore_n (lv' := [(3, .int s0_45), (0, .ref h), (1, .int p1), (2, .int y2_6)]) hx hb dX8_product_45 rfl hl (by decide) rfl (fun ls hl => ?_)
        refine lv_aload_n hx hb dX8_product_46 rfl (lv_at hl 1 rfl) ?_
        refine lv_dup hx hb dX8_product_47 rfl ?_
        refine gf_X8_111 C0 hP 0 rfl rfl dX8_product_48 ?_
        refine lv_iconst (v := (1 : Int32)) hx hb dX8_product_51 (by decide) ?_
        refine lv_iadd hx hb dX8_product_52 ?_
        refine pf_X8_111 C0 hP hD hS 0 rfl (Nat.le_of_ble_eq_true rfl) (ws2 := [(h, oX8 w_now (.int x_arches) (.int x_cats) w_text (.int x_typed) w_row (.int x_rowMany) (.int x_thrown) (.ref q_read) (.int x_length) (.int x_top) (.int (x_at_6 + (1 : Int32))) (.int x_wrong_6) w_told w_rule w_otherRule (.int x_ruleSize) (.int x_isAsked) (.ref q_asked) w_undos (.int x_undoMany) w_aside w_then w_hold (.int x_dropped) w_acts w_guarded w_train (.int x_trolleyEnd) w_feltOf w_feltBy (.int x_feltMany) w_many w_heardOf w_heardBy (.int x_heardMany) w_worth (.int x_drawn) (.int x_came) w_kept w_isKept w_keptCame), (q_read, aB cT n_read f_read), (q_asked, aI cT 7 f_asked)]) rfl dX8_product_53 (fun H locs hP hD hS => ?_)
        refine lv_aload_n hx hb dX8_product_56 rfl (lv_at hl 1 rfl) ?_
        refine lv_iload_n hx hb dX8_product_57 rfl (lv_at hl 2 rfl) ?_
        refine k_Vi (rest := []) (wr := []) (w2 := fun u_58 => [(h, oX8 w_now (.int x_arches) (.int x_cats) w_text (.int x_typed) w_row (.int x_rowMany) (.int x_thrown) (.ref q_read) (.int x_length) (.int x_top) (.int u_58.1) (.int u_58.2) w_told w_rule w_otherRule (.int x_ruleSize) (.int x_isAsked) (.ref q_asked) w_undos (.int x_undoMany) w_aside w_then w_hold (.int x_dropped) w_acts w_guarded w_train (.int x_trolleyEnd) w_feltOf w_feltBy (.int x_feltMany) w_many w_heardOf w_heardBy (.int x_heardMany) w_worth (.int x_drawn) (.int x_came) w_kept w_isKept w_keptCame), (q_read, aB cT n_read f_read), (q_asked, aI cT 7 f_asked)]) C0 lk_X8_163 (hT h p1 w_now x_arches x_cats w_text x_typed w_row x_rowMany x_thrown q_read x_length x_top (x_at_6 + (1 : Int32)) x_wrong_6 w_told w_rule w_otherRule x_ruleSize x_isAsked q_asked w_undos x_undoMany w_aside w_then w_hold x_dropped w_acts w_guarded w_train x_trolleyEnd w_feltOf w_feltBy x_feltMany w_many w_heardOf w_heardBy x_heardMany w_worth x_drawn x_came w_kept w_isKept w_keptCame n_read f_read f_asked _ hg) hP hD hS hA [0, 1, 2] [] (by decide +kernel) rfl rfl (fun _ => rfl) rfl rfl ⟨rm_f (by omega), rm_l (by omega)⟩ rfl hl.1 rfl (Nat.le_of_ble_eq_true rfl) dX8_product_58 ⟨Nat.le_of_ble_eq_true rfl, Nat.le_of_ble_eq_true rfl⟩ ?_
        intro r_58 u_58 H locs hg hP hD hS
        refine lv_istore (lv' := [(4, .int r_58), (3, .int s0_45), (0, .ref h), (1, .int p1), (2, .int y2_6)]) hx hb dX8_product_61 hl (by decide) rfl (fun ls hl => ?_)
        refine lv_iload_n hx hb dX8_product_63 rfl (lv_at hl 1 rfl) ?_
        refine lv_if_eq (tgt := 74) hx hb dX8_product_64 (by decide) (fun c_64 => ?_) (fun c_64 => ?_)
        · have hg := hg.1 c_64
          refine lv_iload hx hb dX8_product_74 (lv_at hl 0 rfl) ?_
          refine lv_if_ne (tgt := 83) hx hb dX8_product_76 (by decide) (fun c_76 => ?_) (fun c_76 => ?_)
          · have hg := hg.1 c_76
            refine lv_iload_n hx hb dX8_product_83 rfl (lv_at hl 4 rfl) ?_
            refine lv_iload hx hb dX8_product_84 (lv_at hl 0 rfl) ?_
            obtain ⟨g_86, hg⟩ := hg
            refine lv_idiv hx hb dX8_product_86 g_86 ?_
            exact L87 u_58 (y2_6 / r_58) _ _ _ hg hP hD hS (lv_sub hl [2, 3] rfl)
          have hg := hg.2 c_76
          refine lv_iconst (v := (0 : Int32)) hx hb dX8_product_79 (by decide) ?_
          refine lv_goto (tgt := 87) hx hb dX8_product_80 (by decide) ?_
          exact L87 u_58 (0 : Int32) _ _ _ hg hP hD hS (lv_sub hl [2, 3] rfl)
        have hg := hg.2 c_64
        refine lv_iload_n hx hb dX8_product_67 rfl (lv_at hl 4 rfl) ?_
        refine lv_iload hx hb dX8_product_68 (lv_at hl 0 rfl) ?_
        refine lv_imul hx hb dX8_product_70 ?_
        refine lv_goto (tgt := 87) hx hb dX8_product_71 (by decide) ?_
        exact L87 u_58 (y2_6 * r_58) _ _ _ hg hP hD hS (lv_sub hl [2, 3] rfl)
      have L31 : ∀ (y2_6 : Int32) (x_at_6 : Int32) (x_wrong_6 : Int32) (H : Heap) (locs : List Loc) (ls : Array Slot), p_X8_product_31 F T p1 x_length x_top x_isAsked n_read f_read f_asked y2_6 x_at_6 x_wrong_6 (p_X8_product_6 F T p1 x_length x_top x_isAsked n_read f_read f_asked Post n6) Post → va_P D cls9 [(h, oX8 w_now (.int x_arches) (.int x_cats) w_text (.int x_typed) w_row (.int x_rowMany) (.int x_thrown) (.ref q_read) (.int x_length) (.int x_top) (.int x_at_6) (.int x_wrong_6) w_told w_rule w_otherRule (.int x_ruleSize) (.int x_isAsked) (.ref q_asked) w_undos (.int x_undoMany) w_aside w_then w_hold (.int x_dropped) w_acts w_guarded w_train (.int x_trolleyEnd) w_feltOf w_feltBy (.int x_feltMany) w_many w_heardOf w_heardBy (.int x_heardMany) w_worth (.int x_drawn) (.int x_came) w_kept w_isKept w_keptCame), (q_read, aB cT n_read f_read), (q_asked, aI cT 7 f_asked)] H → va_D A [(h, oX8 w_now (.int x_arches) (.int x_cats) w_text (.int x_typed) w_row (.int x_rowMany) (.int x_thrown) (.ref q_read) (.int x_length) (.int x_top) (.int x_at_6) (.int x_wrong_6) w_told w_rule w_otherRule (.int x_ruleSize) (.int x_isAsked) (.ref q_asked) w_undos (.int x_undoMany) w_aside w_then w_hold (.int x_dropped) w_acts w_guarded w_train (.int x_trolleyEnd) w_feltOf w_feltBy (.int x_feltMany) w_many w_heardOf w_heardBy (.int x_heardMany) w_worth (.int x_drawn) (.int x_came) w_kept w_isKept w_keptCame), (q_read, aB cT n_read f_read), (q_asked, aI cT 7 f_asked)] → va_S A s.heap H locs → lv_has ls 5 [(0, .ref h), (1, .int p1), (2, .int y2_6)] → W p l e (rmO (fT + 4) (lT + 100) 0 0) s m ([.ref h, .int p1] : List Value).toArray below meth c H locs 0 0 (MQ below (va_Qi Post (cB D A (fun (u : (Int32 × Int32)) => [(h, oX8 w_now (.int x_arches) (.int x_cats) w_text (.int x_typed) w_row (.int x_rowMany) (.int x_thrown) (.ref q_read) (.int x_length) (.int x_top) (.int u.1) (.int u.2) w_told w_rule w_otherRule (.int x_ruleSize) (.int x_isAsked) (.ref q_asked) w_undos (.int x_undoMany) w_aside w_then w_hold (.int x_dropped) w_acts w_guarded w_train (.int x_trolleyEnd) w_feltOf w_feltBy (.int x_feltMany) w_many w_heardOf w_heardBy (.int x_heardMany) w_worth (.int x_drawn) (.int x_came) w_kept w_isKept w_keptCame), (q_read, aB cT n_read f_read), (q_asked, aI cT 7 f_asked)])) A) ([.ref h, .int p1] : List Value).toArray s 0 0 A) (F0 m 31 ls []) := by
        intro y2_6 x_at_6 x_wrong_6 H locs ls hg hP hD hS hl
        unfold p_X8_product_31 at hg
        refine lv_aload_n hx hb dX8_product_31 rfl (lv_at hl 0 rfl) ?_
        refine k_Vxi (rest := []) C0 lk_X8_125 (c_X8_here l D cT F h w_now x_arches x_cats w_text x_typed w_row x_rowMany x_thrown q_read x_length x_top x_at_6 x_wrong_6 w_told w_rule w_otherRule x_ruleSize x_isAsked (.ref q_asked) w_undos x_undoMany w_aside w_then w_hold x_dropped w_acts w_guarded w_train x_trolleyEnd w_feltOf w_feltBy x_feltMany w_many w_heardOf w_heardBy x_heardMany w_worth x_drawn x_came w_kept w_isKept w_keptCame n_read f_read _ hg) hP hD hS hA [0, 1] (by decide +kernel) rfl rfl rfl ⟨rm_f (by omega), rm_l (by omega)⟩ rfl hl.1 rfl (Nat.le_of_ble_eq_true rfl) dX8_product_32 ⟨Nat.le_of_ble_eq_true rfl, Nat.le_of_ble_eq_true rfl⟩ (fun r_32 hg => ?_)
        refine lv_bipush (v := (42 : Int32)) hx hb dX8_product_35 (by decide) ?_
        refine lv_icmp_ne (tgt := 44) hx hb dX8_product_37 (by decide) (fun c_37 => ?_) (fun c_37 => ?_)
        · have hg := hg.1 c_37
          refine lv_iconst (v := (0 : Int32)) hx hb dX8_product_44 (by decide) ?_
          exact L45 y2_6 x_at_6 x_wrong_6 (0 : Int32) _ _ _ hg hP hD hS hl
        have hg := hg.2 c_37
        refine lv_iconst (v := (1 : Int32)) hx hb dX8_product_40 (by decide) ?_
        refine lv_goto (tgt := 45) hx hb dX8_product_41 (by decide) ?_
        exact L45 y2_6 x_at_6 x_wrong_6 (1 : Int32) _ _ _ hg hP hD hS hl
      intro y2_6 x_at_6 x_wrong_6 H locs ls hg hP hD hS hl
      rw [p_X8_product_6_s] at hg
      refine lv_aload_n hx hb dX8_product_6 rfl (lv_at hl 0 rfl) ?_
      refine k_Vxi (rest := []) C0 lk_X8_121 (c_X8_fine l D cT F h w_now x_arches x_cats w_text x_typed w_row x_rowMany x_thrown (.ref q_read) x_length x_top x_at_6 x_wrong_6 w_told w_rule w_otherRule x_ruleSize x_isAsked (.ref q_asked) w_undos x_undoMany w_aside w_then w_hold x_dropped w_acts w_guarded w_train x_trolleyEnd w_feltOf w_feltBy x_feltMany w_many w_heardOf w_heardBy x_heardMany w_worth x_drawn x_came w_kept w_isKept w_keptCame _ hg) hP hD hS hA [0] (by decide +kernel) rfl rfl rfl ⟨rm_f (by omega), rm_l (by omega)⟩ rfl hl.1 rfl (Nat.le_of_ble_eq_true rfl) dX8_product_7 ⟨Nat.le_of_ble_eq_true rfl, Nat.le_of_ble_eq_true rfl⟩ (fun r_7 hg => ?_)
      refine lv_if_eq (tgt := 91) hx hb dX8_product_10 (by decide) (fun c_10 => ?_) (fun c_10 => ?_)
      · have hg := hg.1 c_10
        refine lv_iload_n hx hb dX8_product_91 rfl (lv_at hl 2 rfl) ?_
        exact k_iret C0 hr (x_at_6, x_wrong_6) hg hP hD hS dX8_product_92
      have hg := hg.2 c_10
      refine lv_aload_n hx hb dX8_product_13 rfl (lv_at hl 0 rfl) ?_
      refine k_Vxi (rest := []) C0 lk_X8_125 (c_X8_here l D cT F h w_now x_arches x_cats w_text x_typed w_row x_rowMany x_thrown q_read x_length x_top x_at_6 x_wrong_6 w_told w_rule w_otherRule x_ruleSize x_isAsked (.ref q_asked) w_undos x_undoMany w_aside w_then w_hold x_dropped w_acts w_guarded w_train x_trolleyEnd w_feltOf w_feltBy x_feltMany w_many w_heardOf w_heardBy x_heardMany w_worth x_drawn x_came w_kept w_isKept w_keptCame n_read f_read _ hg) hP hD hS hA [0, 1] (by decide +kernel) rfl rfl rfl ⟨rm_f (by omega), rm_l (by omega)⟩ rfl hl.1 rfl (Nat.le_of_ble_eq_true rfl) dX8_product_14 ⟨Nat.le_of_ble_eq_true rfl, Nat.le_of_ble_eq_true rfl⟩ (fun r_14 hg => ?_)
      refine lv_bipush (v := (42 : Int32)) hx hb dX8_product_17 (by decide) ?_
      refine lv_icmp_eq (tgt := 31) hx hb dX8_product_19 (by decide) (fun c_19 => ?_) (fun c_19 => ?_)
      · have hg := hg.1 c_19
        exact L31 y2_6 x_at_6 x_wrong_6 _ _ _ hg hP hD hS hl
      have hg := hg.2 c_19
      refine lv_aload_n hx hb dX8_product_22 rfl (lv_at hl 0 rfl) ?_
      refine k_Vxi (rest := []) C0 lk_X8_125 (c_X8_here l D cT F h w_now x_arches x_cats w_text x_typed w_row x_rowMany x_thrown q_read x_length x_top x_at_6 x_wrong_6 w_told w_rule w_otherRule x_ruleSize x_isAsked (.ref q_asked) w_undos x_undoMany w_aside w_then w_hold x_dropped w_acts w_guarded w_train x_trolleyEnd w_feltOf w_feltBy x_feltMany w_many w_heardOf w_heardBy x_heardMany w_worth x_drawn x_came w_kept w_isKept w_keptCame n_read f_read _ hg) hP hD hS hA [0, 1] (by decide +kernel) rfl rfl rfl ⟨rm_f (by omega), rm_l (by omega)⟩ rfl hl.1 rfl (Nat.le_of_ble_eq_true rfl) dX8_product_23 ⟨Nat.le_of_ble_eq_true rfl, Nat.le_of_ble_eq_true rfl⟩ (fun r_23 hg => ?_)
      refine lv_bipush (v := (47 : Int32)) hx hb dX8_product_26 (by decide) ?_
      refine lv_icmp_ne (tgt := 91) hx hb dX8_product_28 (by decide) (fun c_28 => ?_) (fun c_28 => ?_)
      · have hg := hg.1 c_28
        refine lv_iload_n hx hb dX8_product_91 rfl (lv_at hl 2 rfl) ?_
        exact k_iret C0 hr (x_at_6, x_wrong_6) hg hP hD hS dX8_product_92
      have hg := hg.2 c_28
      exact L31 y2_6 x_at_6 x_wrong_6 _ _ _ hg hP hD hS hl
  unfold p_X8_product at hg
  refine lv_aload_n hx hb dX8_product_0 rfl (lv_at hl 0 rfl) ?_
  refine lv_iload_n hx hb dX8_product_1 rfl (lv_at hl 1 rfl) ?_
  refine k_Vi (rest := []) (wr := []) (w2 := fun u_2 => [(h, oX8 w_now (.int x_arches) (.int x_cats) w_text (.int x_typed) w_row (.int x_rowMany) (.int x_thrown) (.ref q_read) (.int x_length) (.int x_top) (.int u_2.1) (.int u_2.2) w_told w_rule w_otherRule (.int x_ruleSize) (.int x_isAsked) (.ref q_asked) w_undos (.int x_undoMany) w_aside w_then w_hold (.int x_dropped) w_acts w_guarded w_train (.int x_trolleyEnd) w_feltOf w_feltBy (.int x_feltMany) w_many w_heardOf w_heardBy (.int x_heardMany) w_worth (.int x_drawn) (.int x_came) w_kept w_isKept w_keptCame), (q_read, aB cT n_read f_read), (q_asked, aI cT 7 f_asked)]) C0 lk_X8_163 (hT h p1 w_now x_arches x_cats w_text x_typed w_row x_rowMany x_thrown q_read x_length x_top x_at x_wrong w_told w_rule w_otherRule x_ruleSize x_isAsked q_asked w_undos x_undoMany w_aside w_then w_hold x_dropped w_acts w_guarded w_train x_trolleyEnd w_feltOf w_feltBy x_feltMany w_many w_heardOf w_heardBy x_heardMany w_worth x_drawn x_came w_kept w_isKept w_keptCame n_read f_read f_asked _ hg) hP hD hS hA [0, 1, 2] [] (by decide +kernel) rfl rfl (fun _ => rfl) rfl rfl ⟨rm_f (by omega), rm_l (by omega)⟩ rfl hl.1 rfl (Nat.le_of_ble_eq_true rfl) dX8_product_2 ⟨Nat.le_of_ble_eq_true rfl, Nat.le_of_ble_eq_true rfl⟩ ?_
  intro r_2 u_2 H locs hg hP hD hS
  refine lv_istore_n (lv' := [(2, .int r_2), (0, .ref h), (1, .int p1)]) hx hb dX8_product_5 rfl hl (by decide) rfl (fun ls hl => ?_)
  exact L6 F r_2 u_2.1 u_2.2 _ _ _ hg hP hD hS (lv_sub hl [1, 2, 0] rfl)
theorem dX8_sum_0 : decode cX8_sum 0 = .ok (.aload_n 0, 1) := by decide +kernel
theorem dX8_sum_1 : decode cX8_sum 1 = .ok (.iload_n 1, 1) := by decide +kernel
theorem dX8_sum_2 : decode cX8_sum 2 = .ok (.invokevirtual 160, 3) := by decide +kernel
theorem dX8_sum_5 : decode cX8_sum 5 = .ok (.istore_n 2, 1) := by decide +kernel
theorem dX8_sum_6 : decode cX8_sum 6 = .ok (.aload_n 0, 1) := by decide +kernel
theorem dX8_sum_7 : decode cX8_sum 7 = .ok (.invokevirtual 121, 3) := by decide +kernel
theorem dX8_sum_10 : decode cX8_sum 10 = .ok (.ifCond .eq 72, 3) := by decide +kernel
theorem dX8_sum_13 : decode cX8_sum 13 = .ok (.aload_n 0, 1) := by decide +kernel
theorem dX8_sum_14 : decode cX8_sum 14 = .ok (.invokevirtual 125, 3) := by decide +kernel
theorem dX8_sum_17 : decode cX8_sum 17 = .ok (.bipush 43, 2) := by decide +kernel
theorem dX8_sum_19 : decode cX8_sum 19 = .ok (.if_icmp .eq 12, 3) := by decide +kernel
theorem dX8_sum_22 : decode cX8_sum 22 = .ok (.aload_n 0, 1) := by decide +kernel
theorem dX8_sum_23 : decode cX8_sum 23 = .ok (.invokevirtual 125, 3) := by decide +kernel
theorem dX8_sum_26 : decode cX8_sum 26 = .ok (.bipush 45, 2) := by decide +kernel
theorem dX8_sum_28 : decode cX8_sum 28 = .ok (.if_icmp .ne 54, 3) := by decide +kernel
theorem dX8_sum_31 : decode cX8_sum 31 = .ok (.aload_n 0, 1) := by decide +kernel
theorem dX8_sum_32 : decode cX8_sum 32 = .ok (.invokevirtual 125, 3) := by decide +kernel
theorem dX8_sum_35 : decode cX8_sum 35 = .ok (.bipush 43, 2) := by decide +kernel
theorem dX8_sum_37 : decode cX8_sum 37 = .ok (.if_icmp .ne 7, 3) := by decide +kernel
theorem dX8_sum_40 : decode cX8_sum 40 = .ok (.iconst 1, 1) := by decide +kernel
theorem dX8_sum_41 : decode cX8_sum 41 = .ok (.goto 4, 3) := by decide +kernel
theorem dX8_sum_44 : decode cX8_sum 44 = .ok (.iconst 0, 1) := by decide +kernel
theorem dX8_sum_45 : decode cX8_sum 45 = .ok (.istore_n 3, 1) := by decide +kernel
theorem dX8_sum_46 : decode cX8_sum 46 = .ok (.aload_n 0, 1) := by decide +kernel
theorem dX8_sum_47 : decode cX8_sum 47 = .ok (.dup, 1) := by decide +kernel
theorem dX8_sum_48 : decode cX8_sum 48 = .ok (.getfield 111, 3) := by decide +kernel
theorem dX8_sum_51 : decode cX8_sum 51 = .ok (.iconst 1, 1) := by decide +kernel
theorem dX8_sum_52 : decode cX8_sum 52 = .ok (.iadd, 1) := by decide +kernel
theorem dX8_sum_53 : decode cX8_sum 53 = .ok (.putfield 111, 3) := by decide +kernel
theorem dX8_sum_56 : decode cX8_sum 56 = .ok (.aload_n 0, 1) := by decide +kernel
theorem dX8_sum_57 : decode cX8_sum 57 = .ok (.iload_n 1, 1) := by decide +kernel
theorem dX8_sum_58 : decode cX8_sum 58 = .ok (.invokevirtual 160, 3) := by decide +kernel
theorem dX8_sum_61 : decode cX8_sum 61 = .ok (.istore 4, 2) := by decide +kernel
theorem dX8_sum_63 : decode cX8_sum 63 = .ok (.iload_n 3, 1) := by decide +kernel
theorem dX8_sum_64 : decode cX8_sum 64 = .ok (.ifCond .eq 10, 3) := by decide +kernel
theorem dX8_sum_67 : decode cX8_sum 67 = .ok (.iload_n 2, 1) := by decide +kernel
theorem dX8_sum_68 : decode cX8_sum 68 = .ok (.iload 4, 2) := by decide +kernel
theorem dX8_sum_70 : decode cX8_sum 70 = .ok (.iadd, 1) := by decide +kernel
theorem dX8_sum_71 : decode cX8_sum 71 = .ok (.goto 7, 3) := by decide +kernel
theorem dX8_sum_74 : decode cX8_sum 74 = .ok (.iload_n 2, 1) := by decide +kernel
theorem dX8_sum_75 : decode cX8_sum 75 = .ok (.iload 4, 2) := by decide +kernel
theorem dX8_sum_77 : decode cX8_sum 77 = .ok (.isub, 1) := by decide +kernel
theorem dX8_sum_78 : decode cX8_sum 78 = .ok (.istore_n 2, 1) := by decide +kernel
theorem dX8_sum_79 : decode cX8_sum 79 = .ok (.goto (-73), 3) := by decide +kernel
theorem dX8_sum_82 : decode cX8_sum 82 = .ok (.iload_n 2, 1) := by decide +kernel
theorem dX8_sum_83 : decode cX8_sum 83 = .ok (.ireturn, 1) := by decide +kernel
def p_X8_sum_78 (F : Nat) (T : Int32 → Int32 → Int32 → Int32 → Int32 → Int32 → Nat → (Nat → Int32) → (Nat → Int32) → (Int32 → (Int32 × Int32) → Prop) → Prop) (u_58 : (Int32 × Int32)) (k6 : Int32 → Int32 → Int32 → Prop) (Post : Int32 → (Int32 × Int32) → Prop) (s0_78 : Int32) : Prop := (k6 s0_78 u_58.1 u_58.2)
def p_X8_sum_45 (F : Nat) (T : Int32 → Int32 → Int32 → Int32 → Int32 → Int32 → Nat → (Nat → Int32) → (Nat → Int32) → (Int32 → (Int32 × Int32) → Prop) → Prop) (p1 : Int32) (x_length : Int32) (x_top : Int32) (x_isAsked : Int32) (n_read : Nat) (f_read : Nat → Int32) (f_asked : Nat → Int32) (y2_6 : Int32) (x_at_6 : Int32) (x_wrong_6 : Int32) (k6 : Int32 → Int32 → Int32 → Prop) (Post : Int32 → (Int32 × Int32) → Prop) (s0_45 : Int32) : Prop := (p_X8_product F T p1 x_length x_top (x_at_6 + (1 : Int32)) x_wrong_6 x_isAsked n_read f_read f_asked (fun (r_58 : Int32) (u_58 : (Int32 × Int32)) => ((s0_45 = 0 → (p_X8_sum_78 F T u_58 k6 Post (y2_6 - r_58))) ∧ (¬ s0_45 = 0 → (p_X8_sum_78 F T u_58 k6 Post (y2_6 + r_58))))))
def p_X8_sum_31 (F : Nat) (T : Int32 → Int32 → Int32 → Int32 → Int32 → Int32 → Nat → (Nat → Int32) → (Nat → Int32) → (Int32 → (Int32 × Int32) → Prop) → Prop) (p1 : Int32) (x_length : Int32) (x_top : Int32) (x_isAsked : Int32) (n_read : Nat) (f_read : Nat → Int32) (f_asked : Nat → Int32) (y2_6 : Int32) (x_at_6 : Int32) (x_wrong_6 : Int32) (k6 : Int32 → Int32 → Int32 → Prop) (Post : Int32 → (Int32 × Int32) → Prop) : Prop := (p_X8_here F x_length x_top x_at_6 n_read f_read (fun (r_32 : Int32) => ((¬ r_32 = (43 : Int32) → (p_X8_sum_45 F T p1 x_length x_top x_isAsked n_read f_read f_asked y2_6 x_at_6 x_wrong_6 k6 Post (0 : Int32))) ∧ (r_32 = (43 : Int32) → (p_X8_sum_45 F T p1 x_length x_top x_isAsked n_read f_read f_asked y2_6 x_at_6 x_wrong_6 k6 Post (1 : Int32))))))
noncomputable def p_X8_sum_6 (F : Nat) (T : Int32 → Int32 → Int32 → Int32 → Int32 → Int32 → Nat → (Nat → Int32) → (Nat → Int32) → (Int32 → (Int32 × Int32) → Prop) → Prop) (p1 : Int32) (x_length : Int32) (x_top : Int32) (x_isAsked : Int32) (n_read : Nat) (f_read : Nat → Int32) (f_asked : Nat → Int32) (Post : Int32 → (Int32 × Int32) → Prop) (n : Nat) : Int32 → Int32 → Int32 → Prop := Nat.rec (motive := fun _ => Int32 → Int32 → Int32 → Prop) (fun _ _ _ => False) (fun _ k6 => fun (y2_6 : Int32) (x_at_6 : Int32) (x_wrong_6 : Int32) => (p_X8_fine F x_wrong_6 (fun (r_7 : Int32) => ((r_7 = 0 → (Post y2_6 (x_at_6, x_wrong_6))) ∧ (¬ r_7 = 0 → (p_X8_here F x_length x_top x_at_6 n_read f_read (fun (r_14 : Int32) => ((r_14 = (43 : Int32) → (p_X8_sum_31 F T p1 x_length x_top x_isAsked n_read f_read f_asked y2_6 x_at_6 x_wrong_6 k6 Post )) ∧ (¬ r_14 = (43 : Int32) → (p_X8_here F x_length x_top x_at_6 n_read f_read (fun (r_23 : Int32) => ((¬ r_23 = (45 : Int32) → (Post y2_6 (x_at_6, x_wrong_6))) ∧ (r_23 = (45 : Int32) → (p_X8_sum_31 F T p1 x_length x_top x_isAsked n_read f_read f_asked y2_6 x_at_6 x_wrong_6 k6 Post )))))))))))))) n
theorem p_X8_sum_6_s (F : Nat) (T : Int32 → Int32 → Int32 → Int32 → Int32 → Int32 → Nat → (Nat → Int32) → (Nat → Int32) → (Int32 → (Int32 × Int32) → Prop) → Prop) (p1 : Int32) (x_length : Int32) (x_top : Int32) (x_isAsked : Int32) (n_read : Nat) (f_read : Nat → Int32) (f_asked : Nat → Int32) (Post : Int32 → (Int32 × Int32) → Prop) (n : Nat) (y2_6 : Int32) (x_at_6 : Int32) (x_wrong_6 : Int32) : p_X8_sum_6 F T p1 x_length x_top x_isAsked n_read f_read f_asked Post (n + 1) y2_6 x_at_6 x_wrong_6 = (p_X8_fine F x_wrong_6 (fun (r_7 : Int32) => ((r_7 = 0 → (Post y2_6 (x_at_6, x_wrong_6))) ∧ (¬ r_7 = 0 → (p_X8_here F x_length x_top x_at_6 n_read f_read (fun (r_14 : Int32) => ((r_14 = (43 : Int32) → (p_X8_sum_31 F T p1 x_length x_top x_isAsked n_read f_read f_asked y2_6 x_at_6 x_wrong_6 (p_X8_sum_6 F T p1 x_length x_top x_isAsked n_read f_read f_asked Post n) Post )) ∧ (¬ r_14 = (43 : Int32) → (p_X8_here F x_length x_top x_at_6 n_read f_read (fun (r_23 : Int32) => ((¬ r_23 = (45 : Int32) → (Post y2_6 (x_at_6, x_wrong_6))) ∧ (r_23 = (45 : Int32) → (p_X8_sum_31 F T p1 x_length x_top x_isAsked n_read f_read f_asked y2_6 x_at_6 x_wrong_6 (p_X8_sum_6 F T p1 x_length x_top x_isAsked n_read f_read f_asked Post n) Post ))))))))))))) := rfl
def p_X8_sum (F : Nat) (T : Int32 → Int32 → Int32 → Int32 → Int32 → Int32 → Nat → (Nat → Int32) → (Nat → Int32) → (Int32 → (Int32 × Int32) → Prop) → Prop) (p1 : Int32) (x_length : Int32) (x_top : Int32) (x_at : Int32) (x_wrong : Int32) (x_isAsked : Int32) (n_read : Nat) (f_read : Nat → Int32) (f_asked : Nat → Int32) (Post : Int32 → (Int32 × Int32) → Prop) : Prop := (p_X8_product F T p1 x_length x_top x_at x_wrong x_isAsked n_read f_read f_asked (fun (r_2 : Int32) (u_2 : (Int32 × Int32)) => (p_X8_sum_6 F T p1 x_length x_top x_isAsked n_read f_read f_asked Post F r_2 u_2.1 u_2.2)))
set_option maxHeartbeats 4000000 in
set_option maxRecDepth 100000 in
theorem c_X8_sum (l : Launch) (D : va_G) (cT : Nat → ClassId) (F : Nat) (T : Int32 → Int32 → Int32 → Int32 → Int32 → Int32 → Nat → (Nat → Int32) → (Nat → Int32) → (Int32 → (Int32 × Int32) → Prop) → Prop) (fT lT : Nat) (hT : ∀ (h : Nat) (p1 : Int32) (w_now : Value) (x_arches : Int32) (x_cats : Int32) (w_text : Value) (x_typed : Int32) (w_row : Value) (x_rowMany : Int32) (x_thrown : Int32) (q_read : Nat) (x_length : Int32) (x_top : Int32) (x_at : Int32) (x_wrong : Int32) (w_told : Value) (w_rule : Value) (w_otherRule : Value) (x_ruleSize : Int32) (x_isAsked : Int32) (q_asked : Nat) (w_undos : Value) (x_undoMany : Int32) (w_aside : Value) (w_then : Value) (w_hold : Value) (x_dropped : Int32) (w_acts : Value) (w_guarded : Value) (w_train : Value) (x_trolleyEnd : Int32) (w_feltOf : Value) (w_feltBy : Value) (x_feltMany : Int32) (w_many : Value) (w_heardOf : Value) (w_heardBy : Value) (x_heardMany : Int32) (w_worth : Value) (x_drawn : Int32) (x_came : Int32) (w_kept : Value) (w_isKept : Value) (w_keptCame : Value) (n_read : Nat) (f_read : Nat → Int32) (f_asked : Nat → Int32) (Post : Int32 → (Int32 × Int32) → Prop) (hg : T p1 x_length x_top x_at x_wrong x_isAsked n_read f_read f_asked Post), MWi l D cT yX8_thing cX8_thing 4 (some .int) fT lT 0 0 [.ref h, .int p1] [(h, oX8 w_now (.int x_arches) (.int x_cats) w_text (.int x_typed) w_row (.int x_rowMany) (.int x_thrown) (.ref q_read) (.int x_length) (.int x_top) (.int x_at) (.int x_wrong) w_told w_rule w_otherRule (.int x_ruleSize) (.int x_isAsked) (.ref q_asked) w_undos (.int x_undoMany) w_aside w_then w_hold (.int x_dropped) w_acts w_guarded w_train (.int x_trolleyEnd) w_feltOf w_feltBy (.int x_feltMany) w_many w_heardOf w_heardBy (.int x_heardMany) w_worth (.int x_drawn) (.int x_came) w_kept w_isKept w_keptCame), (q_read, aB cT n_read f_read), (q_asked, aI cT 7 f_asked)] Post (fun (u : Int32 × Int32) => [(h, oX8 w_now (.int x_arches) (.int x_cats) w_text (.int x_typed) w_row (.int x_rowMany) (.int x_thrown) (.ref q_read) (.int x_length) (.int x_top) (.int u.1) (.int u.2) w_told w_rule w_otherRule (.int x_ruleSize) (.int x_isAsked) (.ref q_asked) w_undos (.int x_undoMany) w_aside w_then w_hold (.int x_dropped) w_acts w_guarded w_train (.int x_trolleyEnd) w_feltOf w_feltBy (.int x_feltMany) w_many w_heardOf w_heardBy (.int x_heardMany) w_worth (.int x_drawn) (.int x_came) w_kept w_isKept w_keptCame), (q_read, aB cT n_read f_read), (q_asked, aI cT 7 f_asked)])) (h : Nat) (p1 : Int32) (w_now : Value) (x_arches : Int32) (x_cats : Int32) (w_text : Value) (x_typed : Int32) (w_row : Value) (x_rowMany : Int32) (x_thrown : Int32) (q_read : Nat) (x_length : Int32) (x_top : Int32) (x_at : Int32) (x_wrong : Int32) (w_told : Value) (w_rule : Value) (w_otherRule : Value) (x_ruleSize : Int32) (x_isAsked : Int32) (q_asked : Nat) (w_undos : Value) (x_undoMany : Int32) (w_aside : Value) (w_then : Value) (w_hold : Value) (x_dropped : Int32) (w_acts : Value) (w_guarded : Value) (w_train : Value) (x_trolleyEnd : Int32) (w_feltOf : Value) (w_feltBy : Value) (x_feltMany : Int32) (w_many : Value) (w_heardOf : Value) (w_heardBy : Value) (x_heardMany : Int32) (w_worth : Value) (x_drawn : Int32) (x_came : Int32) (w_kept : Value) (w_isKept : Value) (w_keptCame : Value) (n_read : Nat) (f_read : Nat → Int32) (f_asked : Nat → Int32) (Post : Int32 → (Int32 × Int32) → Prop) (hg : p_X8_sum F T p1 x_length x_top x_at x_wrong x_isAsked n_read f_read f_asked Post) : MWi l D cT yX8_sum cX8_sum 5 (some .int) (fT + 5) (lT + 140) 0 0 [.ref h, .int p1] [(h, oX8 w_now (.int x_arches) (.int x_cats) w_text (.int x_typed) w_row (.int x_rowMany) (.int x_thrown) (.ref q_read) (.int x_length) (.int x_top) (.int x_at) (.int x_wrong) w_told w_rule w_otherRule (.int x_ruleSize) (.int x_isAsked) (.ref q_asked) w_undos (.int x_undoMany) w_aside w_then w_hold (.int x_dropped) w_acts w_guarded w_train (.int x_trolleyEnd) w_feltOf w_feltBy (.int x_feltMany) w_many w_heardOf w_heardBy (.int x_heardMany) w_worth (.int x_drawn) (.int x_came) w_kept w_isKept w_keptCame), (q_read, aB cT n_read f_read), (q_asked, aI cT 7 f_asked)] Post (fun (u : (Int32 × Int32)) => [(h, oX8 w_now (.int x_arches) (.int x_cats) w_text (.int x_typed) w_row (.int x_rowMany) (.int x_thrown) (.ref q_read) (.int x_length) (.int x_top) (.int u.1) (.int u.2) w_told w_rule w_otherRule (.int x_ruleSize) (.int x_isAsked) (.ref q_asked) w_undos (.int x_undoMany) w_aside w_then w_hold (.int x_dropped) w_acts w_guarded w_train (.int x_trolleyEnd) w_feltOf w_feltBy (.int x_feltMany) w_many w_heardOf w_heardBy (.int x_heardMany) w_worth (.int x_drawn) (.int x_came) w_kept w_isKept w_keptCame), (q_read, aB cT n_read f_read), (q_asked, aI cT 7 f_asked)]) := by
  refine MWi.of (by decide) (Nat.le_of_ble_eq_true rfl) ?_
  intro p e s m below meth c A hA C0 hnm hr hP hD ls hl
  have hl : lv_has ls 5 [(0, .ref h), (1, .int p1)] := hl
  have hx := C0.x
  have hb := C0.b
  have hS : va_S A s.heap s.heap [] := va_S.rf
  have hP : va_P D cls9 [(h, oX8 w_now (.int x_arches) (.int x_cats) w_text (.int x_typed) w_row (.int x_rowMany) (.int x_thrown) (.ref q_read) (.int x_length) (.int x_top) (.int x_at) (.int x_wrong) w_told w_rule w_otherRule (.int x_ruleSize) (.int x_isAsked) (.ref q_asked) w_undos (.int x_undoMany) w_aside w_then w_hold (.int x_dropped) w_acts w_guarded w_train (.int x_trolleyEnd) w_feltOf w_feltBy (.int x_feltMany) w_many w_heardOf w_heardBy (.int x_heardMany) w_worth (.int x_drawn) (.int x_came) w_kept w_isKept w_keptCame), (q_read, aB cT n_read f_read), (q_asked, aI cT 7 f_asked)] s.heap := hP
  have hD : va_D A [(h, oX8 w_now (.int x_arches) (.int x_cats) w_text (.int x_typed) w_row (.int x_rowMany) (.int x_thrown) (.ref q_read) (.int x_length) (.int x_top) (.int x_at) (.int x_wrong) w_told w_rule w_otherRule (.int x_ruleSize) (.int x_isAsked) (.ref q_asked) w_undos (.int x_undoMany) w_aside w_then w_hold (.int x_dropped) w_acts w_guarded w_train (.int x_trolleyEnd) w_feltOf w_feltBy (.int x_feltMany) w_many w_heardOf w_heardBy (.int x_heardMany) w_worth (.int x_drawn) (.int x_came) w_kept w_isKept w_keptCame), (q_read, aB cT n_read f_read), (q_asked, aI cT 7 f_asked)] := hD
  have L6 : ∀ (n6 : Nat) (y2_6 : Int32) (x_at_6 : Int32) (x_wrong_6 : Int32) (H : Heap) (locs : List Loc) (ls : Array Slot), p_X8_sum_6 F T p1 x_length x_top x_isAsked n_read f_read f_asked Post n6 y2_6 x_at_6 x_wrong_6 → va_P D cls9 [(h, oX8 w_now (.int x_arches) (.int x_cats) w_text (.int x_typed) w_row (.int x_rowMany) (.int x_thrown) (.ref q_read) (.int x_length) (.int x_top) (.int x_at_6) (.int x_wrong_6) w_told w_rule w_otherRule (.int x_ruleSize) (.int x_isAsked) (.ref q_asked) w_undos (.int x_undoMany) w_aside w_then w_hold (.int x_dropped) w_acts w_guarded w_train (.int x_trolleyEnd) w_feltOf w_feltBy (.int x_feltMany) w_many w_heardOf w_heardBy (.int x_heardMany) w_worth (.int x_drawn) (.int x_came) w_kept w_isKept w_keptCame), (q_read, aB cT n_read f_read), (q_asked, aI cT 7 f_asked)] H → va_D A [(h, oX8 w_now (.int x_arches) (.int x_cats) w_text (.int x_typed) w_row (.int x_rowMany) (.int x_thrown) (.ref q_read) (.int x_length) (.int x_top) (.int x_at_6) (.int x_wrong_6) w_told w_rule w_otherRule (.int x_ruleSize) (.int x_isAsked) (.ref q_asked) w_undos (.int x_undoMany) w_aside w_then w_hold (.int x_dropped) w_acts w_guarded w_train (.int x_trolleyEnd) w_feltOf w_feltBy (.int x_feltMany) w_many w_heardOf w_heardBy (.int x_heardMany) w_worth (.int x_drawn) (.int x_came) w_kept w_isKept w_keptCame), (q_read, aB cT n_read f_read), (q_asked, aI cT 7 f_asked)] → va_S A s.heap H locs → lv_has ls 5 [(0, .ref h), (1, .int p1), (2, .int y2_6)] → W p l e (rmO (fT + 5) (lT + 140) 0 0) s m ([.ref h, .int p1] : List Value).toArray below meth c H locs 0 0 (MQ below (va_Qi Post (cB D A (fun (u : (Int32 × Int32)) => [(h, oX8 w_now (.int x_arches) (.int x_cats) w_text (.int x_typed) w_row (.int x_rowMany) (.int x_thrown) (.ref q_read) (.int x_length) (.int x_top) (.int u.1) (.int u.2) w_told w_rule w_otherRule (.int x_ruleSize) (.int x_isAsked) (.ref q_asked) w_undos (.int x_undoMany) w_aside w_then w_hold (.int x_dropped) w_acts w_guarded w_train (.int x_trolleyEnd) w_feltOf w_feltBy (.int x_feltMany) w_many w_heardOf w_heardBy (.int x_heardMany) w_worth (.int x_drawn) (.int x_came) w_kept w_isKept w_keptCame), (q_read, aB cT n_read f_read), (q_asked, aI cT 7 f_asked)])) A) ([.ref h, .int p1] : List Value).toArray s 0 0 A) (F0 m 6 ls []) := by
    intro n6
    induction n6 with
    | zero =>
      intro y2_6 x_at_6 x_wrong_6 H locs ls hg hP hD hS hl
      exact False.elim hg
    | succ n6 ih6 =>
      have L78 : ∀ (u_58 : (Int32 × Int32)) (s0_78 : Int32) (H : Heap) (locs : List Loc) (ls : Array Slot), p_X8_sum_78 F T u_58 (p_X8_sum_6 F T p1 x_length x_top x_isAsked n_read f_read f_asked Post n6) Post s0_78 → va_P D cls9 [(h, oX8 w_now (.int x_arches) (.int x_cats) w_text (.int x_typed) w_row (.int x_rowMany) (.int x_thrown) (.ref q_read) (.int x_length) (.int x_top) (.int u_58.1) (.int u_58.2) w_told w_rule w_otherRule (.int x_ruleSize) (.int x_isAsked) (.ref q_asked) w_undos (.int x_undoMany) w_aside w_then w_hold (.int x_dropped) w_acts w_guarded w_train (.int x_trolleyEnd) w_feltOf w_feltBy (.int x_feltMany) w_many w_heardOf w_heardBy (.int x_heardMany) w_worth (.int x_drawn) (.int x_came) w_kept w_isKept w_keptCame), (q_read, aB cT n_read f_read), (q_asked, aI cT 7 f_asked)] H → va_D A [(h, oX8 w_now (.int x_arches) (.int x_cats) w_text (.int x_typed) w_row (.int x_rowMany) (.int x_thrown) (.ref q_read) (.int x_length) (.int x_top) (.int u_58.1) (.int u_58.2) w_told w_rule w_otherRule (.int x_ruleSize) (.int x_isAsked) (.ref q_asked) w_undos (.int x_undoMany) w_aside w_then w_hold (.int x_dropped) w_acts w_guarded w_train (.int x_trolleyEnd) w_feltOf w_feltBy (.int x_feltMany) w_many w_heardOf w_heardBy (.int x_heardMany) w_worth (.int x_drawn) (.int x_came) w_kept w_isKept w_keptCame), (q_read, aB cT n_read f_read), (q_asked, aI cT 7 f_asked)] → va_S A s.heap H locs → lv_has ls 5 [(0, .ref h), (1, .int p1)] → W p l e (rmO (fT + 5) (lT + 140) 0 0) s m ([.ref h, .int p1] : List Value).toArray below meth c H locs 0 0 (MQ below (va_Qi Post (cB D A (fun (u : (Int32 × Int32)) => [(h, oX8 w_now (.int x_arches) (.int x_cats) w_text (.int x_typed) w_row (.int x_rowMany) (.int x_thrown) (.ref q_read) (.int x_length) (.int x_top) (.int u.1) (.int u.2) w_told w_rule w_otherRule (.int x_ruleSize) (.int x_isAsked) (.ref q_asked) w_undos (.int x_undoMany) w_aside w_then w_hold (.int x_dropped) w_acts w_guarded w_train (.int x_trolleyEnd) w_feltOf w_feltBy (.int x_feltMany) w_many w_heardOf w_heardBy (.int x_heardMany) w_worth (.int x_drawn) (.int x_came) w_kept w_isKept w_keptCame), (q_read, aB cT n_read f_read), (q_asked, aI cT 7 f_asked)])) A) ([.ref h, .int p1] : List Value).toArray s 0 0 A) (F0 m 78 ls [.int s0_78]) := by
        intro u_58 s0_78 H locs ls hg hP hD hS hl
        unfold p_X8_sum_78 at hg
        refine lv_istore_n (lv' := [(2, .int s0_78), (0, .ref h), (1, .int p1)]) hx hb dX8_sum_78 rfl hl (by decide) rfl (fun ls hl => ?_)
        refine lv_goto (tgt := 6) hx hb dX8_sum_79 (by decide) ?_
        exact ih6 s0_78 u_58.1 u_58.2 _ _ _ hg hP hD hS (lv_sub hl [1, 2, 0] rfl)
      have L45 : ∀ (y2_6 : Int32) (x_at_6 : Int32) (x_wrong_6 : Int32) (s0_45 : Int32) (H : Heap) (locs : List Loc) (ls : Array Slot), p_X8_sum_45 F T p1 x_length x_top x_isAsked n_read f_read f_asked y2_6 x_at_6 x_wrong_6 (p_X8_sum_6 F T p1 x_length x_top x_isAsked n_read f_read f_asked Post n6) Post s0_45 → va_P D cls9 [(h, oX8 w_now (.int x_arches) (.int x_cats) w_text (.int x_typed) w_row (.int x_rowMany) (.int x_thrown) (.ref q_read) (.int x_length) (.int x_top) (.int x_at_6) (.int x_wrong_6) w_told w_rule w_otherRule (.int x_ruleSize) (.int x_isAsked) (.ref q_asked) w_undos (.int x_undoMany) w_aside w_then w_hold (.int x_dropped) w_acts w_guarded w_train (.int x_trolleyEnd) w_feltOf w_feltBy (.int x_feltMany) w_many w_heardOf w_heardBy (.int x_heardMany) w_worth (.int x_drawn) (.int x_came) w_kept w_isKept w_keptCame), (q_read, aB cT n_read f_read), (q_asked, aI cT 7 f_asked)] H → va_D A [(h, oX8 w_now (.int x_arches) (.int x_cats) w_text (.int x_typed) w_row (.int x_rowMany) (.int x_thrown) (.ref q_read) (.int x_length) (.int x_top) (.int x_at_6) (.int x_wrong_6) w_told w_rule w_otherRule (.int x_ruleSize) (.int x_isAsked) (.ref q_asked) w_undos (.int x_undoMany) w_aside w_then w_hold (.int x_dropped) w_acts w_guarded w_train (.int x_trolleyEnd) w_feltOf w_feltBy (.int x_feltMany) w_many w_heardOf w_heardBy (.int x_heardMany) w_worth (.int x_drawn) (.int x_came) w_kept w_isKept w_keptCame), (q_read, aB cT n_read f_read), (q_asked, aI cT 7 f_asked)] → va_S A s.heap H locs → lv_has ls 5 [(0, .ref h), (1, .int p1), (2, .int y2_6)] → W p l e (rmO (fT + 5) (lT + 140) 0 0) s m ([.ref h, .int p1] : List Value).toArray below meth c H locs 0 0 (MQ below (va_Qi Post (cB D A (fun (u : (Int32 × Int32)) => [(h, oX8 w_now (.int x_arches) (.int x_cats) w_text (.int x_typed) w_row (.int x_rowMany) (.int x_thrown) (.ref q_read) (.int x_length) (.int x_top) (.int u.1) (.int u.2) w_told w_rule w_otherRule (.int x_ruleSize) (.int x_isAsked) (.ref q_asked) w_undos (.int x_undoMany) w_aside w_then w_hold (.int x_dropped) w_acts w_guarded w_train (.int x_trolleyEnd) w_feltOf w_feltBy (.int x_feltMany) w_many w_heardOf w_heardBy (.int x_heardMany) w_worth (.int x_drawn) (.int x_came) w_kept w_isKept w_keptCame), (q_read, aB cT n_read f_read), (q_asked, aI cT 7 f_asked)])) A) ([.ref h, .int p1] : List Value).toArray s 0 0 A) (F0 m 45 ls [.int s0_45]) := by
        intro y2_6 x_at_6 x_wrong_6 s0_45 H locs ls hg hP hD hS hl
        unfold p_X8_sum_45 at hg
        refine lv_istore_n (lv' := [(3, .int s0_45), (0, .ref h), (1, .int p1), (2, .int y2_6)]) hx hb dX8_sum_45 rfl hl (by decide) rfl (fun ls hl => ?_)
        refine lv_aload_n hx hb dX8_sum_46 rfl (lv_at hl 1 rfl) ?_
        refine lv_dup hx hb dX8_sum_47 rfl ?_
        refine gf_X8_111 C0 hP 0 rfl rfl dX8_sum_48 ?_
        refine lv_iconst (v := (1 : Int32)) hx hb dX8_sum_51 (by decide) ?_
        refine lv_iadd hx hb dX8_sum_52 ?_
        refine pf_X8_111 C0 hP hD hS 0 rfl (Nat.le_of_ble_eq_true rfl) (ws2 := [(h, oX8 w_now (.int x_arches) (.int x_cats) w_text (.int x_typed) w_row (.int x_rowMany) (.int x_thrown) (.ref q_read) (.int x_length) (.int x_top) (.int (x_at_6 + (1 : Int32))) (.int x_wrong_6) w_told w_rule w_otherRule (.int x_ruleSize) (.int x_isAsked) (.ref q_asked) w_undos (.int x_undoMany) w_aside w_then w_hold (.int x_dropped) w_acts w_guarded w_train (.int x_trolleyEnd) w_feltOf w_feltBy (.int x_feltMany) w_many w_heardOf w_heardBy (.int x_heardMany) w_worth (.int x_drawn) (.int x_came) w_kept w_isKept w_keptCame), (q_read, aB cT n_read f_read), (q_asked, aI cT 7 f_asked)]) rfl dX8_sum_53 (fun H locs hP hD hS => ?_)
        refine lv_aload_n hx hb dX8_sum_56 rfl (lv_at hl 1 rfl) ?_
        refine lv_iload_n hx hb dX8_sum_57 rfl (lv_at hl 2 rfl) ?_
        refine k_Vi (rest := []) (wr := []) (w2 := fun u_58 => [(h, oX8 w_now (.int x_arches) (.int x_cats) w_text (.int x_typed) w_row (.int x_rowMany) (.int x_thrown) (.ref q_read) (.int x_length) (.int x_top) (.int u_58.1) (.int u_58.2) w_told w_rule w_otherRule (.int x_ruleSize) (.int x_isAsked) (.ref q_asked) w_undos (.int x_undoMany) w_aside w_then w_hold (.int x_dropped) w_acts w_guarded w_train (.int x_trolleyEnd) w_feltOf w_feltBy (.int x_feltMany) w_many w_heardOf w_heardBy (.int x_heardMany) w_worth (.int x_drawn) (.int x_came) w_kept w_isKept w_keptCame), (q_read, aB cT n_read f_read), (q_asked, aI cT 7 f_asked)]) C0 lk_X8_160 (c_X8_product l D cT F T fT lT hT h p1 w_now x_arches x_cats w_text x_typed w_row x_rowMany x_thrown q_read x_length x_top (x_at_6 + (1 : Int32)) x_wrong_6 w_told w_rule w_otherRule x_ruleSize x_isAsked q_asked w_undos x_undoMany w_aside w_then w_hold x_dropped w_acts w_guarded w_train x_trolleyEnd w_feltOf w_feltBy x_feltMany w_many w_heardOf w_heardBy x_heardMany w_worth x_drawn x_came w_kept w_isKept w_keptCame n_read f_read f_asked _ hg) hP hD hS hA [0, 1, 2] [] (by decide +kernel) rfl rfl (fun _ => rfl) rfl rfl ⟨rm_f (by omega), rm_l (by omega)⟩ rfl hl.1 rfl (Nat.le_of_ble_eq_true rfl) dX8_sum_58 ⟨Nat.le_of_ble_eq_true rfl, Nat.le_of_ble_eq_true rfl⟩ ?_
        intro r_58 u_58 H locs hg hP hD hS
        refine lv_istore (lv' := [(4, .int r_58), (3, .int s0_45), (0, .ref h), (1, .int p1), (2, .int y2_6)]) hx hb dX8_sum_61 hl (by decide) rfl (fun ls hl => ?_)
        refine lv_iload_n hx hb dX8_sum_63 rfl (lv_at hl 1 rfl) ?_
        refine lv_if_eq (tgt := 74) hx hb dX8_sum_64 (by decide) (fun c_64 => ?_) (fun c_64 => ?_)
        · have hg := hg.1 c_64
          refine lv_iload_n hx hb dX8_sum_74 rfl (lv_at hl 4 rfl) ?_
          refine lv_iload hx hb dX8_sum_75 (lv_at hl 0 rfl) ?_
          refine lv_isub hx hb dX8_sum_77 ?_
          exact L78 u_58 (y2_6 - r_58) _ _ _ hg hP hD hS (lv_sub hl [2, 3] rfl)
        have hg := hg.2 c_64
        refine lv_iload_n hx hb dX8_sum_67 rfl (lv_at hl 4 rfl) ?_
        refine lv_iload hx hb dX8_sum_68 (lv_at hl 0 rfl) ?_
        refine lv_iadd hx hb dX8_sum_70 ?_
        refine lv_goto (tgt := 78) hx hb dX8_sum_71 (by decide) ?_
        exact L78 u_58 (y2_6 + r_58) _ _ _ hg hP hD hS (lv_sub hl [2, 3] rfl)
      have L31 : ∀ (y2_6 : Int32) (x_at_6 : Int32) (x_wrong_6 : Int32) (H : Heap) (locs : List Loc) (ls : Array Slot), p_X8_sum_31 F T p1 x_length x_top x_isAsked n_read f_read f_asked y2_6 x_at_6 x_wrong_6 (p_X8_sum_6 F T p1 x_length x_top x_isAsked n_read f_read f_asked Post n6) Post → va_P D cls9 [(h, oX8 w_now (.int x_arches) (.int x_cats) w_text (.int x_typed) w_row (.int x_rowMany) (.int x_thrown) (.ref q_read) (.int x_length) (.int x_top) (.int x_at_6) (.int x_wrong_6) w_told w_rule w_otherRule (.int x_ruleSize) (.int x_isAsked) (.ref q_asked) w_undos (.int x_undoMany) w_aside w_then w_hold (.int x_dropped) w_acts w_guarded w_train (.int x_trolleyEnd) w_feltOf w_feltBy (.int x_feltMany) w_many w_heardOf w_heardBy (.int x_heardMany) w_worth (.int x_drawn) (.int x_came) w_kept w_isKept w_keptCame), (q_read, aB cT n_read f_read), (q_asked, aI cT 7 f_asked)] H → va_D A [(h, oX8 w_now (.int x_arches) (.int x_cats) w_text (.int x_typed) w_row (.int x_rowMany) (.int x_thrown) (.ref q_read) (.int x_length) (.int x_top) (.int x_at_6) (.int x_wrong_6) w_told w_rule w_otherRule (.int x_ruleSize) (.int x_isAsked) (.ref q_asked) w_undos (.int x_undoMany) w_aside w_then w_hold (.int x_dropped) w_acts w_guarded w_train (.int x_trolleyEnd) w_feltOf w_feltBy (.int x_feltMany) w_many w_heardOf w_heardBy (.int x_heardMany) w_worth (.int x_drawn) (.int x_came) w_kept w_isKept w_keptCame), (q_read, aB cT n_read f_read), (q_asked, aI cT 7 f_asked)] → va_S A s.heap H locs → lv_has ls 5 [(0, .ref h), (1, .int p1), (2, .int y2_6)] → W p l e (rmO (fT + 5) (lT + 140) 0 0) s m ([.ref h, .int p1] : List Value).toArray below meth c H locs 0 0 (MQ below (va_Qi Post (cB D A (fun (u : (Int32 × Int32)) => [(h, oX8 w_now (.int x_arches) (.int x_cats) w_text (.int x_typed) w_row (.int x_rowMany) (.int x_thrown) (.ref q_read) (.int x_length) (.int x_top) (.int u.1) (.int u.2) w_told w_rule w_otherRule (.int x_ruleSize) (.int x_isAsked) (.ref q_asked) w_undos (.int x_undoMany) w_aside w_then w_hold (.int x_dropped) w_acts w_guarded w_train (.int x_trolleyEnd) w_feltOf w_feltBy (.int x_feltMany) w_many w_heardOf w_heardBy (.int x_heardMany) w_worth (.int x_drawn) (.int x_came) w_kept w_isKept w_keptCame), (q_read, aB cT n_read f_read), (q_asked, aI cT 7 f_asked)])) A) ([.ref h, .int p1] : List Value).toArray s 0 0 A) (F0 m 31 ls []) := by
        intro y2_6 x_at_6 x_wrong_6 H locs ls hg hP hD hS hl
        unfold p_X8_sum_31 at hg
        refine lv_aload_n hx hb dX8_sum_31 rfl (lv_at hl 0 rfl) ?_
        refine k_Vxi (rest := []) C0 lk_X8_125 (c_X8_here l D cT F h w_now x_arches x_cats w_text x_typed w_row x_rowMany x_thrown q_read x_length x_top x_at_6 x_wrong_6 w_told w_rule w_otherRule x_ruleSize x_isAsked (.ref q_asked) w_undos x_undoMany w_aside w_then w_hold x_dropped w_acts w_guarded w_train x_trolleyEnd w_feltOf w_feltBy x_feltMany w_many w_heardOf w_heardBy x_heardMany w_worth x_drawn x_came w_kept w_isKept w_keptCame n_read f_read _ hg) hP hD hS hA [0, 1] (by decide +kernel) rfl rfl rfl ⟨rm_f (by omega), rm_l (by omega)⟩ rfl hl.1 rfl (Nat.le_of_ble_eq_true rfl) dX8_sum_32 ⟨Nat.le_of_ble_eq_true rfl, Nat.le_of_ble_eq_true rfl⟩ (fun r_32 hg => ?_)
        refine lv_bipush (v := (43 : Int32)) hx hb dX8_sum_35 (by decide) ?_
        refine lv_icmp_ne (tgt := 44) hx hb dX8_sum_37 (by decide) (fun c_37 => ?_) (fun c_37 => ?_)
        · have hg := hg.1 c_37
          refine lv_iconst (v := (0 : Int32)) hx hb dX8_sum_44 (by decide) ?_
          exact L45 y2_6 x_at_6 x_wrong_6 (0 : Int32) _ _ _ hg hP hD hS hl
        have hg := hg.2 c_37
        refine lv_iconst (v := (1 : Int32)) hx hb dX8_sum_40 (by decide) ?_
        refine lv_goto (tgt := 45) hx hb dX8_sum_41 (by decide) ?_
        exact L45 y2_6 x_at_6 x_wrong_6 (1 : Int32) _ _ _ hg hP hD hS hl
      intro y2_6 x_at_6 x_wrong_6 H locs ls hg hP hD hS hl
      rw [p_X8_sum_6_s] at hg
      refine lv_aload_n hx hb dX8_sum_6 rfl (lv_at hl 0 rfl) ?_
      refine k_Vxi (rest := []) C0 lk_X8_121 (c_X8_fine l D cT F h w_now x_arches x_cats w_text x_typed w_row x_rowMany x_thrown (.ref q_read) x_length x_top x_at_6 x_wrong_6 w_told w_rule w_otherRule x_ruleSize x_isAsked (.ref q_asked) w_undos x_undoMany w_aside w_then w_hold x_dropped w_acts w_guarded w_train x_trolleyEnd w_feltOf w_feltBy x_feltMany w_many w_heardOf w_heardBy x_heardMany w_worth x_drawn x_came w_kept w_isKept w_keptCame _ hg) hP hD hS hA [0] (by decide +kernel) rfl rfl rfl ⟨rm_f (by omega), rm_l (by omega)⟩ rfl hl.1 rfl (Nat.le_of_ble_eq_true rfl) dX8_sum_7 ⟨Nat.le_of_ble_eq_true rfl, Nat.le_of_ble_eq_true rfl⟩ (fun r_7 hg => ?_)
      refine lv_if_eq (tgt := 82) hx hb dX8_sum_10 (by decide) (fun c_10 => ?_) (fun c_10 => ?_)
      · have hg := hg.1 c_10
        refine lv_iload_n hx hb dX8_sum_82 rfl (lv_at hl 2 rfl) ?_
        exact k_iret C0 hr (x_at_6, x_wrong_6) hg hP hD hS dX8_sum_83
      have hg := hg.2 c_10
      refine lv_aload_n hx hb dX8_sum_13 rfl (lv_at hl 0 rfl) ?_
      refine k_Vxi (rest := []) C0 lk_X8_125 (c_X8_here l D cT F h w_now x_arches x_cats w_text x_typed w_row x_rowMany x_thrown q_read x_length x_top x_at_6 x_wrong_6 w_told w_rule w_otherRule x_ruleSize x_isAsked (.ref q_asked) w_undos x_undoMany w_aside w_then w_hold x_dropped w_acts w_guarded w_train x_trolleyEnd w_feltOf w_feltBy x_feltMany w_many w_heardOf w_heardBy x_heardMany w_worth x_drawn x_came w_kept w_isKept w_keptCame n_read f_read _ hg) hP hD hS hA [0, 1] (by decide +kernel) rfl rfl rfl ⟨rm_f (by omega), rm_l (by omega)⟩ rfl hl.1 rfl (Nat.le_of_ble_eq_true rfl) dX8_sum_14 ⟨Nat.le_of_ble_eq_true rfl, Nat.le_of_ble_eq_true rfl⟩ (fun r_14 hg => ?_)
      refine lv_bipush (v := (43 : Int32)) hx hb dX8_sum_17 (by decide) ?_
      refine lv_icmp_eq (tgt := 31) hx hb dX8_sum_19 (by decide) (fun c_19 => ?_) (fun c_19 => ?_)
      · have hg := hg.1 c_19
        exact L31 y2_6 x_at_6 x_wrong_6 _ _ _ hg hP hD hS hl
      have hg := hg.2 c_19
      refine lv_aload_n hx hb dX8_sum_22 rfl (lv_at hl 0 rfl) ?_
      refine k_Vxi (rest := []) C0 lk_X8_125 (c_X8_here l D cT F h w_now x_arches x_cats w_text x_typed w_row x_rowMany x_thrown q_read x_length x_top x_at_6 x_wrong_6 w_told w_rule w_otherRule x_ruleSize x_isAsked (.ref q_asked) w_undos x_undoMany w_aside w_then w_hold x_dropped w_acts w_guarded w_train x_trolleyEnd w_feltOf w_feltBy x_feltMany w_many w_heardOf w_heardBy x_heardMany w_worth x_drawn x_came w_kept w_isKept w_keptCame n_read f_read _ hg) hP hD hS hA [0, 1] (by decide +kernel) rfl rfl rfl ⟨rm_f (by omega), rm_l (by omega)⟩ rfl hl.1 rfl (Nat.le_of_ble_eq_true rfl) dX8_sum_23 ⟨Nat.le_of_ble_eq_true rfl, Nat.le_of_ble_eq_true rfl⟩ (fun r_23 hg => ?_)
      refine lv_bipush (v := (45 : Int32)) hx hb dX8_sum_26 (by decide) ?_
      refine lv_icmp_ne (tgt := 82) hx hb dX8_sum_28 (by decide) (fun c_28 => ?_) (fun c_28 => ?_)
      · have hg := hg.1 c_28
        refine lv_iload_n hx hb dX8_sum_82 rfl (lv_at hl 2 rfl) ?_
        exact k_iret C0 hr (x_at_6, x_wrong_6) hg hP hD hS dX8_sum_83
      have hg := hg.2 c_28
      exact L31 y2_6 x_at_6 x_wrong_6 _ _ _ hg hP hD hS hl
  unfold p_X8_sum at hg
  refine lv_aload_n hx hb dX8_sum_0 rfl (lv_at hl 0 rfl) ?_
  refine lv_iload_n hx hb dX8_sum_1 rfl (lv_at hl 1 rfl) ?_
  refine k_Vi (rest := []) (wr := []) (w2 := fun u_2 => [(h, oX8 w_now (.int x_arches) (.int x_cats) w_text (.int x_typed) w_row (.int x_rowMany) (.int x_thrown) (.ref q_read) (.int x_length) (.int x_top) (.int u_2.1) (.int u_2.2) w_told w_rule w_otherRule (.int x_ruleSize) (.int x_isAsked) (.ref q_asked) w_undos (.int x_undoMany) w_aside w_then w_hold (.int x_dropped) w_acts w_guarded w_train (.int x_trolleyEnd) w_feltOf w_feltBy (.int x_feltMany) w_many w_heardOf w_heardBy (.int x_heardMany) w_worth (.int x_drawn) (.int x_came) w_kept w_isKept w_keptCame), (q_read, aB cT n_read f_read), (q_asked, aI cT 7 f_asked)]) C0 lk_X8_160 (c_X8_product l D cT F T fT lT hT h p1 w_now x_arches x_cats w_text x_typed w_row x_rowMany x_thrown q_read x_length x_top x_at x_wrong w_told w_rule w_otherRule x_ruleSize x_isAsked q_asked w_undos x_undoMany w_aside w_then w_hold x_dropped w_acts w_guarded w_train x_trolleyEnd w_feltOf w_feltBy x_feltMany w_many w_heardOf w_heardBy x_heardMany w_worth x_drawn x_came w_kept w_isKept w_keptCame n_read f_read f_asked _ hg) hP hD hS hA [0, 1, 2] [] (by decide +kernel) rfl rfl (fun _ => rfl) rfl rfl ⟨rm_f (by omega), rm_l (by omega)⟩ rfl hl.1 rfl (Nat.le_of_ble_eq_true rfl) dX8_sum_2 ⟨Nat.le_of_ble_eq_true rfl, Nat.le_of_ble_eq_true rfl⟩ ?_
  intro r_2 u_2 H locs hg hP hD hS
  refine lv_istore_n (lv' := [(2, .int r_2), (0, .ref h), (1, .int p1)]) hx hb dX8_sum_5 rfl hl (by decide) rfl (fun ls hl => ?_)
  exact L6 F r_2 u_2.1 u_2.2 _ _ _ hg hP hD hS (lv_sub hl [1, 2, 0] rfl)
theorem dX8_held_0 : decode cX8_held 0 = .ok (.aload_n 0, 1) := by decide +kernel
theorem dX8_held_1 : decode cX8_held 1 = .ok (.iload_n 1, 1) := by decide +kernel
theorem dX8_held_2 : decode cX8_held 2 = .ok (.invokevirtual 156, 3) := by decide +kernel
theorem dX8_held_5 : decode cX8_held 5 = .ok (.istore_n 2, 1) := by decide +kernel
theorem dX8_held_6 : decode cX8_held 6 = .ok (.aload_n 0, 1) := by decide +kernel
theorem dX8_held_7 : decode cX8_held 7 = .ok (.bipush 60, 2) := by decide +kernel
theorem dX8_held_9 : decode cX8_held 9 = .ok (.invokevirtual 129, 3) := by decide +kernel
theorem dX8_held_12 : decode cX8_held 12 = .ok (.ifCond .eq 18, 3) := by decide +kernel
theorem dX8_held_15 : decode cX8_held 15 = .ok (.iload_n 2, 1) := by decide +kernel
theorem dX8_held_16 : decode cX8_held 16 = .ok (.aload_n 0, 1) := by decide +kernel
theorem dX8_held_17 : decode cX8_held 17 = .ok (.iload_n 1, 1) := by decide +kernel
theorem dX8_held_18 : decode cX8_held 18 = .ok (.invokevirtual 156, 3) := by decide +kernel
theorem dX8_held_21 : decode cX8_held 21 = .ok (.if_icmp .ge 7, 3) := by decide +kernel
theorem dX8_held_24 : decode cX8_held 24 = .ok (.iconst 1, 1) := by decide +kernel
theorem dX8_held_25 : decode cX8_held 25 = .ok (.goto 4, 3) := by decide +kernel
theorem dX8_held_28 : decode cX8_held 28 = .ok (.iconst 0, 1) := by decide +kernel
theorem dX8_held_29 : decode cX8_held 29 = .ok (.ireturn, 1) := by decide +kernel
theorem dX8_held_30 : decode cX8_held 30 = .ok (.aload_n 0, 1) := by decide +kernel
theorem dX8_held_31 : decode cX8_held 31 = .ok (.bipush 62, 2) := by decide +kernel
theorem dX8_held_33 : decode cX8_held 33 = .ok (.invokevirtual 129, 3) := by decide +kernel
theorem dX8_held_36 : decode cX8_held 36 = .ok (.ifCond .eq 18, 3) := by decide +kernel
theorem dX8_held_39 : decode cX8_held 39 = .ok (.iload_n 2, 1) := by decide +kernel
theorem dX8_held_40 : decode cX8_held 40 = .ok (.aload_n 0, 1) := by decide +kernel
theorem dX8_held_41 : decode cX8_held 41 = .ok (.iload_n 1, 1) := by decide +kernel
theorem dX8_held_42 : decode cX8_held 42 = .ok (.invokevirtual 156, 3) := by decide +kernel
theorem dX8_held_45 : decode cX8_held 45 = .ok (.if_icmp .le 7, 3) := by decide +kernel
theorem dX8_held_48 : decode cX8_held 48 = .ok (.iconst 1, 1) := by decide +kernel
theorem dX8_held_49 : decode cX8_held 49 = .ok (.goto 4, 3) := by decide +kernel
theorem dX8_held_52 : decode cX8_held 52 = .ok (.iconst 0, 1) := by decide +kernel
theorem dX8_held_53 : decode cX8_held 53 = .ok (.ireturn, 1) := by decide +kernel
theorem dX8_held_54 : decode cX8_held 54 = .ok (.aload_n 0, 1) := by decide +kernel
theorem dX8_held_55 : decode cX8_held 55 = .ok (.bipush 61, 2) := by decide +kernel
theorem dX8_held_57 : decode cX8_held 57 = .ok (.invokevirtual 129, 3) := by decide +kernel
theorem dX8_held_60 : decode cX8_held 60 = .ok (.ifCond .eq 18, 3) := by decide +kernel
theorem dX8_held_63 : decode cX8_held 63 = .ok (.iload_n 2, 1) := by decide +kernel
theorem dX8_held_64 : decode cX8_held 64 = .ok (.aload_n 0, 1) := by decide +kernel
theorem dX8_held_65 : decode cX8_held 65 = .ok (.iload_n 1, 1) := by decide +kernel
theorem dX8_held_66 : decode cX8_held 66 = .ok (.invokevirtual 156, 3) := by decide +kernel
theorem dX8_held_69 : decode cX8_held 69 = .ok (.if_icmp .ne 7, 3) := by decide +kernel
theorem dX8_held_72 : decode cX8_held 72 = .ok (.iconst 1, 1) := by decide +kernel
theorem dX8_held_73 : decode cX8_held 73 = .ok (.goto 4, 3) := by decide +kernel
theorem dX8_held_76 : decode cX8_held 76 = .ok (.iconst 0, 1) := by decide +kernel
theorem dX8_held_77 : decode cX8_held 77 = .ok (.ireturn, 1) := by decide +kernel
theorem dX8_held_78 : decode cX8_held 78 = .ok (.iload_n 2, 1) := by decide +kernel
theorem dX8_held_79 : decode cX8_held 79 = .ok (.ireturn, 1) := by decide +kernel
def p_X8_held (F : Nat) (T : Int32 → Int32 → Int32 → Int32 → Int32 → Int32 → Nat → (Nat → Int32) → (Nat → Int32) → (Int32 → (Int32 × Int32) → Prop) → Prop) (p1 : Int32) (x_length : Int32) (x_top : Int32) (x_at : Int32) (x_wrong : Int32) (x_isAsked : Int32) (n_read : Nat) (f_read : Nat → Int32) (f_asked : Nat → Int32) (Post : Int32 → (Int32 × Int32) → Prop) : Prop := (p_X8_sum F T p1 x_length x_top x_at x_wrong x_isAsked n_read f_read f_asked (fun (r_2 : Int32) (u_2 : (Int32 × Int32)) => (p_X8_passes F (60 : Int32) x_length x_top u_2.1 u_2.2 n_read f_read (fun (r_9 : Int32) (u_9 : Int32) => ((r_9 = 0 → (p_X8_passes F (62 : Int32) x_length x_top u_9 u_2.2 n_read f_read (fun (r_33 : Int32) (u_33 : Int32) => ((r_33 = 0 → (p_X8_passes F (61 : Int32) x_length x_top u_33 u_2.2 n_read f_read (fun (r_57 : Int32) (u_57 : Int32) => ((r_57 = 0 → (Post r_2 (u_57, u_2.2))) ∧ (¬ r_57 = 0 → (p_X8_sum F T p1 x_length x_top u_57 u_2.2 x_isAsked n_read f_read f_asked (fun (r_66 : Int32) (u_66 : (Int32 × Int32)) => ((¬ r_2 = r_66 → (Post (0 : Int32) (u_66.1, u_66.2))) ∧ (r_2 = r_66 → (Post (1 : Int32) (u_66.1, u_66.2))))))))))) ∧ (¬ r_33 = 0 → (p_X8_sum F T p1 x_length x_top u_33 u_2.2 x_isAsked n_read f_read f_asked (fun (r_42 : Int32) (u_42 : (Int32 × Int32)) => ((r_2 ≤ r_42 → (Post (0 : Int32) (u_42.1, u_42.2))) ∧ (¬ r_2 ≤ r_42 → (Post (1 : Int32) (u_42.1, u_42.2))))))))))) ∧ (¬ r_9 = 0 → (p_X8_sum F T p1 x_length x_top u_9 u_2.2 x_isAsked n_read f_read f_asked (fun (r_18 : Int32) (u_18 : (Int32 × Int32)) => ((r_18 ≤ r_2 → (Post (0 : Int32) (u_18.1, u_18.2))) ∧ (¬ r_18 ≤ r_2 → (Post (1 : Int32) (u_18.1, u_18.2))))))))))))
set_option maxHeartbeats 4000000 in
set_option maxRecDepth 100000 in
theorem c_X8_held (l : Launch) (D : va_G) (cT : Nat → ClassId) (F : Nat) (T : Int32 → Int32 → Int32 → Int32 → Int32 → Int32 → Nat → (Nat → Int32) → (Nat → Int32) → (Int32 → (Int32 × Int32) → Prop) → Prop) (fT lT : Nat) (hT : ∀ (h : Nat) (p1 : Int32) (w_now : Value) (x_arches : Int32) (x_cats : Int32) (w_text : Value) (x_typed : Int32) (w_row : Value) (x_rowMany : Int32) (x_thrown : Int32) (q_read : Nat) (x_length : Int32) (x_top : Int32) (x_at : Int32) (x_wrong : Int32) (w_told : Value) (w_rule : Value) (w_otherRule : Value) (x_ruleSize : Int32) (x_isAsked : Int32) (q_asked : Nat) (w_undos : Value) (x_undoMany : Int32) (w_aside : Value) (w_then : Value) (w_hold : Value) (x_dropped : Int32) (w_acts : Value) (w_guarded : Value) (w_train : Value) (x_trolleyEnd : Int32) (w_feltOf : Value) (w_feltBy : Value) (x_feltMany : Int32) (w_many : Value) (w_heardOf : Value) (w_heardBy : Value) (x_heardMany : Int32) (w_worth : Value) (x_drawn : Int32) (x_came : Int32) (w_kept : Value) (w_isKept : Value) (w_keptCame : Value) (n_read : Nat) (f_read : Nat → Int32) (f_asked : Nat → Int32) (Post : Int32 → (Int32 × Int32) → Prop) (hg : T p1 x_length x_top x_at x_wrong x_isAsked n_read f_read f_asked Post), MWi l D cT yX8_thing cX8_thing 4 (some .int) fT lT 0 0 [.ref h, .int p1] [(h, oX8 w_now (.int x_arches) (.int x_cats) w_text (.int x_typed) w_row (.int x_rowMany) (.int x_thrown) (.ref q_read) (.int x_length) (.int x_top) (.int x_at) (.int x_wrong) w_told w_rule w_otherRule (.int x_ruleSize) (.int x_isAsked) (.ref q_asked) w_undos (.int x_undoMany) w_aside w_then w_hold (.int x_dropped) w_acts w_guarded w_train (.int x_trolleyEnd) w_feltOf w_feltBy (.int x_feltMany) w_many w_heardOf w_heardBy (.int x_heardMany) w_worth (.int x_drawn) (.int x_came) w_kept w_isKept w_keptCame), (q_read, aB cT n_read f_read), (q_asked, aI cT 7 f_asked)] Post (fun (u : Int32 × Int32) => [(h, oX8 w_now (.int x_arches) (.int x_cats) w_text (.int x_typed) w_row (.int x_rowMany) (.int x_thrown) (.ref q_read) (.int x_length) (.int x_top) (.int u.1) (.int u.2) w_told w_rule w_otherRule (.int x_ruleSize) (.int x_isAsked) (.ref q_asked) w_undos (.int x_undoMany) w_aside w_then w_hold (.int x_dropped) w_acts w_guarded w_train (.int x_trolleyEnd) w_feltOf w_feltBy (.int x_feltMany) w_many w_heardOf w_heardBy (.int x_heardMany) w_worth (.int x_drawn) (.int x_came) w_kept w_isKept w_keptCame), (q_read, aB cT n_read f_read), (q_asked, aI cT 7 f_asked)])) (h : Nat) (p1 : Int32) (w_now : Value) (x_arches : Int32) (x_cats : Int32) (w_text : Value) (x_typed : Int32) (w_row : Value) (x_rowMany : Int32) (x_thrown : Int32) (q_read : Nat) (x_length : Int32) (x_top : Int32) (x_at : Int32) (x_wrong : Int32) (w_told : Value) (w_rule : Value) (w_otherRule : Value) (x_ruleSize : Int32) (x_isAsked : Int32) (q_asked : Nat) (w_undos : Value) (x_undoMany : Int32) (w_aside : Value) (w_then : Value) (w_hold : Value) (x_dropped : Int32) (w_acts : Value) (w_guarded : Value) (w_train : Value) (x_trolleyEnd : Int32) (w_feltOf : Value) (w_feltBy : Value) (x_feltMany : Int32) (w_many : Value) (w_heardOf : Value) (w_heardBy : Value) (x_heardMany : Int32) (w_worth : Value) (x_drawn : Int32) (x_came : Int32) (w_kept : Value) (w_isKept : Value) (w_keptCame : Value) (n_read : Nat) (f_read : Nat → Int32) (f_asked : Nat → Int32) (Post : Int32 → (Int32 × Int32) → Prop) (hg : p_X8_held F T p1 x_length x_top x_at x_wrong x_isAsked n_read f_read f_asked Post) : MWi l D cT yX8_held cX8_held 3 (some .int) (fT + 6) (lT + 180) 0 0 [.ref h, .int p1] [(h, oX8 w_now (.int x_arches) (.int x_cats) w_text (.int x_typed) w_row (.int x_rowMany) (.int x_thrown) (.ref q_read) (.int x_length) (.int x_top) (.int x_at) (.int x_wrong) w_told w_rule w_otherRule (.int x_ruleSize) (.int x_isAsked) (.ref q_asked) w_undos (.int x_undoMany) w_aside w_then w_hold (.int x_dropped) w_acts w_guarded w_train (.int x_trolleyEnd) w_feltOf w_feltBy (.int x_feltMany) w_many w_heardOf w_heardBy (.int x_heardMany) w_worth (.int x_drawn) (.int x_came) w_kept w_isKept w_keptCame), (q_read, aB cT n_read f_read), (q_asked, aI cT 7 f_asked)] Post (fun (u : (Int32 × Int32)) => [(h, oX8 w_now (.int x_arches) (.int x_cats) w_text (.int x_typed) w_row (.int x_rowMany) (.int x_thrown) (.ref q_read) (.int x_length) (.int x_top) (.int u.1) (.int u.2) w_told w_rule w_otherRule (.int x_ruleSize) (.int x_isAsked) (.ref q_asked) w_undos (.int x_undoMany) w_aside w_then w_hold (.int x_dropped) w_acts w_guarded w_train (.int x_trolleyEnd) w_feltOf w_feltBy (.int x_feltMany) w_many w_heardOf w_heardBy (.int x_heardMany) w_worth (.int x_drawn) (.int x_came) w_kept w_isKept w_keptCame), (q_read, aB cT n_read f_read), (q_asked, aI cT 7 f_asked)]) := by
  refine MWi.of (by decide) (Nat.le_of_ble_eq_true rfl) ?_
  intro p e s m below meth c A hA C0 hnm hr hP hD ls hl
  have hl : lv_has ls 3 [(0, .ref h), (1, .int p1)] := hl
  have hx := C0.x
  have hb := C0.b
  have hS : va_S A s.heap s.heap [] := va_S.rf
  have hP : va_P D cls9 [(h, oX8 w_now (.int x_arches) (.int x_cats) w_text (.int x_typed) w_row (.int x_rowMany) (.int x_thrown) (.ref q_read) (.int x_length) (.int x_top) (.int x_at) (.int x_wrong) w_told w_rule w_otherRule (.int x_ruleSize) (.int x_isAsked) (.ref q_asked) w_undos (.int x_undoMany) w_aside w_then w_hold (.int x_dropped) w_acts w_guarded w_train (.int x_trolleyEnd) w_feltOf w_feltBy (.int x_feltMany) w_many w_heardOf w_heardBy (.int x_heardMany) w_worth (.int x_drawn) (.int x_came) w_kept w_isKept w_keptCame), (q_read, aB cT n_read f_read), (q_asked, aI cT 7 f_asked)] s.heap := hP
  have hD : va_D A [(h, oX8 w_now (.int x_arches) (.int x_cats) w_text (.int x_typed) w_row (.int x_rowMany) (.int x_thrown) (.ref q_read) (.int x_length) (.int x_top) (.int x_at) (.int x_wrong) w_told w_rule w_otherRule (.int x_ruleSize) (.int x_isAsked) (.ref q_asked) w_undos (.int x_undoMany) w_aside w_then w_hold (.int x_dropped) w_acts w_guarded w_train (.int x_trolleyEnd) w_feltOf w_feltBy (.int x_feltMany) w_many w_heardOf w_heardBy (.int x_heardMany) w_worth (.int x_drawn) (.int x_came) w_kept w_isKept w_keptCame), (q_read, aB cT n_read f_read), (q_asked, aI cT 7 f_asked)] := hD
  unfold p_X8_held at hg
  refine lv_aload_n hx hb dX8_held_0 rfl (lv_at hl 0 rfl) ?_
  refine lv_iload_n hx hb dX8_held_1 rfl (lv_at hl 1 rfl) ?_
  refine k_Vi (rest := []) (wr := []) (w2 := fun u_2 => [(h, oX8 w_now (.int x_arches) (.int x_cats) w_text (.int x_typed) w_row (.int x_rowMany) (.int x_thrown) (.ref q_read) (.int x_length) (.int x_top) (.int u_2.1) (.int u_2.2) w_told w_rule w_otherRule (.int x_ruleSize) (.int x_isAsked) (.ref q_asked) w_undos (.int x_undoMany) w_aside w_then w_hold (.int x_dropped) w_acts w_guarded w_train (.int x_trolleyEnd) w_feltOf w_feltBy (.int x_feltMany) w_many w_heardOf w_heardBy (.int x_heardMany) w_worth (.int x_drawn) (.int x_came) w_kept w_isKept w_keptCame), (q_read, aB cT n_read f_read), (q_asked, aI cT 7 f_asked)]) C0 lk_X8_156 (c_X8_sum l D cT F T fT lT hT h p1 w_now x_arches x_cats w_text x_typed w_row x_rowMany x_thrown q_read x_length x_top x_at x_wrong w_told w_rule w_otherRule x_ruleSize x_isAsked q_asked w_undos x_undoMany w_aside w_then w_hold x_dropped w_acts w_guarded w_train x_trolleyEnd w_feltOf w_feltBy x_feltMany w_many w_heardOf w_heardBy x_heardMany w_worth x_drawn x_came w_kept w_isKept w_keptCame n_read f_read f_asked _ hg) hP hD hS hA [0, 1, 2] [] (by decide +kernel) rfl rfl (fun _ => rfl) rfl rfl ⟨rm_f (by omega), rm_l (by omega)⟩ rfl hl.1 rfl (Nat.le_of_ble_eq_true rfl) dX8_held_2 ⟨Nat.le_of_ble_eq_true rfl, Nat.le_of_ble_eq_true rfl⟩ ?_
  intro r_2 u_2 H locs hg hP hD hS
  refine lv_istore_n (lv' := [(2, .int r_2), (0, .ref h), (1, .int p1)]) hx hb dX8_held_5 rfl hl (by decide) rfl (fun ls hl => ?_)
  refine lv_aload_n hx hb dX8_held_6 rfl (lv_at hl 1 rfl) ?_
  refine lv_bipush (v := (60 : Int32)) hx hb dX8_held_7 (by decide) ?_
  refine k_Vi (rest := []) (wr := [(q_asked, aI cT 7 f_asked)]) (w2 := fun u_9 => [(q_asked, aI cT 7 f_asked), (h, oX8 w_now (.int x_arches) (.int x_cats) w_text (.int x_typed) w_row (.int x_rowMany) (.int x_thrown) (.ref q_read) (.int x_length) (.int x_top) (.int u_9) (.int u_2.2) w_told w_rule w_otherRule (.int x_ruleSize) (.int x_isAsked) (.ref q_asked) w_undos (.int x_undoMany) w_aside w_then w_hold (.int x_dropped) w_acts w_guarded w_train (.int x_trolleyEnd) w_feltOf w_feltBy (.int x_feltMany) w_many w_heardOf w_heardBy (.int x_heardMany) w_worth (.int x_drawn) (.int x_came) w_kept w_isKept w_keptCame), (q_read, aB cT n_read f_read)]) C0 lk_X8_129 (c_X8_passes l D cT F h (60 : Int32) w_now x_arches x_cats w_text x_typed w_row x_rowMany x_thrown q_read x_length x_top u_2.1 u_2.2 w_told w_rule w_otherRule x_ruleSize x_isAsked (.ref q_asked) w_undos x_undoMany w_aside w_then w_hold x_dropped w_acts w_guarded w_train x_trolleyEnd w_feltOf w_feltBy x_feltMany w_many w_heardOf w_heardBy x_heardMany w_worth x_drawn x_came w_kept w_isKept w_keptCame n_read f_read _ hg) hP hD hS hA [0, 1] [2] (by decide +kernel) rfl rfl (fun _ => rfl) rfl rfl ⟨rm_f (by omega), rm_l (by omega)⟩ rfl hl.1 rfl (Nat.le_of_ble_eq_true rfl) dX8_held_9 ⟨Nat.le_of_ble_eq_true rfl, Nat.le_of_ble_eq_true rfl⟩ ?_
  intro r_9 u_9 H locs hg hP hD hS
  refine lv_if_eq (tgt := 30) hx hb dX8_held_12 (by decide) (fun c_12 => ?_) (fun c_12 => ?_)
  · have hg := hg.1 c_12
    refine lv_aload_n hx hb dX8_held_30 rfl (lv_at hl 1 rfl) ?_
    refine lv_bipush (v := (62 : Int32)) hx hb dX8_held_31 (by decide) ?_
    refine k_Vi (rest := []) (wr := [(q_asked, aI cT 7 f_asked)]) (w2 := fun u_33 => [(q_asked, aI cT 7 f_asked), (h, oX8 w_now (.int x_arches) (.int x_cats) w_text (.int x_typed) w_row (.int x_rowMany) (.int x_thrown) (.ref q_read) (.int x_length) (.int x_top) (.int u_33) (.int u_2.2) w_told w_rule w_otherRule (.int x_ruleSize) (.int x_isAsked) (.ref q_asked) w_undos (.int x_undoMany) w_aside w_then w_hold (.int x_dropped) w_acts w_guarded w_train (.int x_trolleyEnd) w_feltOf w_feltBy (.int x_feltMany) w_many w_heardOf w_heardBy (.int x_heardMany) w_worth (.int x_drawn) (.int x_came) w_kept w_isKept w_keptCame), (q_read, aB cT n_read f_read)]) C0 lk_X8_129 (c_X8_passes l D cT F h (62 : Int32) w_now x_arches x_cats w_text x_typed w_row x_rowMany x_thrown q_read x_length x_top u_9 u_2.2 w_told w_rule w_otherRule x_ruleSize x_isAsked (.ref q_asked) w_undos x_undoMany w_aside w_then w_hold x_dropped w_acts w_guarded w_train x_trolleyEnd w_feltOf w_feltBy x_feltMany w_many w_heardOf w_heardBy x_heardMany w_worth x_drawn x_came w_kept w_isKept w_keptCame n_read f_read _ hg) hP hD hS hA [1, 2] [0] (by decide +kernel) rfl rfl (fun _ => rfl) rfl rfl ⟨rm_f (by omega), rm_l (by omega)⟩ rfl hl.1 rfl (Nat.le_of_ble_eq_true rfl) dX8_held_33 ⟨Nat.le_of_ble_eq_true rfl, Nat.le_of_ble_eq_true rfl⟩ ?_
    intro r_33 u_33 H locs hg hP hD hS
    refine lv_if_eq (tgt := 54) hx hb dX8_held_36 (by decide) (fun c_36 => ?_) (fun c_36 => ?_)
    · have hg := hg.1 c_36
      refine lv_aload_n hx hb dX8_held_54 rfl (lv_at hl 1 rfl) ?_
      refine lv_bipush (v := (61 : Int32)) hx hb dX8_held_55 (by decide) ?_
      refine k_Vi (rest := []) (wr := [(q_asked, aI cT 7 f_asked)]) (w2 := fun u_57 => [(q_asked, aI cT 7 f_asked), (h, oX8 w_now (.int x_arches) (.int x_cats) w_text (.int x_typed) w_row (.int x_rowMany) (.int x_thrown) (.ref q_read) (.int x_length) (.int x_top) (.int u_57) (.int u_2.2) w_told w_rule w_otherRule (.int x_ruleSize) (.int x_isAsked) (.ref q_asked) w_undos (.int x_undoMany) w_aside w_then w_hold (.int x_dropped) w_acts w_guarded w_train (.int x_trolleyEnd) w_feltOf w_feltBy (.int x_feltMany) w_many w_heardOf w_heardBy (.int x_heardMany) w_worth (.int x_drawn) (.int x_came) w_kept w_isKept w_keptCame), (q_read, aB cT n_read f_read)]) C0 lk_X8_129 (c_X8_passes l D cT F h (61 : Int32) w_now x_arches x_cats w_text x_typed w_row x_rowMany x_thrown q_read x_length x_top u_33 u_2.2 w_told w_rule w_otherRule x_ruleSize x_isAsked (.ref q_asked) w_undos x_undoMany w_aside w_then w_hold x_dropped w_acts w_guarded w_train x_trolleyEnd w_feltOf w_feltBy x_feltMany w_many w_heardOf w_heardBy x_heardMany w_worth x_drawn x_came w_kept w_isKept w_keptCame n_read f_read _ hg) hP hD hS hA [1, 2] [0] (by decide +kernel) rfl rfl (fun _ => rfl) rfl rfl ⟨rm_f (by omega), rm_l (by omega)⟩ rfl hl.1 rfl (Nat.le_of_ble_eq_true rfl) dX8_held_57 ⟨Nat.le_of_ble_eq_true rfl, Nat.le_of_ble_eq_true rfl⟩ ?_
      intro r_57 u_57 H locs hg hP hD hS
      refine lv_if_eq (tgt := 78) hx hb dX8_held_60 (by decide) (fun c_60 => ?_) (fun c_60 => ?_)
      · have hg := hg.1 c_60
        refine lv_iload_n hx hb dX8_held_78 rfl (lv_at hl 0 rfl) ?_
        exact k_iret C0 hr (u_57, u_2.2) hg (subP hP [1, 2, 0] rfl) (hD.sub [1, 2, 0] (nd2_ok _ (by decide +kernel)) rfl) hS dX8_held_79
      have hg := hg.2 c_60
      refine lv_iload_n hx hb dX8_held_63 rfl (lv_at hl 0 rfl) ?_
      refine lv_aload_n hx hb dX8_held_64 rfl (lv_at hl 1 rfl) ?_
      refine lv_iload_n hx hb dX8_held_65 rfl (lv_at hl 2 rfl) ?_
      refine k_Vi (rest := [.int r_2]) (wr := []) (w2 := fun u_66 => [(h, oX8 w_now (.int x_arches) (.int x_cats) w_text (.int x_typed) w_row (.int x_rowMany) (.int x_thrown) (.ref q_read) (.int x_length) (.int x_top) (.int u_66.1) (.int u_66.2) w_told w_rule w_otherRule (.int x_ruleSize) (.int x_isAsked) (.ref q_asked) w_undos (.int x_undoMany) w_aside w_then w_hold (.int x_dropped) w_acts w_guarded w_train (.int x_trolleyEnd) w_feltOf w_feltBy (.int x_feltMany) w_many w_heardOf w_heardBy (.int x_heardMany) w_worth (.int x_drawn) (.int x_came) w_kept w_isKept w_keptCame), (q_read, aB cT n_read f_read), (q_asked, aI cT 7 f_asked)]) C0 lk_X8_156 (c_X8_sum l D cT F T fT lT hT h p1 w_now x_arches x_cats w_text x_typed w_row x_rowMany x_thrown q_read x_length x_top u_57 u_2.2 w_told w_rule w_otherRule x_ruleSize x_isAsked q_asked w_undos x_undoMany w_aside w_then w_hold x_dropped w_acts w_guarded w_train x_trolleyEnd w_feltOf w_feltBy x_feltMany w_many w_heardOf w_heardBy x_heardMany w_worth x_drawn x_came w_kept w_isKept w_keptCame n_read f_read f_asked _ hg) hP hD hS hA [1, 2, 0] [] (by decide +kernel) rfl rfl (fun _ => rfl) rfl rfl ⟨rm_f (by omega), rm_l (by omega)⟩ rfl hl.1 rfl (Nat.le_of_ble_eq_true rfl) dX8_held_66 ⟨Nat.le_of_ble_eq_true rfl, Nat.le_of_ble_eq_true rfl⟩ ?_
      intro r_66 u_66 H locs hg hP hD hS
      refine lv_icmp_ne (tgt := 76) hx hb dX8_held_69 (by decide) (fun c_69 => ?_) (fun c_69 => ?_)
      · have hg := hg.1 c_69
        refine lv_iconst (v := (0 : Int32)) hx hb dX8_held_76 (by decide) ?_
        exact k_iret C0 hr (u_66.1, u_66.2) hg hP hD hS dX8_held_77
      have hg := hg.2 c_69
      refine lv_iconst (v := (1 : Int32)) hx hb dX8_held_72 (by decide) ?_
      refine lv_goto (tgt := 77) hx hb dX8_held_73 (by decide) ?_
      exact k_iret C0 hr (u_66.1, u_66.2) hg hP hD hS dX8_held_77
    have hg := hg.2 c_36
    refine lv_iload_n hx hb dX8_held_39 rfl (lv_at hl 0 rfl) ?_
    refine lv_aload_n hx hb dX8_held_40 rfl (lv_at hl 1 rfl) ?_
    refine lv_iload_n hx hb dX8_held_41 rfl (lv_at hl 2 rfl) ?_
    refine k_Vi (rest := [.int r_2]) (wr := []) (w2 := fun u_42 => [(h, oX8 w_now (.int x_arches) (.int x_cats) w_text (.int x_typed) w_row (.int x_rowMany) (.int x_thrown) (.ref q_read) (.int x_length) (.int x_top) (.int u_42.1) (.int u_42.2) w_told w_rule w_otherRule (.int x_ruleSize) (.int x_isAsked) (.ref q_asked) w_undos (.int x_undoMany) w_aside w_then w_hold (.int x_dropped) w_acts w_guarded w_train (.int x_trolleyEnd) w_feltOf w_feltBy (.int x_feltMany) w_many w_heardOf w_heardBy (.int x_heardMany) w_worth (.int x_drawn) (.int x_came) w_kept w_isKept w_keptCame), (q_read, aB cT n_read f_read), (q_asked, aI cT 7 f_asked)]) C0 lk_X8_156 (c_X8_sum l D cT F T fT lT hT h p1 w_now x_arches x_cats w_text x_typed w_row x_rowMany x_thrown q_read x_length x_top u_33 u_2.2 w_told w_rule w_otherRule x_ruleSize x_isAsked q_asked w_undos x_undoMany w_aside w_then w_hold x_dropped w_acts w_guarded w_train x_trolleyEnd w_feltOf w_feltBy x_feltMany w_many w_heardOf w_heardBy x_heardMany w_worth x_drawn x_came w_kept w_isKept w_keptCame n_read f_read f_asked _ hg) hP hD hS hA [1, 2, 0] [] (by decide +kernel) rfl rfl (fun _ => rfl) rfl rfl ⟨rm_f (by omega), rm_l (by omega)⟩ rfl hl.1 rfl (Nat.le_of_ble_eq_true rfl) dX8_held_42 ⟨Nat.le_of_ble_eq_true rfl, Nat.le_of_ble_eq_true rfl⟩ ?_
    intro r_42 u_42 H locs hg hP hD hS
    refine lv_icmp_le (tgt := 52) hx hb dX8_held_45 (by decide) (fun c_45 => ?_) (fun c_45 => ?_)
    · have hg := hg.1 c_45
      refine lv_iconst (v := (0 : Int32)) hx hb dX8_held_52 (by decide) ?_
      exact k_iret C0 hr (u_42.1, u_42.2) hg hP hD hS dX8_held_53
    have hg := hg.2 c_45
    refine lv_iconst (v := (1 : Int32)) hx hb dX8_held_48 (by decide) ?_
    refine lv_goto (tgt := 53) hx hb dX8_held_49 (by decide) ?_
    exact k_iret C0 hr (u_42.1, u_42.2) hg hP hD hS dX8_held_53
  have hg := hg.2 c_12
  refine lv_iload_n hx hb dX8_held_15 rfl (lv_at hl 0 rfl) ?_
  refine lv_aload_n hx hb dX8_held_16 rfl (lv_at hl 1 rfl) ?_
  refine lv_iload_n hx hb dX8_held_17 rfl (lv_at hl 2 rfl) ?_
  refine k_Vi (rest := [.int r_2]) (wr := []) (w2 := fun u_18 => [(h, oX8 w_now (.int x_arches) (.int x_cats) w_text (.int x_typed) w_row (.int x_rowMany) (.int x_thrown) (.ref q_read) (.int x_length) (.int x_top) (.int u_18.1) (.int u_18.2) w_told w_rule w_otherRule (.int x_ruleSize) (.int x_isAsked) (.ref q_asked) w_undos (.int x_undoMany) w_aside w_then w_hold (.int x_dropped) w_acts w_guarded w_train (.int x_trolleyEnd) w_feltOf w_feltBy (.int x_feltMany) w_many w_heardOf w_heardBy (.int x_heardMany) w_worth (.int x_drawn) (.int x_came) w_kept w_isKept w_keptCame), (q_read, aB cT n_read f_read), (q_asked, aI cT 7 f_asked)]) C0 lk_X8_156 (c_X8_sum l D cT F T fT lT hT h p1 w_now x_arches x_cats w_text x_typed w_row x_rowMany x_thrown q_read x_length x_top u_9 u_2.2 w_told w_rule w_otherRule x_ruleSize x_isAsked q_asked w_undos x_undoMany w_aside w_then w_hold x_dropped w_acts w_guarded w_train x_trolleyEnd w_feltOf w_feltBy x_feltMany w_many w_heardOf w_heardBy x_heardMany w_worth x_drawn x_came w_kept w_isKept w_keptCame n_read f_read f_asked _ hg) hP hD hS hA [1, 2, 0] [] (by decide +kernel) rfl rfl (fun _ => rfl) rfl rfl ⟨rm_f (by omega), rm_l (by omega)⟩ rfl hl.1 rfl (Nat.le_of_ble_eq_true rfl) dX8_held_18 ⟨Nat.le_of_ble_eq_true rfl, Nat.le_of_ble_eq_true rfl⟩ ?_
  intro r_18 u_18 H locs hg hP hD hS
  refine lv_icmp_ge (tgt := 28) hx hb dX8_held_21 (by decide) (fun c_21 => ?_) (fun c_21 => ?_)
  · have hg := hg.1 c_21
    refine lv_iconst (v := (0 : Int32)) hx hb dX8_held_28 (by decide) ?_
    exact k_iret C0 hr (u_18.1, u_18.2) hg hP hD hS dX8_held_29
  have hg := hg.2 c_21
  refine lv_iconst (v := (1 : Int32)) hx hb dX8_held_24 (by decide) ?_
  refine lv_goto (tgt := 29) hx hb dX8_held_25 (by decide) ?_
  exact k_iret C0 hr (u_18.1, u_18.2) hg hP hD hS dX8_held_29
theorem dX8_thing_0 : decode cX8_thing 0 = .ok (.aload_n 0, 1) := by decide +kernel
theorem dX8_thing_1 : decode cX8_thing 1 = .ok (.bipush 45, 2) := by decide +kernel
theorem dX8_thing_3 : decode cX8_thing 3 = .ok (.invokevirtual 129, 3) := by decide +kernel
theorem dX8_thing_6 : decode cX8_thing 6 = .ok (.ifCond .eq 10, 3) := by decide +kernel
theorem dX8_thing_9 : decode cX8_thing 9 = .ok (.aload_n 0, 1) := by decide +kernel
theorem dX8_thing_10 : decode cX8_thing 10 = .ok (.iload_n 1, 1) := by decide +kernel
theorem dX8_thing_11 : decode cX8_thing 11 = .ok (.invokevirtual 163, 3) := by decide +kernel
theorem dX8_thing_14 : decode cX8_thing 14 = .ok (.ineg, 1) := by decide +kernel
theorem dX8_thing_15 : decode cX8_thing 15 = .ok (.ireturn, 1) := by decide +kernel
theorem dX8_thing_16 : decode cX8_thing 16 = .ok (.aload_n 0, 1) := by decide +kernel
theorem dX8_thing_17 : decode cX8_thing 17 = .ok (.invokevirtual 121, 3) := by decide +kernel
theorem dX8_thing_20 : decode cX8_thing 20 = .ok (.ifCond .ne 5, 3) := by decide +kernel
theorem dX8_thing_23 : decode cX8_thing 23 = .ok (.iconst 0, 1) := by decide +kernel
theorem dX8_thing_24 : decode cX8_thing 24 = .ok (.ireturn, 1) := by decide +kernel
theorem dX8_thing_25 : decode cX8_thing 25 = .ok (.aload_n 0, 1) := by decide +kernel
theorem dX8_thing_26 : decode cX8_thing 26 = .ok (.invokevirtual 125, 3) := by decide +kernel
theorem dX8_thing_29 : decode cX8_thing 29 = .ok (.istore_n 2, 1) := by decide +kernel
theorem dX8_thing_30 : decode cX8_thing 30 = .ok (.iload_n 2, 1) := by decide +kernel
theorem dX8_thing_31 : decode cX8_thing 31 = .ok (.bipush 40, 2) := by decide +kernel
theorem dX8_thing_33 : decode cX8_thing 33 = .ok (.if_icmp .ne 34, 3) := by decide +kernel
theorem dX8_thing_36 : decode cX8_thing 36 = .ok (.iload_n 1, 1) := by decide +kernel
theorem dX8_thing_37 : decode cX8_thing 37 = .ok (.iconst 4, 1) := by decide +kernel
theorem dX8_thing_38 : decode cX8_thing 38 = .ok (.if_icmp .ge 29, 3) := by decide +kernel
theorem dX8_thing_41 : decode cX8_thing 41 = .ok (.aload_n 0, 1) := by decide +kernel
theorem dX8_thing_42 : decode cX8_thing 42 = .ok (.dup, 1) := by decide +kernel
theorem dX8_thing_43 : decode cX8_thing 43 = .ok (.getfield 111, 3) := by decide +kernel
theorem dX8_thing_46 : decode cX8_thing 46 = .ok (.iconst 1, 1) := by decide +kernel
theorem dX8_thing_47 : decode cX8_thing 47 = .ok (.iadd, 1) := by decide +kernel
theorem dX8_thing_48 : decode cX8_thing 48 = .ok (.putfield 111, 3) := by decide +kernel
theorem dX8_thing_51 : decode cX8_thing 51 = .ok (.aload_n 0, 1) := by decide +kernel
theorem dX8_thing_52 : decode cX8_thing 52 = .ok (.iload_n 1, 1) := by decide +kernel
theorem dX8_thing_53 : decode cX8_thing 53 = .ok (.iconst 1, 1) := by decide +kernel
theorem dX8_thing_54 : decode cX8_thing 54 = .ok (.iadd, 1) := by decide +kernel
theorem dX8_thing_55 : decode cX8_thing 55 = .ok (.invokevirtual 166, 3) := by decide +kernel
theorem dX8_thing_58 : decode cX8_thing 58 = .ok (.istore_n 3, 1) := by decide +kernel
theorem dX8_thing_59 : decode cX8_thing 59 = .ok (.aload_n 0, 1) := by decide +kernel
theorem dX8_thing_60 : decode cX8_thing 60 = .ok (.bipush 41, 2) := by decide +kernel
theorem dX8_thing_62 : decode cX8_thing 62 = .ok (.invokevirtual 169, 3) := by decide +kernel
theorem dX8_thing_65 : decode cX8_thing 65 = .ok (.iload_n 3, 1) := by decide +kernel
theorem dX8_thing_66 : decode cX8_thing 66 = .ok (.ireturn, 1) := by decide +kernel
theorem dX8_thing_67 : decode cX8_thing 67 = .ok (.iload_n 2, 1) := by decide +kernel
theorem dX8_thing_68 : decode cX8_thing 68 = .ok (.bipush 48, 2) := by decide +kernel
theorem dX8_thing_70 : decode cX8_thing 70 = .ok (.bipush 57, 2) := by decide +kernel
theorem dX8_thing_72 : decode cX8_thing 72 = .ok (.invokestatic 92, 3) := by decide +kernel
theorem dX8_thing_75 : decode cX8_thing 75 = .ok (.ifCond .eq 9, 3) := by decide +kernel
theorem dX8_thing_78 : decode cX8_thing 78 = .ok (.aload_n 0, 1) := by decide +kernel
theorem dX8_thing_79 : decode cX8_thing 79 = .ok (.iconst 3, 1) := by decide +kernel
theorem dX8_thing_80 : decode cX8_thing 80 = .ok (.invokevirtual 173, 3) := by decide +kernel
theorem dX8_thing_83 : decode cX8_thing 83 = .ok (.ireturn, 1) := by decide +kernel
theorem dX8_thing_84 : decode cX8_thing 84 = .ok (.iload_n 2, 1) := by decide +kernel
theorem dX8_thing_85 : decode cX8_thing 85 = .ok (.invokestatic 176, 3) := by decide +kernel
theorem dX8_thing_88 : decode cX8_thing 88 = .ok (.iconst (-1), 1) := by decide +kernel
theorem dX8_thing_89 : decode cX8_thing 89 = .ok (.if_icmp .ne 13, 3) := by decide +kernel
theorem dX8_thing_92 : decode cX8_thing 92 = .ok (.aload_n 0, 1) := by decide +kernel
theorem dX8_thing_93 : decode cX8_thing 93 = .ok (.aload_n 0, 1) := by decide +kernel
theorem dX8_thing_94 : decode cX8_thing 94 = .ok (.getfield 111, 3) := by decide +kernel
theorem dX8_thing_97 : decode cX8_thing 97 = .ok (.invokevirtual 133, 3) := by decide +kernel
theorem dX8_thing_100 : decode cX8_thing 100 = .ok (.iconst 0, 1) := by decide +kernel
theorem dX8_thing_101 : decode cX8_thing 101 = .ok (.ireturn, 1) := by decide +kernel
theorem dX8_thing_102 : decode cX8_thing 102 = .ok (.aload_n 0, 1) := by decide +kernel
theorem dX8_thing_103 : decode cX8_thing 103 = .ok (.dup, 1) := by decide +kernel
theorem dX8_thing_104 : decode cX8_thing 104 = .ok (.getfield 111, 3) := by decide +kernel
theorem dX8_thing_107 : decode cX8_thing 107 = .ok (.iconst 1, 1) := by decide +kernel
theorem dX8_thing_108 : decode cX8_thing 108 = .ok (.iadd, 1) := by decide +kernel
theorem dX8_thing_109 : decode cX8_thing 109 = .ok (.putfield 111, 3) := by decide +kernel
theorem dX8_thing_112 : decode cX8_thing 112 = .ok (.aload_n 0, 1) := by decide +kernel
theorem dX8_thing_113 : decode cX8_thing 113 = .ok (.getfield 179, 3) := by decide +kernel
theorem dX8_thing_116 : decode cX8_thing 116 = .ok (.ifCond .eq 15, 3) := by decide +kernel
theorem dX8_thing_119 : decode cX8_thing 119 = .ok (.aload_n 0, 1) := by decide +kernel
theorem dX8_thing_120 : decode cX8_thing 120 = .ok (.getfield 30, 3) := by decide +kernel
theorem dX8_thing_123 : decode cX8_thing 123 = .ok (.iload_n 2, 1) := by decide +kernel
theorem dX8_thing_124 : decode cX8_thing 124 = .ok (.invokestatic 176, 3) := by decide +kernel
theorem dX8_thing_127 : decode cX8_thing 127 = .ok (.iaload, 1) := by decide +kernel
theorem dX8_thing_128 : decode cX8_thing 128 = .ok (.goto 4, 3) := by decide +kernel
theorem dX8_thing_131 : decode cX8_thing 131 = .ok (.iconst 0, 1) := by decide +kernel
theorem dX8_thing_132 : decode cX8_thing 132 = .ok (.ireturn, 1) := by decide +kernel
def p_X8_thingB_67 (F : Nat) (T : Int32 → Int32 → Int32 → Int32 → Int32 → Int32 → Nat → (Nat → Int32) → (Nat → Int32) → (Int32 → (Int32 × Int32) → Prop) → Prop) (x_length : Int32) (x_top : Int32) (x_wrong : Int32) (x_isAsked : Int32) (n_read : Nat) (f_read : Nat → Int32) (f_asked : Nat → Int32) (u_3 : Int32) (r_26 : Int32) (Post : Int32 → (Int32 × Int32) → Prop) : Prop := (p_X8_in F r_26 (48 : Int32) (57 : Int32) (fun (r_72 : Int32) => ((r_72 = 0 → (p_X8_letterOf F r_26 (fun (r_85 : Int32) => ((¬ r_85 = (-1 : Int32) → ((x_isAsked = 0 → (Post (0 : Int32) ((u_3 + (1 : Int32)), x_wrong))) ∧ (¬ x_isAsked = 0 → (p_X8_letterOf F r_26 (fun (r_124 : Int32) => (vp_in r_124 7 ∧ (Post (f_asked r_124.toNatClampNeg) ((u_3 + (1 : Int32)), x_wrong)))))))) ∧ (r_85 = (-1 : Int32) → (p_X8_fault F u_3 x_wrong (fun (u_97 : Int32) => (Post (0 : Int32) (u_3, u_97))))))))) ∧ (¬ r_72 = 0 → (p_X8_number F (3 : Int32) x_length x_top u_3 x_wrong n_read f_read (fun (r_80 : Int32) (u_80 : (Int32 × Int32)) => (Post r_80 (u_80.1, u_80.2))))))))
def p_X8_thingB (F : Nat) (T : Int32 → Int32 → Int32 → Int32 → Int32 → Int32 → Nat → (Nat → Int32) → (Nat → Int32) → (Int32 → (Int32 × Int32) → Prop) → Prop) (p1 : Int32) (x_length : Int32) (x_top : Int32) (x_at : Int32) (x_wrong : Int32) (x_isAsked : Int32) (n_read : Nat) (f_read : Nat → Int32) (f_asked : Nat → Int32) (Post : Int32 → (Int32 × Int32) → Prop) : Prop := (p_X8_passes F (45 : Int32) x_length x_top x_at x_wrong n_read f_read (fun (r_3 : Int32) (u_3 : Int32) => ((r_3 = 0 → (p_X8_fine F x_wrong (fun (r_17 : Int32) => ((¬ r_17 = 0 → (p_X8_here F x_length x_top u_3 n_read f_read (fun (r_26 : Int32) => ((¬ r_26 = (40 : Int32) → (p_X8_thingB_67 F T x_length x_top x_wrong x_isAsked n_read f_read f_asked u_3 r_26 Post )) ∧ (r_26 = (40 : Int32) → (((4 : Int32) ≤ p1 → (p_X8_thingB_67 F T x_length x_top x_wrong x_isAsked n_read f_read f_asked u_3 r_26 Post )) ∧ (¬ (4 : Int32) ≤ p1 → (p_X8_held F T (p1 + (1 : Int32)) x_length x_top (u_3 + (1 : Int32)) x_wrong x_isAsked n_read f_read f_asked (fun (r_55 : Int32) (u_55 : (Int32 × Int32)) => (p_X8_need F (41 : Int32) x_length x_top u_55.1 u_55.2 n_read f_read (fun (u_62 : (Int32 × Int32)) => (Post r_55 (u_62.1, u_62.2))))))))))))) ∧ (r_17 = 0 → (Post (0 : Int32) (u_3, x_wrong))))))) ∧ (¬ r_3 = 0 → (T p1 x_length x_top u_3 x_wrong x_isAsked n_read f_read f_asked (fun (r_11 : Int32) (u_11 : (Int32 × Int32)) => (Post (-r_11) (u_11.1, u_11.2))))))))
set_option maxHeartbeats 4000000 in
set_option maxRecDepth 100000 in
theorem c_X8_thingB (l : Launch) (D : va_G) (cT : Nat → ClassId) (F : Nat) (T : Int32 → Int32 → Int32 → Int32 → Int32 → Int32 → Nat → (Nat → Int32) → (Nat → Int32) → (Int32 → (Int32 × Int32) → Prop) → Prop) (fT lT : Nat) (hT : ∀ (h : Nat) (p1 : Int32) (w_now : Value) (x_arches : Int32) (x_cats : Int32) (w_text : Value) (x_typed : Int32) (w_row : Value) (x_rowMany : Int32) (x_thrown : Int32) (q_read : Nat) (x_length : Int32) (x_top : Int32) (x_at : Int32) (x_wrong : Int32) (w_told : Value) (w_rule : Value) (w_otherRule : Value) (x_ruleSize : Int32) (x_isAsked : Int32) (q_asked : Nat) (w_undos : Value) (x_undoMany : Int32) (w_aside : Value) (w_then : Value) (w_hold : Value) (x_dropped : Int32) (w_acts : Value) (w_guarded : Value) (w_train : Value) (x_trolleyEnd : Int32) (w_feltOf : Value) (w_feltBy : Value) (x_feltMany : Int32) (w_many : Value) (w_heardOf : Value) (w_heardBy : Value) (x_heardMany : Int32) (w_worth : Value) (x_drawn : Int32) (x_came : Int32) (w_kept : Value) (w_isKept : Value) (w_keptCame : Value) (n_read : Nat) (f_read : Nat → Int32) (f_asked : Nat → Int32) (Post : Int32 → (Int32 × Int32) → Prop) (hg : T p1 x_length x_top x_at x_wrong x_isAsked n_read f_read f_asked Post), MWi l D cT yX8_thing cX8_thing 4 (some .int) fT lT 0 0 [.ref h, .int p1] [(h, oX8 w_now (.int x_arches) (.int x_cats) w_text (.int x_typed) w_row (.int x_rowMany) (.int x_thrown) (.ref q_read) (.int x_length) (.int x_top) (.int x_at) (.int x_wrong) w_told w_rule w_otherRule (.int x_ruleSize) (.int x_isAsked) (.ref q_asked) w_undos (.int x_undoMany) w_aside w_then w_hold (.int x_dropped) w_acts w_guarded w_train (.int x_trolleyEnd) w_feltOf w_feltBy (.int x_feltMany) w_many w_heardOf w_heardBy (.int x_heardMany) w_worth (.int x_drawn) (.int x_came) w_kept w_isKept w_keptCame), (q_read, aB cT n_read f_read), (q_asked, aI cT 7 f_asked)] Post (fun (u : Int32 × Int32) => [(h, oX8 w_now (.int x_arches) (.int x_cats) w_text (.int x_typed) w_row (.int x_rowMany) (.int x_thrown) (.ref q_read) (.int x_length) (.int x_top) (.int u.1) (.int u.2) w_told w_rule w_otherRule (.int x_ruleSize) (.int x_isAsked) (.ref q_asked) w_undos (.int x_undoMany) w_aside w_then w_hold (.int x_dropped) w_acts w_guarded w_train (.int x_trolleyEnd) w_feltOf w_feltBy (.int x_feltMany) w_many w_heardOf w_heardBy (.int x_heardMany) w_worth (.int x_drawn) (.int x_came) w_kept w_isKept w_keptCame), (q_read, aB cT n_read f_read), (q_asked, aI cT 7 f_asked)])) (h : Nat) (p1 : Int32) (w_now : Value) (x_arches : Int32) (x_cats : Int32) (w_text : Value) (x_typed : Int32) (w_row : Value) (x_rowMany : Int32) (x_thrown : Int32) (q_read : Nat) (x_length : Int32) (x_top : Int32) (x_at : Int32) (x_wrong : Int32) (w_told : Value) (w_rule : Value) (w_otherRule : Value) (x_ruleSize : Int32) (x_isAsked : Int32) (q_asked : Nat) (w_undos : Value) (x_undoMany : Int32) (w_aside : Value) (w_then : Value) (w_hold : Value) (x_dropped : Int32) (w_acts : Value) (w_guarded : Value) (w_train : Value) (x_trolleyEnd : Int32) (w_feltOf : Value) (w_feltBy : Value) (x_feltMany : Int32) (w_many : Value) (w_heardOf : Value) (w_heardBy : Value) (x_heardMany : Int32) (w_worth : Value) (x_drawn : Int32) (x_came : Int32) (w_kept : Value) (w_isKept : Value) (w_keptCame : Value) (n_read : Nat) (f_read : Nat → Int32) (f_asked : Nat → Int32) (Post : Int32 → (Int32 × Int32) → Prop) (hg : p_X8_thingB F T p1 x_length x_top x_at x_wrong x_isAsked n_read f_read f_asked Post) : MWi l D cT yX8_thing cX8_thing 4 (some .int) (fT + 7) (lT + 220) 0 0 [.ref h, .int p1] [(h, oX8 w_now (.int x_arches) (.int x_cats) w_text (.int x_typed) w_row (.int x_rowMany) (.int x_thrown) (.ref q_read) (.int x_length) (.int x_top) (.int x_at) (.int x_wrong) w_told w_rule w_otherRule (.int x_ruleSize) (.int x_isAsked) (.ref q_asked) w_undos (.int x_undoMany) w_aside w_then w_hold (.int x_dropped) w_acts w_guarded w_train (.int x_trolleyEnd) w_feltOf w_feltBy (.int x_feltMany) w_many w_heardOf w_heardBy (.int x_heardMany) w_worth (.int x_drawn) (.int x_came) w_kept w_isKept w_keptCame), (q_read, aB cT n_read f_read), (q_asked, aI cT 7 f_asked)] Post (fun (u : (Int32 × Int32)) => [(h, oX8 w_now (.int x_arches) (.int x_cats) w_text (.int x_typed) w_row (.int x_rowMany) (.int x_thrown) (.ref q_read) (.int x_length) (.int x_top) (.int u.1) (.int u.2) w_told w_rule w_otherRule (.int x_ruleSize) (.int x_isAsked) (.ref q_asked) w_undos (.int x_undoMany) w_aside w_then w_hold (.int x_dropped) w_acts w_guarded w_train (.int x_trolleyEnd) w_feltOf w_feltBy (.int x_feltMany) w_many w_heardOf w_heardBy (.int x_heardMany) w_worth (.int x_drawn) (.int x_came) w_kept w_isKept w_keptCame), (q_read, aB cT n_read f_read), (q_asked, aI cT 7 f_asked)]) := by
  refine MWi.of (by decide) (Nat.le_of_ble_eq_true rfl) ?_
  intro p e s m below meth c A hA C0 hnm hr hP hD ls hl
  have hl : lv_has ls 4 [(0, .ref h), (1, .int p1)] := hl
  have hx := C0.x
  have hb := C0.b
  have hS : va_S A s.heap s.heap [] := va_S.rf
  have hP : va_P D cls9 [(h, oX8 w_now (.int x_arches) (.int x_cats) w_text (.int x_typed) w_row (.int x_rowMany) (.int x_thrown) (.ref q_read) (.int x_length) (.int x_top) (.int x_at) (.int x_wrong) w_told w_rule w_otherRule (.int x_ruleSize) (.int x_isAsked) (.ref q_asked) w_undos (.int x_undoMany) w_aside w_then w_hold (.int x_dropped) w_acts w_guarded w_train (.int x_trolleyEnd) w_feltOf w_feltBy (.int x_feltMany) w_many w_heardOf w_heardBy (.int x_heardMany) w_worth (.int x_drawn) (.int x_came) w_kept w_isKept w_keptCame), (q_read, aB cT n_read f_read), (q_asked, aI cT 7 f_asked)] s.heap := hP
  have hD : va_D A [(h, oX8 w_now (.int x_arches) (.int x_cats) w_text (.int x_typed) w_row (.int x_rowMany) (.int x_thrown) (.ref q_read) (.int x_length) (.int x_top) (.int x_at) (.int x_wrong) w_told w_rule w_otherRule (.int x_ruleSize) (.int x_isAsked) (.ref q_asked) w_undos (.int x_undoMany) w_aside w_then w_hold (.int x_dropped) w_acts w_guarded w_train (.int x_trolleyEnd) w_feltOf w_feltBy (.int x_feltMany) w_many w_heardOf w_heardBy (.int x_heardMany) w_worth (.int x_drawn) (.int x_came) w_kept w_isKept w_keptCame), (q_read, aB cT n_read f_read), (q_asked, aI cT 7 f_asked)] := hD
  have L67 : ∀ (u_3 : Int32) (r_26 : Int32) (H : Heap) (locs : List Loc) (ls : Array Slot), p_X8_thingB_67 F T x_length x_top x_wrong x_isAsked n_read f_read f_asked u_3 r_26 Post → va_P D cls9 [(h, oX8 w_now (.int x_arches) (.int x_cats) w_text (.int x_typed) w_row (.int x_rowMany) (.int x_thrown) (.ref q_read) (.int x_length) (.int x_top) (.int u_3) (.int x_wrong) w_told w_rule w_otherRule (.int x_ruleSize) (.int x_isAsked) (.ref q_asked) w_undos (.int x_undoMany) w_aside w_then w_hold (.int x_dropped) w_acts w_guarded w_train (.int x_trolleyEnd) w_feltOf w_feltBy (.int x_feltMany) w_many w_heardOf w_heardBy (.int x_heardMany) w_worth (.int x_drawn) (.int x_came) w_kept w_isKept w_keptCame), (q_read, aB cT n_read f_read), (q_asked, aI cT 7 f_asked)] H → va_D A [(h, oX8 w_now (.int x_arches) (.int x_cats) w_text (.int x_typed) w_row (.int x_rowMany) (.int x_thrown) (.ref q_read) (.int x_length) (.int x_top) (.int u_3) (.int x_wrong) w_told w_rule w_otherRule (.int x_ruleSize) (.int x_isAsked) (.ref q_asked) w_undos (.int x_undoMany) w_aside w_then w_hold (.int x_dropped) w_acts w_guarded w_train (.int x_trolleyEnd) w_feltOf w_feltBy (.int x_feltMany) w_many w_heardOf w_heardBy (.int x_heardMany) w_worth (.int x_drawn) (.int x_came) w_kept w_isKept w_keptCame), (q_read, aB cT n_read f_read), (q_asked, aI cT 7 f_asked)] → va_S A s.heap H locs → lv_has ls 4 [(0, .ref h), (2, .int r_26)] → W p l e (rmO (fT + 7) (lT + 220) 0 0) s m ([.ref h, .int p1] : List Value).toArray below meth c H locs 0 0 (MQ below (va_Qi Post (cB D A (fun (u : (Int32 × Int32)) => [(h, oX8 w_now (.int x_arches) (.int x_cats) w_text (.int x_typed) w_row (.int x_rowMany) (.int x_thrown) (.ref q_read) (.int x_length) (.int x_top) (.int u.1) (.int u.2) w_told w_rule w_otherRule (.int x_ruleSize) (.int x_isAsked) (.ref q_asked) w_undos (.int x_undoMany) w_aside w_then w_hold (.int x_dropped) w_acts w_guarded w_train (.int x_trolleyEnd) w_feltOf w_feltBy (.int x_feltMany) w_many w_heardOf w_heardBy (.int x_heardMany) w_worth (.int x_drawn) (.int x_came) w_kept w_isKept w_keptCame), (q_read, aB cT n_read f_read), (q_asked, aI cT 7 f_asked)])) A) ([.ref h, .int p1] : List Value).toArray s 0 0 A) (F0 m 67 ls []) := by
    intro u_3 r_26 H locs ls hg hP hD hS hl
    unfold p_X8_thingB_67 at hg
    refine lv_iload_n hx hb dX8_thing_67 rfl (lv_at hl 1 rfl) ?_
    refine lv_bipush (v := (48 : Int32)) hx hb dX8_thing_68 (by decide) ?_
    refine lv_bipush (v := (57 : Int32)) hx hb dX8_thing_70 (by decide) ?_
    refine k_Sxi (rest := []) C0 lk_X8_92 (c_X8_in l D cT F r_26 (48 : Int32) (57 : Int32) _ hg) hP hD hS hA [] (by decide +kernel) rfl ⟨rm_f (by omega), rm_l (by omega)⟩ rfl hl.1 rfl (Nat.le_of_ble_eq_true rfl) dX8_thing_72 ⟨Nat.le_of_ble_eq_true rfl, Nat.le_of_ble_eq_true rfl⟩ (fun r_72 hg => ?_)
    refine lv_if_eq (tgt := 84) hx hb dX8_thing_75 (by decide) (fun c_75 => ?_) (fun c_75 => ?_)
    · have hg := hg.1 c_75
      refine lv_iload_n hx hb dX8_thing_84 rfl (lv_at hl 1 rfl) ?_
      refine k_Sxi (rest := []) C0 lk_X8_176 (c_X8_letterOf l D cT F r_26 _ hg) hP hD hS hA [] (by decide +kernel) rfl ⟨rm_f (by omega), rm_l (by omega)⟩ rfl hl.1 rfl (Nat.le_of_ble_eq_true rfl) dX8_thing_85 ⟨Nat.le_of_ble_eq_true rfl, Nat.le_of_ble_eq_true rfl⟩ (fun r_85 hg => ?_)
      refine lv_iconst (v := (-1 : Int32)) hx hb dX8_thing_88 (by decide) ?_
      refine lv_icmp_ne (tgt := 102) hx hb dX8_thing_89 (by decide) (fun c_89 => ?_) (fun c_89 => ?_)
      · have hg := hg.1 c_89
        refine lv_aload_n hx hb dX8_thing_102 rfl (lv_at hl 0 rfl) ?_
        refine lv_dup hx hb dX8_thing_103 rfl ?_
        refine gf_X8_111 C0 hP 0 rfl rfl dX8_thing_104 ?_
        refine lv_iconst (v := (1 : Int32)) hx hb dX8_thing_107 (by decide) ?_
        refine lv_iadd hx hb dX8_thing_108 ?_
        refine pf_X8_111 C0 hP hD hS 0 rfl (Nat.le_of_ble_eq_true rfl) (ws2 := [(h, oX8 w_now (.int x_arches) (.int x_cats) w_text (.int x_typed) w_row (.int x_rowMany) (.int x_thrown) (.ref q_read) (.int x_length) (.int x_top) (.int (u_3 + (1 : Int32))) (.int x_wrong) w_told w_rule w_otherRule (.int x_ruleSize) (.int x_isAsked) (.ref q_asked) w_undos (.int x_undoMany) w_aside w_then w_hold (.int x_dropped) w_acts w_guarded w_train (.int x_trolleyEnd) w_feltOf w_feltBy (.int x_feltMany) w_many w_heardOf w_heardBy (.int x_heardMany) w_worth (.int x_drawn) (.int x_came) w_kept w_isKept w_keptCame), (q_read, aB cT n_read f_read), (q_asked, aI cT 7 f_asked)]) rfl dX8_thing_109 (fun H locs hP hD hS => ?_)
        refine lv_aload_n hx hb dX8_thing_112 rfl (lv_at hl 0 rfl) ?_
        refine gf_X8_179 C0 hP 0 rfl rfl dX8_thing_113 ?_
        refine lv_if_eq (tgt := 131) hx hb dX8_thing_116 (by decide) (fun c_116 => ?_) (fun c_116 => ?_)
        · have hg := hg.1 c_116
          refine lv_iconst (v := (0 : Int32)) hx hb dX8_thing_131 (by decide) ?_
          exact k_iret C0 hr ((u_3 + (1 : Int32)), x_wrong) hg hP hD hS dX8_thing_132
        have hg := hg.2 c_116
        refine lv_aload_n hx hb dX8_thing_119 rfl (lv_at hl 0 rfl) ?_
        refine gf_X8_30 C0 hP 0 rfl rfl dX8_thing_120 ?_
        refine lv_iload_n hx hb dX8_thing_123 rfl (lv_at hl 1 rfl) ?_
        refine k_Sxi (rest := [.ref q_asked]) C0 lk_X8_176 (c_X8_letterOf l D cT F r_26 _ hg) hP hD hS hA [] (by decide +kernel) rfl ⟨rm_f (by omega), rm_l (by omega)⟩ rfl hl.1 rfl (Nat.le_of_ble_eq_true rfl) dX8_thing_124 ⟨Nat.le_of_ble_eq_true rfl, Nat.le_of_ble_eq_true rfl⟩ (fun r_124 hg => ?_)
        obtain ⟨g_127, hg⟩ := hg
        refine k_iald C0 hP 2 rfl g_127 dX8_thing_127 ?_
        refine lv_goto (tgt := 132) hx hb dX8_thing_128 (by decide) ?_
        exact k_iret C0 hr ((u_3 + (1 : Int32)), x_wrong) hg hP hD hS dX8_thing_132
      have hg := hg.2 c_89
      refine lv_aload_n hx hb dX8_thing_92 rfl (lv_at hl 0 rfl) ?_
      refine lv_aload_n hx hb dX8_thing_93 rfl (lv_at hl 0 rfl) ?_
      refine gf_X8_111 C0 hP 0 rfl rfl dX8_thing_94 ?_
      refine k_Vv (rest := []) (wr := [(q_read, aB cT n_read f_read), (q_asked, aI cT 7 f_asked)]) (w2 := fun u_97 => [(q_read, aB cT n_read f_read), (q_asked, aI cT 7 f_asked), (h, oX8 w_now (.int x_arches) (.int x_cats) w_text (.int x_typed) w_row (.int x_rowMany) (.int x_thrown) (.ref q_read) (.int x_length) (.int x_top) (.int u_3) (.int u_97) w_told w_rule w_otherRule (.int x_ruleSize) (.int x_isAsked) (.ref q_asked) w_undos (.int x_undoMany) w_aside w_then w_hold (.int x_dropped) w_acts w_guarded w_train (.int x_trolleyEnd) w_feltOf w_feltBy (.int x_feltMany) w_many w_heardOf w_heardBy (.int x_heardMany) w_worth (.int x_drawn) (.int x_came) w_kept w_isKept w_keptCame)]) C0 lk_X8_133 (c_X8_fault l D cT F h u_3 w_now x_arches x_cats w_text x_typed w_row x_rowMany x_thrown (.ref q_read) x_length x_top u_3 x_wrong w_told w_rule w_otherRule x_ruleSize x_isAsked (.ref q_asked) w_undos x_undoMany w_aside w_then w_hold x_dropped w_acts w_guarded w_train x_trolleyEnd w_feltOf w_feltBy x_feltMany w_many w_heardOf w_heardBy x_heardMany w_worth x_drawn x_came w_kept w_isKept w_keptCame _ hg) hP hD hS hA [0] [1, 2] (by decide +kernel) rfl rfl (fun _ => rfl) rfl rfl ⟨rm_f (by omega), rm_l (by omega)⟩ rfl hl.1 rfl (Nat.le_of_ble_eq_true rfl) dX8_thing_97 ⟨Nat.le_of_ble_eq_true rfl, Nat.le_of_ble_eq_true rfl⟩ ?_
      intro u_97 H locs hg hP hD hS
      refine lv_iconst (v := (0 : Int32)) hx hb dX8_thing_100 (by decide) ?_
      exact k_iret C0 hr (u_3, u_97) hg (subP hP [2, 0, 1] rfl) (hD.sub [2, 0, 1] (nd2_ok _ (by decide +kernel)) rfl) hS dX8_thing_101
    have hg := hg.2 c_75
    refine lv_aload_n hx hb dX8_thing_78 rfl (lv_at hl 0 rfl) ?_
    refine lv_iconst (v := (3 : Int32)) hx hb dX8_thing_79 (by decide) ?_
    refine k_Vi (rest := []) (wr := [(q_asked, aI cT 7 f_asked)]) (w2 := fun u_80 => [(q_asked, aI cT 7 f_asked), (h, oX8 w_now (.int x_arches) (.int x_cats) w_text (.int x_typed) w_row (.int x_rowMany) (.int x_thrown) (.ref q_read) (.int x_length) (.int x_top) (.int u_80.1) (.int u_80.2) w_told w_rule w_otherRule (.int x_ruleSize) (.int x_isAsked) (.ref q_asked) w_undos (.int x_undoMany) w_aside w_then w_hold (.int x_dropped) w_acts w_guarded w_train (.int x_trolleyEnd) w_feltOf w_feltBy (.int x_feltMany) w_many w_heardOf w_heardBy (.int x_heardMany) w_worth (.int x_drawn) (.int x_came) w_kept w_isKept w_keptCame), (q_read, aB cT n_read f_read)]) C0 lk_X8_173 (c_X8_number l D cT F h (3 : Int32) w_now x_arches x_cats w_text x_typed w_row x_rowMany x_thrown q_read x_length x_top u_3 x_wrong w_told w_rule w_otherRule x_ruleSize x_isAsked (.ref q_asked) w_undos x_undoMany w_aside w_then w_hold x_dropped w_acts w_guarded w_train x_trolleyEnd w_feltOf w_feltBy x_feltMany w_many w_heardOf w_heardBy x_heardMany w_worth x_drawn x_came w_kept w_isKept w_keptCame n_read f_read _ hg) hP hD hS hA [0, 1] [2] (by decide +kernel) rfl rfl (fun _ => rfl) rfl rfl ⟨rm_f (by omega), rm_l (by omega)⟩ rfl hl.1 rfl (Nat.le_of_ble_eq_true rfl) dX8_thing_80 ⟨Nat.le_of_ble_eq_true rfl, Nat.le_of_ble_eq_true rfl⟩ ?_
    intro r_80 u_80 H locs hg hP hD hS
    exact k_iret C0 hr (u_80.1, u_80.2) hg (subP hP [1, 2, 0] rfl) (hD.sub [1, 2, 0] (nd2_ok _ (by decide +kernel)) rfl) hS dX8_thing_83
  unfold p_X8_thingB at hg
  refine lv_aload_n hx hb dX8_thing_0 rfl (lv_at hl 0 rfl) ?_
  refine lv_bipush (v := (45 : Int32)) hx hb dX8_thing_1 (by decide) ?_
  refine k_Vi (rest := []) (wr := [(q_asked, aI cT 7 f_asked)]) (w2 := fun u_3 => [(q_asked, aI cT 7 f_asked), (h, oX8 w_now (.int x_arches) (.int x_cats) w_text (.int x_typed) w_row (.int x_rowMany) (.int x_thrown) (.ref q_read) (.int x_length) (.int x_top) (.int u_3) (.int x_wrong) w_told w_rule w_otherRule (.int x_ruleSize) (.int x_isAsked) (.ref q_asked) w_undos (.int x_undoMany) w_aside w_then w_hold (.int x_dropped) w_acts w_guarded w_train (.int x_trolleyEnd) w_feltOf w_feltBy (.int x_feltMany) w_many w_heardOf w_heardBy (.int x_heardMany) w_worth (.int x_drawn) (.int x_came) w_kept w_isKept w_keptCame), (q_read, aB cT n_read f_read)]) C0 lk_X8_129 (c_X8_passes l D cT F h (45 : Int32) w_now x_arches x_cats w_text x_typed w_row x_rowMany x_thrown q_read x_length x_top x_at x_wrong w_told w_rule w_otherRule x_ruleSize x_isAsked (.ref q_asked) w_undos x_undoMany w_aside w_then w_hold x_dropped w_acts w_guarded w_train x_trolleyEnd w_feltOf w_feltBy x_feltMany w_many w_heardOf w_heardBy x_heardMany w_worth x_drawn x_came w_kept w_isKept w_keptCame n_read f_read _ hg) hP hD hS hA [0, 1] [2] (by decide +kernel) rfl rfl (fun _ => rfl) rfl rfl ⟨rm_f (by omega), rm_l (by omega)⟩ rfl hl.1 rfl (Nat.le_of_ble_eq_true rfl) dX8_thing_3 ⟨Nat.le_of_ble_eq_true rfl, Nat.le_of_ble_eq_true rfl⟩ ?_
  intro r_3 u_3 H locs hg hP hD hS
  refine lv_if_eq (tgt := 16) hx hb dX8_thing_6 (by decide) (fun c_6 => ?_) (fun c_6 => ?_)
  · have hg := hg.1 c_6
    refine lv_aload_n hx hb dX8_thing_16 rfl (lv_at hl 0 rfl) ?_
    refine k_Vxi (rest := []) C0 lk_X8_121 (c_X8_fine l D cT F h w_now x_arches x_cats w_text x_typed w_row x_rowMany x_thrown (.ref q_read) x_length x_top u_3 x_wrong w_told w_rule w_otherRule x_ruleSize x_isAsked (.ref q_asked) w_undos x_undoMany w_aside w_then w_hold x_dropped w_acts w_guarded w_train x_trolleyEnd w_feltOf w_feltBy x_feltMany w_many w_heardOf w_heardBy x_heardMany w_worth x_drawn x_came w_kept w_isKept w_keptCame _ hg) hP hD hS hA [1] (by decide +kernel) rfl rfl rfl ⟨rm_f (by omega), rm_l (by omega)⟩ rfl hl.1 rfl (Nat.le_of_ble_eq_true rfl) dX8_thing_17 ⟨Nat.le_of_ble_eq_true rfl, Nat.le_of_ble_eq_true rfl⟩ (fun r_17 hg => ?_)
    refine lv_if_ne (tgt := 25) hx hb dX8_thing_20 (by decide) (fun c_20 => ?_) (fun c_20 => ?_)
    · have hg := hg.1 c_20
      refine lv_aload_n hx hb dX8_thing_25 rfl (lv_at hl 0 rfl) ?_
      refine k_Vxi (rest := []) C0 lk_X8_125 (c_X8_here l D cT F h w_now x_arches x_cats w_text x_typed w_row x_rowMany x_thrown q_read x_length x_top u_3 x_wrong w_told w_rule w_otherRule x_ruleSize x_isAsked (.ref q_asked) w_undos x_undoMany w_aside w_then w_hold x_dropped w_acts w_guarded w_train x_trolleyEnd w_feltOf w_feltBy x_feltMany w_many w_heardOf w_heardBy x_heardMany w_worth x_drawn x_came w_kept w_isKept w_keptCame n_read f_read _ hg) hP hD hS hA [1, 2] (by decide +kernel) rfl rfl rfl ⟨rm_f (by omega), rm_l (by omega)⟩ rfl hl.1 rfl (Nat.le_of_ble_eq_true rfl) dX8_thing_26 ⟨Nat.le_of_ble_eq_true rfl, Nat.le_of_ble_eq_true rfl⟩ (fun r_26 hg => ?_)
      refine lv_istore_n (lv' := [(2, .int r_26), (0, .ref h), (1, .int p1)]) hx hb dX8_thing_29 rfl hl (by decide) rfl (fun ls hl => ?_)
      refine lv_iload_n hx hb dX8_thing_30 rfl (lv_at hl 0 rfl) ?_
      refine lv_bipush (v := (40 : Int32)) hx hb dX8_thing_31 (by decide) ?_
      refine lv_icmp_ne (tgt := 67) hx hb dX8_thing_33 (by decide) (fun c_33 => ?_) (fun c_33 => ?_)
      · have hg := hg.1 c_33
        exact L67 u_3 r_26 _ _ _ hg (subP hP [1, 2, 0] rfl) (hD.sub [1, 2, 0] (nd2_ok _ (by decide +kernel)) rfl) hS (lv_sub hl [1, 0] rfl)
      have hg := hg.2 c_33
      refine lv_iload_n hx hb dX8_thing_36 rfl (lv_at hl 2 rfl) ?_
      refine lv_iconst (v := (4 : Int32)) hx hb dX8_thing_37 (by decide) ?_
      refine lv_icmp_ge (tgt := 67) hx hb dX8_thing_38 (by decide) (fun c_38 => ?_) (fun c_38 => ?_)
      · have hg := hg.1 c_38
        exact L67 u_3 r_26 _ _ _ hg (subP hP [1, 2, 0] rfl) (hD.sub [1, 2, 0] (nd2_ok _ (by decide +kernel)) rfl) hS (lv_sub hl [1, 0] rfl)
      have hg := hg.2 c_38
      refine lv_aload_n hx hb dX8_thing_41 rfl (lv_at hl 1 rfl) ?_
      refine lv_dup hx hb dX8_thing_42 rfl ?_
      refine gf_X8_111 C0 hP 1 rfl rfl dX8_thing_43 ?_
      refine lv_iconst (v := (1 : Int32)) hx hb dX8_thing_46 (by decide) ?_
      refine lv_iadd hx hb dX8_thing_47 ?_
      refine pf_X8_111 C0 hP hD hS 1 rfl (Nat.le_of_ble_eq_true rfl) (ws2 := [(q_asked, aI cT 7 f_asked), (h, oX8 w_now (.int x_arches) (.int x_cats) w_text (.int x_typed) w_row (.int x_rowMany) (.int x_thrown) (.ref q_read) (.int x_length) (.int x_top) (.int (u_3 + (1 : Int32))) (.int x_wrong) w_told w_rule w_otherRule (.int x_ruleSize) (.int x_isAsked) (.ref q_asked) w_undos (.int x_undoMany) w_aside w_then w_hold (.int x_dropped) w_acts w_guarded w_train (.int x_trolleyEnd) w_feltOf w_feltBy (.int x_feltMany) w_many w_heardOf w_heardBy (.int x_heardMany) w_worth (.int x_drawn) (.int x_came) w_kept w_isKept w_keptCame), (q_read, aB cT n_read f_read)]) rfl dX8_thing_48 (fun H locs hP hD hS => ?_)
      refine lv_aload_n hx hb dX8_thing_51 rfl (lv_at hl 1 rfl) ?_
      refine lv_iload_n hx hb dX8_thing_52 rfl (lv_at hl 2 rfl) ?_
      refine lv_iconst (v := (1 : Int32)) hx hb dX8_thing_53 (by decide) ?_
      refine lv_iadd hx hb dX8_thing_54 ?_
      refine k_Vi (rest := []) (wr := []) (w2 := fun u_55 => [(h, oX8 w_now (.int x_arches) (.int x_cats) w_text (.int x_typed) w_row (.int x_rowMany) (.int x_thrown) (.ref q_read) (.int x_length) (.int x_top) (.int u_55.1) (.int u_55.2) w_told w_rule w_otherRule (.int x_ruleSize) (.int x_isAsked) (.ref q_asked) w_undos (.int x_undoMany) w_aside w_then w_hold (.int x_dropped) w_acts w_guarded w_train (.int x_trolleyEnd) w_feltOf w_feltBy (.int x_feltMany) w_many w_heardOf w_heardBy (.int x_heardMany) w_worth (.int x_drawn) (.int x_came) w_kept w_isKept w_keptCame), (q_read, aB cT n_read f_read), (q_asked, aI cT 7 f_asked)]) C0 lk_X8_166 (c_X8_held l D cT F T fT lT hT h (p1 + (1 : Int32)) w_now x_arches x_cats w_text x_typed w_row x_rowMany x_thrown q_read x_length x_top (u_3 + (1 : Int32)) x_wrong w_told w_rule w_otherRule x_ruleSize x_isAsked q_asked w_undos x_undoMany w_aside w_then w_hold x_dropped w_acts w_guarded w_train x_trolleyEnd w_feltOf w_feltBy x_feltMany w_many w_heardOf w_heardBy x_heardMany w_worth x_drawn x_came w_kept w_isKept w_keptCame n_read f_read f_asked _ hg) hP hD hS hA [1, 2, 0] [] (by decide +kernel) rfl rfl (fun _ => rfl) rfl rfl ⟨rm_f (by omega), rm_l (by omega)⟩ rfl hl.1 rfl (Nat.le_of_ble_eq_true rfl) dX8_thing_55 ⟨Nat.le_of_ble_eq_true rfl, Nat.le_of_ble_eq_true rfl⟩ ?_
      intro r_55 u_55 H locs hg hP hD hS
      refine lv_istore_n (lv' := [(3, .int r_55), (2, .int r_26), (0, .ref h), (1, .int p1)]) hx hb dX8_thing_58 rfl hl (by decide) rfl (fun ls hl => ?_)
      refine lv_aload_n hx hb dX8_thing_59 rfl (lv_at hl 2 rfl) ?_
      refine lv_bipush (v := (41 : Int32)) hx hb dX8_thing_60 (by decide) ?_
      refine k_Vv (rest := []) (wr := [(q_asked, aI cT 7 f_asked)]) (w2 := fun u_62 => [(q_asked, aI cT 7 f_asked), (h, oX8 w_now (.int x_arches) (.int x_cats) w_text (.int x_typed) w_row (.int x_rowMany) (.int x_thrown) (.ref q_read) (.int x_length) (.int x_top) (.int u_62.1) (.int u_62.2) w_told w_rule w_otherRule (.int x_ruleSize) (.int x_isAsked) (.ref q_asked) w_undos (.int x_undoMany) w_aside w_then w_hold (.int x_dropped) w_acts w_guarded w_train (.int x_trolleyEnd) w_feltOf w_feltBy (.int x_feltMany) w_many w_heardOf w_heardBy (.int x_heardMany) w_worth (.int x_drawn) (.int x_came) w_kept w_isKept w_keptCame), (q_read, aB cT n_read f_read)]) C0 lk_X8_169 (c_X8_need l D cT F h (41 : Int32) w_now x_arches x_cats w_text x_typed w_row x_rowMany x_thrown q_read x_length x_top u_55.1 u_55.2 w_told w_rule w_otherRule x_ruleSize x_isAsked (.ref q_asked) w_undos x_undoMany w_aside w_then w_hold x_dropped w_acts w_guarded w_train x_trolleyEnd w_feltOf w_feltBy x_feltMany w_many w_heardOf w_heardBy x_heardMany w_worth x_drawn x_came w_kept w_isKept w_keptCame n_read f_read _ hg) hP hD hS hA [0, 1] [2] (by decide +kernel) rfl rfl (fun _ => rfl) rfl rfl ⟨rm_f (by omega), rm_l (by omega)⟩ rfl hl.1 rfl (Nat.le_of_ble_eq_true rfl) dX8_thing_62 ⟨Nat.le_of_ble_eq_true rfl, Nat.le_of_ble_eq_true rfl⟩ ?_
      intro u_62 H locs hg hP hD hS
      refine lv_iload_n hx hb dX8_thing_65 rfl (lv_at hl 0 rfl) ?_
      exact k_iret C0 hr (u_62.1, u_62.2) hg (subP hP [1, 2, 0] rfl) (hD.sub [1, 2, 0] (nd2_ok _ (by decide +kernel)) rfl) hS dX8_thing_66
    have hg := hg.2 c_20
    refine lv_iconst (v := (0 : Int32)) hx hb dX8_thing_23 (by decide) ?_
    exact k_iret C0 hr (u_3, x_wrong) hg (subP hP [1, 2, 0] rfl) (hD.sub [1, 2, 0] (nd2_ok _ (by decide +kernel)) rfl) hS dX8_thing_24
  have hg := hg.2 c_6
  refine lv_aload_n hx hb dX8_thing_9 rfl (lv_at hl 0 rfl) ?_
  refine lv_iload_n hx hb dX8_thing_10 rfl (lv_at hl 1 rfl) ?_
  refine k_Vi (rest := []) (wr := []) (w2 := fun u_11 => [(h, oX8 w_now (.int x_arches) (.int x_cats) w_text (.int x_typed) w_row (.int x_rowMany) (.int x_thrown) (.ref q_read) (.int x_length) (.int x_top) (.int u_11.1) (.int u_11.2) w_told w_rule w_otherRule (.int x_ruleSize) (.int x_isAsked) (.ref q_asked) w_undos (.int x_undoMany) w_aside w_then w_hold (.int x_dropped) w_acts w_guarded w_train (.int x_trolleyEnd) w_feltOf w_feltBy (.int x_feltMany) w_many w_heardOf w_heardBy (.int x_heardMany) w_worth (.int x_drawn) (.int x_came) w_kept w_isKept w_keptCame), (q_read, aB cT n_read f_read), (q_asked, aI cT 7 f_asked)]) C0 lk_X8_163 (hT h p1 w_now x_arches x_cats w_text x_typed w_row x_rowMany x_thrown q_read x_length x_top u_3 x_wrong w_told w_rule w_otherRule x_ruleSize x_isAsked q_asked w_undos x_undoMany w_aside w_then w_hold x_dropped w_acts w_guarded w_train x_trolleyEnd w_feltOf w_feltBy x_feltMany w_many w_heardOf w_heardBy x_heardMany w_worth x_drawn x_came w_kept w_isKept w_keptCame n_read f_read f_asked _ hg) hP hD hS hA [1, 2, 0] [] (by decide +kernel) rfl rfl (fun _ => rfl) rfl rfl ⟨rm_f (by omega), rm_l (by omega)⟩ rfl hl.1 rfl (Nat.le_of_ble_eq_true rfl) dX8_thing_11 ⟨Nat.le_of_ble_eq_true rfl, Nat.le_of_ble_eq_true rfl⟩ ?_
  intro r_11 u_11 H locs hg hP hD hS
  refine lv_ineg hx hb dX8_thing_14 ?_
  exact k_iret C0 hr (u_11.1, u_11.2) hg hP hD hS dX8_thing_15
noncomputable def p_X8_thing (F d : Nat) : Int32 → Int32 → Int32 → Int32 → Int32 → Int32 → Nat → (Nat → Int32) → (Nat → Int32) → (Int32 → (Int32 × Int32) → Prop) → Prop := Nat.rec (motive := fun _ => Int32 → Int32 → Int32 → Int32 → Int32 → Int32 → Nat → (Nat → Int32) → (Nat → Int32) → (Int32 → (Int32 × Int32) → Prop) → Prop) (fun _ _ _ _ _ _ _ _ _ _ => False) (fun _ T => p_X8_thingB F T) d
theorem p_X8_thing_s (F d : Nat) (p1 : Int32) (x_length : Int32) (x_top : Int32) (x_at : Int32) (x_wrong : Int32) (x_isAsked : Int32) (n_read : Nat) (f_read : Nat → Int32) (f_asked : Nat → Int32) (Post : Int32 → (Int32 × Int32) → Prop) : p_X8_thing F (d + 1) p1 x_length x_top x_at x_wrong x_isAsked n_read f_read f_asked Post = p_X8_thingB F (p_X8_thing F d) p1 x_length x_top x_at x_wrong x_isAsked n_read f_read f_asked Post := rfl
theorem c_X8_thing (l : Launch) (D : va_G) (cT : Nat → ClassId) (F : Nat) : ∀ (d : Nat) (h : Nat) (p1 : Int32) (w_now : Value) (x_arches : Int32) (x_cats : Int32) (w_text : Value) (x_typed : Int32) (w_row : Value) (x_rowMany : Int32) (x_thrown : Int32) (q_read : Nat) (x_length : Int32) (x_top : Int32) (x_at : Int32) (x_wrong : Int32) (w_told : Value) (w_rule : Value) (w_otherRule : Value) (x_ruleSize : Int32) (x_isAsked : Int32) (q_asked : Nat) (w_undos : Value) (x_undoMany : Int32) (w_aside : Value) (w_then : Value) (w_hold : Value) (x_dropped : Int32) (w_acts : Value) (w_guarded : Value) (w_train : Value) (x_trolleyEnd : Int32) (w_feltOf : Value) (w_feltBy : Value) (x_feltMany : Int32) (w_many : Value) (w_heardOf : Value) (w_heardBy : Value) (x_heardMany : Int32) (w_worth : Value) (x_drawn : Int32) (x_came : Int32) (w_kept : Value) (w_isKept : Value) (w_keptCame : Value) (n_read : Nat) (f_read : Nat → Int32) (f_asked : Nat → Int32) (Post : Int32 → (Int32 × Int32) → Prop) (hg : p_X8_thing F d p1 x_length x_top x_at x_wrong x_isAsked n_read f_read f_asked Post), MWi l D cT yX8_thing cX8_thing 4 (some .int) (7 * d) (220 * d) 0 0 [.ref h, .int p1] [(h, oX8 w_now (.int x_arches) (.int x_cats) w_text (.int x_typed) w_row (.int x_rowMany) (.int x_thrown) (.ref q_read) (.int x_length) (.int x_top) (.int x_at) (.int x_wrong) w_told w_rule w_otherRule (.int x_ruleSize) (.int x_isAsked) (.ref q_asked) w_undos (.int x_undoMany) w_aside w_then w_hold (.int x_dropped) w_acts w_guarded w_train (.int x_trolleyEnd) w_feltOf w_feltBy (.int x_feltMany) w_many w_heardOf w_heardBy (.int x_heardMany) w_worth (.int x_drawn) (.int x_came) w_kept w_isKept w_keptCame), (q_read, aB cT n_read f_read), (q_asked, aI cT 7 f_asked)] Post (fun (u : Int32 × Int32) => [(h, oX8 w_now (.int x_arches) (.int x_cats) w_text (.int x_typed) w_row (.int x_rowMany) (.int x_thrown) (.ref q_read) (.int x_length) (.int x_top) (.int u.1) (.int u.2) w_told w_rule w_otherRule (.int x_ruleSize) (.int x_isAsked) (.ref q_asked) w_undos (.int x_undoMany) w_aside w_then w_hold (.int x_dropped) w_acts w_guarded w_train (.int x_trolleyEnd) w_feltOf w_feltBy (.int x_feltMany) w_many w_heardOf w_heardBy (.int x_heardMany) w_worth (.int x_drawn) (.int x_came) w_kept w_isKept w_keptCame), (q_read, aB cT n_read f_read), (q_asked, aI cT 7 f_asked)]) := by
  intro d
  induction d with
  | zero =>
    intro h p1 w_now x_arches x_cats w_text x_typed w_row x_rowMany x_thrown q_read x_length x_top x_at x_wrong w_told w_rule w_otherRule x_ruleSize x_isAsked q_asked w_undos x_undoMany w_aside w_then w_hold x_dropped w_acts w_guarded w_train x_trolleyEnd w_feltOf w_feltBy x_feltMany w_many w_heardOf w_heardBy x_heardMany w_worth x_drawn x_came w_kept w_isKept w_keptCame n_read f_read f_asked Post hg
    exact False.elim hg
  | succ d ih =>
    intro h p1 w_now x_arches x_cats w_text x_typed w_row x_rowMany x_thrown q_read x_length x_top x_at x_wrong w_told w_rule w_otherRule x_ruleSize x_isAsked q_asked w_undos x_undoMany w_aside w_then w_hold x_dropped w_acts w_guarded w_train x_trolleyEnd w_feltOf w_feltBy x_feltMany w_many w_heardOf w_heardBy x_heardMany w_worth x_drawn x_came w_kept w_isKept w_keptCame n_read f_read f_asked Post hg
    exact c_X8_thingB l D cT F (p_X8_thing F d) (7 * d) (220 * d) ih h p1 w_now x_arches x_cats w_text x_typed w_row x_rowMany x_thrown q_read x_length x_top x_at x_wrong w_told w_rule w_otherRule x_ruleSize x_isAsked q_asked w_undos x_undoMany w_aside w_then w_hold x_dropped w_acts w_guarded w_train x_trolleyEnd w_feltOf w_feltBy x_feltMany w_many w_heardOf w_heardBy x_heardMany w_worth x_drawn x_came w_kept w_isKept w_keptCame n_read f_read f_asked Post hg
/-- the rule, read or told, from depth 0 of things on: 45 things in one another are more than its 40 signs can want -/
def p_X8_heldT (F : Nat) (p1 : Int32) (x_length : Int32) (x_top : Int32) (x_at : Int32) (x_wrong : Int32) (x_isAsked : Int32) (n_read : Nat) (f_read : Nat → Int32) (f_asked : Nat → Int32) (Post : Int32 → (Int32 × Int32) → Prop) : Prop := p_X8_held F (p_X8_thing F 45) p1 x_length x_top x_at x_wrong x_isAsked n_read f_read f_asked Post
theorem c_X8_heldT (l : Launch) (D : va_G) (cT : Nat → ClassId) (F : Nat) (h : Nat) (p1 : Int32) (w_now : Value) (x_arches : Int32) (x_cats : Int32) (w_text : Value) (x_typed : Int32) (w_row : Value) (x_rowMany : Int32) (x_thrown : Int32) (q_read : Nat) (x_length : Int32) (x_top : Int32) (x_at : Int32) (x_wrong : Int32) (w_told : Value) (w_rule : Value) (w_otherRule : Value) (x_ruleSize : Int32) (x_isAsked : Int32) (q_asked : Nat) (w_undos : Value) (x_undoMany : Int32) (w_aside : Value) (w_then : Value) (w_hold : Value) (x_dropped : Int32) (w_acts : Value) (w_guarded : Value) (w_train : Value) (x_trolleyEnd : Int32) (w_feltOf : Value) (w_feltBy : Value) (x_feltMany : Int32) (w_many : Value) (w_heardOf : Value) (w_heardBy : Value) (x_heardMany : Int32) (w_worth : Value) (x_drawn : Int32) (x_came : Int32) (w_kept : Value) (w_isKept : Value) (w_keptCame : Value) (n_read : Nat) (f_read : Nat → Int32) (f_asked : Nat → Int32) (Post : Int32 → (Int32 × Int32) → Prop) (hg : p_X8_heldT F p1 x_length x_top x_at x_wrong x_isAsked n_read f_read f_asked Post) : MWi l D cT yX8_held cX8_held 3 (some .int) 321 10080 0 0 [.ref h, .int p1] [(h, oX8 w_now (.int x_arches) (.int x_cats) w_text (.int x_typed) w_row (.int x_rowMany) (.int x_thrown) (.ref q_read) (.int x_length) (.int x_top) (.int x_at) (.int x_wrong) w_told w_rule w_otherRule (.int x_ruleSize) (.int x_isAsked) (.ref q_asked) w_undos (.int x_undoMany) w_aside w_then w_hold (.int x_dropped) w_acts w_guarded w_train (.int x_trolleyEnd) w_feltOf w_feltBy (.int x_feltMany) w_many w_heardOf w_heardBy (.int x_heardMany) w_worth (.int x_drawn) (.int x_came) w_kept w_isKept w_keptCame), (q_read, aB cT n_read f_read), (q_asked, aI cT 7 f_asked)] Post (fun (u : Int32 × Int32) => [(h, oX8 w_now (.int x_arches) (.int x_cats) w_text (.int x_typed) w_row (.int x_rowMany) (.int x_thrown) (.ref q_read) (.int x_length) (.int x_top) (.int u.1) (.int u.2) w_told w_rule w_otherRule (.int x_ruleSize) (.int x_isAsked) (.ref q_asked) w_undos (.int x_undoMany) w_aside w_then w_hold (.int x_dropped) w_acts w_guarded w_train (.int x_trolleyEnd) w_feltOf w_feltBy (.int x_feltMany) w_many w_heardOf w_heardBy (.int x_heardMany) w_worth (.int x_drawn) (.int x_came) w_kept w_isKept w_keptCame), (q_read, aB cT n_read f_read), (q_asked, aI cT 7 f_asked)]) := c_X8_held l D cT F (p_X8_thing F 45) (7 * 45) (220 * 45) (c_X8_thing l D cT F 45) h p1 w_now x_arches x_cats w_text x_typed w_row x_rowMany x_thrown q_read x_length x_top x_at x_wrong w_told w_rule w_otherRule x_ruleSize x_isAsked q_asked w_undos x_undoMany w_aside w_then w_hold x_dropped w_acts w_guarded w_train x_trolleyEnd w_feltOf w_feltBy x_feltMany w_many w_heardOf w_heardBy x_heardMany w_worth x_drawn x_came w_kept w_isKept w_keptCame n_read f_read f_asked Post hg
theorem dX8_readRule_0 : decode cX8_readRule 0 = .ok (.aload_n 0, 1) := by decide +kernel
theorem dX8_readRule_1 : decode cX8_readRule 1 = .ok (.bipush 40, 2) := by decide +kernel
theorem dX8_readRule_3 : decode cX8_readRule 3 = .ok (.invokevirtual 147, 3) := by decide +kernel
theorem dX8_readRule_6 : decode cX8_readRule 6 = .ok (.aload_n 0, 1) := by decide +kernel
theorem dX8_readRule_7 : decode cX8_readRule 7 = .ok (.iconst 0, 1) := by decide +kernel
theorem dX8_readRule_8 : decode cX8_readRule 8 = .ok (.putfield 179, 3) := by decide +kernel
theorem dX8_readRule_11 : decode cX8_readRule 11 = .ok (.aload_n 0, 1) := by decide +kernel
theorem dX8_readRule_12 : decode cX8_readRule 12 = .ok (.getfield 105, 3) := by decide +kernel
theorem dX8_readRule_15 : decode cX8_readRule 15 = .ok (.ifCond .le 9, 3) := by decide +kernel
theorem dX8_readRule_18 : decode cX8_readRule 18 = .ok (.aload_n 0, 1) := by decide +kernel
theorem dX8_readRule_19 : decode cX8_readRule 19 = .ok (.iconst 0, 1) := by decide +kernel
theorem dX8_readRule_20 : decode cX8_readRule 20 = .ok (.invokevirtual 166, 3) := by decide +kernel
theorem dX8_readRule_23 : decode cX8_readRule 23 = .ok (.pop, 1) := by decide +kernel
theorem dX8_readRule_24 : decode cX8_readRule 24 = .ok (.aload_n 0, 1) := by decide +kernel
theorem dX8_readRule_25 : decode cX8_readRule 25 = .ok (.invokevirtual 150, 3) := by decide +kernel
theorem dX8_readRule_28 : decode cX8_readRule 28 = .ok (.ireturn, 1) := by decide +kernel
def p_X8_readRule_24 (F : Nat) (u_3 : (Int32 × Int32 × Int32 × Int32 × Int32)) (Post : Int32 → (Int32 × Int32 × Int32 × Int32 × Int32 × Int32) → Prop) (x_at_24 : Int32) (x_wrong_24 : Int32) : Prop := (p_X8_wasRight F u_3.2.1 x_at_24 x_wrong_24 (fun (r_25 : Int32) (u_25 : Int32) => ((r_25 = 0 ∨ r_25 = 1) ∧ (Post r_25 (u_3.1, u_3.2.1, u_3.2.2.1, x_at_24, u_25, (0 : Int32))))))
def p_X8_readRule (F : Nat) (x_typed : Int32) (f_text : Nat → Int32) (f_asked : Nat → Int32) (Post : Int32 → (Int32 × Int32 × Int32 × Int32 × Int32 × Int32) → Prop) : Prop := (p_X8_beginText F (40 : Int32) x_typed (fun (u_3 : (Int32 × Int32 × Int32 × Int32 × Int32)) => ((u_3.2.1 ≤ 0 → (p_X8_readRule_24 F u_3 Post u_3.2.2.2.1 u_3.2.2.2.2)) ∧ (¬ u_3.2.1 ≤ 0 → (p_X8_heldT F (0 : Int32) u_3.2.1 u_3.2.2.1 u_3.2.2.2.1 u_3.2.2.2.2 (0 : Int32) 80 f_text f_asked (fun (r_20 : Int32) (u_20 : (Int32 × Int32)) => (p_X8_readRule_24 F u_3 Post u_20.1 u_20.2)))))))
set_option maxHeartbeats 4000000 in
set_option maxRecDepth 100000 in
theorem c_X8_readRule (l : Launch) (D : va_G) (cT : Nat → ClassId) (F : Nat) (h : Nat) (w_now : Value) (x_arches : Int32) (x_cats : Int32) (q_text : Nat) (x_typed : Int32) (w_row : Value) (x_rowMany : Int32) (x_thrown : Int32) (w_read : Value) (x_length : Int32) (x_top : Int32) (x_at : Int32) (x_wrong : Int32) (w_told : Value) (w_rule : Value) (w_otherRule : Value) (x_ruleSize : Int32) (x_isAsked : Int32) (q_asked : Nat) (w_undos : Value) (x_undoMany : Int32) (w_aside : Value) (w_then : Value) (w_hold : Value) (x_dropped : Int32) (w_acts : Value) (w_guarded : Value) (w_train : Value) (x_trolleyEnd : Int32) (w_feltOf : Value) (w_feltBy : Value) (x_feltMany : Int32) (w_many : Value) (w_heardOf : Value) (w_heardBy : Value) (x_heardMany : Int32) (w_worth : Value) (x_drawn : Int32) (x_came : Int32) (w_kept : Value) (w_isKept : Value) (w_keptCame : Value) (f_text : Nat → Int32) (f_asked : Nat → Int32) (Post : Int32 → (Int32 × Int32 × Int32 × Int32 × Int32 × Int32) → Prop) (hg : p_X8_readRule F x_typed f_text f_asked Post) : MWi l D cT yX8_readRule cX8_readRule 1 (some .boolean) 322 10102 0 0 [.ref h] [(h, oX8 w_now (.int x_arches) (.int x_cats) (.ref q_text) (.int x_typed) w_row (.int x_rowMany) (.int x_thrown) w_read (.int x_length) (.int x_top) (.int x_at) (.int x_wrong) w_told w_rule w_otherRule (.int x_ruleSize) (.int x_isAsked) (.ref q_asked) w_undos (.int x_undoMany) w_aside w_then w_hold (.int x_dropped) w_acts w_guarded w_train (.int x_trolleyEnd) w_feltOf w_feltBy (.int x_feltMany) w_many w_heardOf w_heardBy (.int x_heardMany) w_worth (.int x_drawn) (.int x_came) w_kept w_isKept w_keptCame), (q_text, aB cT 80 f_text), (q_asked, aI cT 7 f_asked)] Post (fun (u : (Int32 × Int32 × Int32 × Int32 × Int32 × Int32)) => [(h, oX8 w_now (.int x_arches) (.int x_cats) (.ref q_text) (.int u.1) w_row (.int x_rowMany) (.int x_thrown) (.ref q_text) (.int u.2.1) (.int u.2.2.1) (.int u.2.2.2.1) (.int u.2.2.2.2.1) w_told w_rule w_otherRule (.int x_ruleSize) (.int u.2.2.2.2.2) (.ref q_asked) w_undos (.int x_undoMany) w_aside w_then w_hold (.int x_dropped) w_acts w_guarded w_train (.int x_trolleyEnd) w_feltOf w_feltBy (.int x_feltMany) w_many w_heardOf w_heardBy (.int x_heardMany) w_worth (.int x_drawn) (.int x_came) w_kept w_isKept w_keptCame), (q_text, aB cT 80 f_text), (q_asked, aI cT 7 f_asked)]) := by
  refine MWi.of (by decide) (Nat.le_of_ble_eq_true rfl) ?_
  intro p e s m below meth c A hA C0 hnm hr hP hD ls hl
  have hl : lv_has ls 1 [(0, .ref h)] := hl
  have hx := C0.x
  have hb := C0.b
  have hS : va_S A s.heap s.heap [] := va_S.rf
  have hP : va_P D cls9 [(h, oX8 w_now (.int x_arches) (.int x_cats) (.ref q_text) (.int x_typed) w_row (.int x_rowMany) (.int x_thrown) w_read (.int x_length) (.int x_top) (.int x_at) (.int x_wrong) w_told w_rule w_otherRule (.int x_ruleSize) (.int x_isAsked) (.ref q_asked) w_undos (.int x_undoMany) w_aside w_then w_hold (.int x_dropped) w_acts w_guarded w_train (.int x_trolleyEnd) w_feltOf w_feltBy (.int x_feltMany) w_many w_heardOf w_heardBy (.int x_heardMany) w_worth (.int x_drawn) (.int x_came) w_kept w_isKept w_keptCame), (q_text, aB cT 80 f_text), (q_asked, aI cT 7 f_asked)] s.heap := hP
  have hD : va_D A [(h, oX8 w_now (.int x_arches) (.int x_cats) (.ref q_text) (.int x_typed) w_row (.int x_rowMany) (.int x_thrown) w_read (.int x_length) (.int x_top) (.int x_at) (.int x_wrong) w_told w_rule w_otherRule (.int x_ruleSize) (.int x_isAsked) (.ref q_asked) w_undos (.int x_undoMany) w_aside w_then w_hold (.int x_dropped) w_acts w_guarded w_train (.int x_trolleyEnd) w_feltOf w_feltBy (.int x_feltMany) w_many w_heardOf w_heardBy (.int x_heardMany) w_worth (.int x_drawn) (.int x_came) w_kept w_isKept w_keptCame), (q_text, aB cT 80 f_text), (q_asked, aI cT 7 f_asked)] := hD
  have L24 : ∀ (u_3 : (Int32 × Int32 × Int32 × Int32 × Int32)) (x_at_24 : Int32) (x_wrong_24 : Int32) (H : Heap) (locs : List Loc) (ls : Array Slot), p_X8_readRule_24 F u_3 Post x_at_24 x_wrong_24 → va_P D cls9 [(h, oX8 w_now (.int x_arches) (.int x_cats) (.ref q_text) (.int u_3.1) w_row (.int x_rowMany) (.int x_thrown) (.ref q_text) (.int u_3.2.1) (.int u_3.2.2.1) (.int x_at_24) (.int x_wrong_24) w_told w_rule w_otherRule (.int x_ruleSize) (.int (0 : Int32)) (.ref q_asked) w_undos (.int x_undoMany) w_aside w_then w_hold (.int x_dropped) w_acts w_guarded w_train (.int x_trolleyEnd) w_feltOf w_feltBy (.int x_feltMany) w_many w_heardOf w_heardBy (.int x_heardMany) w_worth (.int x_drawn) (.int x_came) w_kept w_isKept w_keptCame), (q_text, aB cT 80 f_text), (q_asked, aI cT 7 f_asked)] H → va_D A [(h, oX8 w_now (.int x_arches) (.int x_cats) (.ref q_text) (.int u_3.1) w_row (.int x_rowMany) (.int x_thrown) (.ref q_text) (.int u_3.2.1) (.int u_3.2.2.1) (.int x_at_24) (.int x_wrong_24) w_told w_rule w_otherRule (.int x_ruleSize) (.int (0 : Int32)) (.ref q_asked) w_undos (.int x_undoMany) w_aside w_then w_hold (.int x_dropped) w_acts w_guarded w_train (.int x_trolleyEnd) w_feltOf w_feltBy (.int x_feltMany) w_many w_heardOf w_heardBy (.int x_heardMany) w_worth (.int x_drawn) (.int x_came) w_kept w_isKept w_keptCame), (q_text, aB cT 80 f_text), (q_asked, aI cT 7 f_asked)] → va_S A s.heap H locs → lv_has ls 1 [(0, .ref h)] → W p l e (rmO 322 10102 0 0) s m ([.ref h] : List Value).toArray below meth c H locs 0 0 (MQ below (va_Qi Post (cB D A (fun (u : (Int32 × Int32 × Int32 × Int32 × Int32 × Int32)) => [(h, oX8 w_now (.int x_arches) (.int x_cats) (.ref q_text) (.int u.1) w_row (.int x_rowMany) (.int x_thrown) (.ref q_text) (.int u.2.1) (.int u.2.2.1) (.int u.2.2.2.1) (.int u.2.2.2.2.1) w_told w_rule w_otherRule (.int x_ruleSize) (.int u.2.2.2.2.2) (.ref q_asked) w_undos (.int x_undoMany) w_aside w_then w_hold (.int x_dropped) w_acts w_guarded w_train (.int x_trolleyEnd) w_feltOf w_feltBy (.int x_feltMany) w_many w_heardOf w_heardBy (.int x_heardMany) w_worth (.int x_drawn) (.int x_came) w_kept w_isKept w_keptCame), (q_text, aB cT 80 f_text), (q_asked, aI cT 7 f_asked)])) A) ([.ref h] : List Value).toArray s 0 0 A) (F0 m 24 ls []) := by
    intro u_3 x_at_24 x_wrong_24 H locs ls hg hP hD hS hl
    unfold p_X8_readRule_24 at hg
    refine lv_aload_n hx hb dX8_readRule_24 rfl (lv_at hl 0 rfl) ?_
    refine k_Vi (rest := []) (wr := [(q_text, aB cT 80 f_text), (q_asked, aI cT 7 f_asked)]) (w2 := fun u_25 => [(q_text, aB cT 80 f_text), (q_asked, aI cT 7 f_asked), (h, oX8 w_now (.int x_arches) (.int x_cats) (.ref q_text) (.int u_3.1) w_row (.int x_rowMany) (.int x_thrown) (.ref q_text) (.int u_3.2.1) (.int u_3.2.2.1) (.int x_at_24) (.int u_25) w_told w_rule w_otherRule (.int x_ruleSize) (.int (0 : Int32)) (.ref q_asked) w_undos (.int x_undoMany) w_aside w_then w_hold (.int x_dropped) w_acts w_guarded w_train (.int x_trolleyEnd) w_feltOf w_feltBy (.int x_feltMany) w_many w_heardOf w_heardBy (.int x_heardMany) w_worth (.int x_drawn) (.int x_came) w_kept w_isKept w_keptCame)]) C0 lk_X8_150 (c_X8_wasRight l D cT F h w_now x_arches x_cats (.ref q_text) u_3.1 w_row x_rowMany x_thrown (.ref q_text) u_3.2.1 u_3.2.2.1 x_at_24 x_wrong_24 w_told w_rule w_otherRule x_ruleSize (0 : Int32) (.ref q_asked) w_undos x_undoMany w_aside w_then w_hold x_dropped w_acts w_guarded w_train x_trolleyEnd w_feltOf w_feltBy x_feltMany w_many w_heardOf w_heardBy x_heardMany w_worth x_drawn x_came w_kept w_isKept w_keptCame _ hg) hP hD hS hA [0] [1, 2] (by decide +kernel) rfl rfl (fun _ => rfl) rfl rfl ⟨Nat.le_of_ble_eq_true rfl, Nat.le_of_ble_eq_true rfl⟩ rfl hl.1 rfl (Nat.le_of_ble_eq_true rfl) dX8_readRule_25 ⟨Nat.le_of_ble_eq_true rfl, Nat.le_of_ble_eq_true rfl⟩ ?_
    intro r_25 u_25 H locs hg hP hD hS
    obtain ⟨g_28, hg⟩ := hg
    exact k_zret C0 hr g_28 (u_3.1, u_3.2.1, u_3.2.2.1, x_at_24, u_25, (0 : Int32)) hg (subP hP [2, 0, 1] rfl) (hD.sub [2, 0, 1] (nd2_ok _ (by decide +kernel)) rfl) hS dX8_readRule_28
  unfold p_X8_readRule at hg
  refine lv_aload_n hx hb dX8_readRule_0 rfl (lv_at hl 0 rfl) ?_
  refine lv_bipush (v := (40 : Int32)) hx hb dX8_readRule_1 (by decide) ?_
  refine k_Vv (rest := []) (wr := [(q_text, aB cT 80 f_text), (q_asked, aI cT 7 f_asked)]) (w2 := fun u_3 => [(q_text, aB cT 80 f_text), (q_asked, aI cT 7 f_asked), (h, oX8 w_now (.int x_arches) (.int x_cats) (.ref q_text) (.int u_3.1) w_row (.int x_rowMany) (.int x_thrown) (.ref q_text) (.int u_3.2.1) (.int u_3.2.2.1) (.int u_3.2.2.2.1) (.int u_3.2.2.2.2) w_told w_rule w_otherRule (.int x_ruleSize) (.int x_isAsked) (.ref q_asked) w_undos (.int x_undoMany) w_aside w_then w_hold (.int x_dropped) w_acts w_guarded w_train (.int x_trolleyEnd) w_feltOf w_feltBy (.int x_feltMany) w_many w_heardOf w_heardBy (.int x_heardMany) w_worth (.int x_drawn) (.int x_came) w_kept w_isKept w_keptCame)]) C0 lk_X8_147 (c_X8_beginText l D cT F h (40 : Int32) w_now x_arches x_cats q_text x_typed w_row x_rowMany x_thrown w_read x_length x_top x_at x_wrong w_told w_rule w_otherRule x_ruleSize x_isAsked (.ref q_asked) w_undos x_undoMany w_aside w_then w_hold x_dropped w_acts w_guarded w_train x_trolleyEnd w_feltOf w_feltBy x_feltMany w_many w_heardOf w_heardBy x_heardMany w_worth x_drawn x_came w_kept w_isKept w_keptCame _ hg) hP hD hS hA [0] [1, 2] (by decide +kernel) rfl rfl (fun _ => rfl) rfl rfl ⟨Nat.le_of_ble_eq_true rfl, Nat.le_of_ble_eq_true rfl⟩ rfl hl.1 rfl (Nat.le_of_ble_eq_true rfl) dX8_readRule_3 ⟨Nat.le_of_ble_eq_true rfl, Nat.le_of_ble_eq_true rfl⟩ ?_
  intro u_3 H locs hg hP hD hS
  refine lv_aload_n hx hb dX8_readRule_6 rfl (lv_at hl 0 rfl) ?_
  refine lv_iconst (v := (0 : Int32)) hx hb dX8_readRule_7 (by decide) ?_
  refine pf_X8_179 C0 hP hD hS 2 rfl (Nat.le_of_ble_eq_true rfl) (Or.inl rfl) (ws2 := [(q_text, aB cT 80 f_text), (q_asked, aI cT 7 f_asked), (h, oX8 w_now (.int x_arches) (.int x_cats) (.ref q_text) (.int u_3.1) w_row (.int x_rowMany) (.int x_thrown) (.ref q_text) (.int u_3.2.1) (.int u_3.2.2.1) (.int u_3.2.2.2.1) (.int u_3.2.2.2.2) w_told w_rule w_otherRule (.int x_ruleSize) (.int (0 : Int32)) (.ref q_asked) w_undos (.int x_undoMany) w_aside w_then w_hold (.int x_dropped) w_acts w_guarded w_train (.int x_trolleyEnd) w_feltOf w_feltBy (.int x_feltMany) w_many w_heardOf w_heardBy (.int x_heardMany) w_worth (.int x_drawn) (.int x_came) w_kept w_isKept w_keptCame)]) rfl dX8_readRule_8 (fun H locs hP hD hS => ?_)
  refine lv_aload_n hx hb dX8_readRule_11 rfl (lv_at hl 0 rfl) ?_
  refine gf_X8_105 C0 hP 2 rfl rfl dX8_readRule_12 ?_
  refine lv_if_le (tgt := 24) hx hb dX8_readRule_15 (by decide) (fun c_15 => ?_) (fun c_15 => ?_)
  · have hg := hg.1 c_15
    exact L24 u_3 u_3.2.2.2.1 u_3.2.2.2.2 _ _ _ hg (subP hP [2, 0, 1] rfl) (hD.sub [2, 0, 1] (nd2_ok _ (by decide +kernel)) rfl) hS hl
  have hg := hg.2 c_15
  refine lv_aload_n hx hb dX8_readRule_18 rfl (lv_at hl 0 rfl) ?_
  refine lv_iconst (v := (0 : Int32)) hx hb dX8_readRule_19 (by decide) ?_
  refine k_Vi (rest := []) (wr := []) (w2 := fun u_20 => [(h, oX8 w_now (.int x_arches) (.int x_cats) (.ref q_text) (.int u_3.1) w_row (.int x_rowMany) (.int x_thrown) (.ref q_text) (.int u_3.2.1) (.int u_3.2.2.1) (.int u_20.1) (.int u_20.2) w_told w_rule w_otherRule (.int x_ruleSize) (.int (0 : Int32)) (.ref q_asked) w_undos (.int x_undoMany) w_aside w_then w_hold (.int x_dropped) w_acts w_guarded w_train (.int x_trolleyEnd) w_feltOf w_feltBy (.int x_feltMany) w_many w_heardOf w_heardBy (.int x_heardMany) w_worth (.int x_drawn) (.int x_came) w_kept w_isKept w_keptCame), (q_text, aB cT 80 f_text), (q_asked, aI cT 7 f_asked)]) C0 lk_X8_166 (c_X8_heldT l D cT F h (0 : Int32) w_now x_arches x_cats (.ref q_text) u_3.1 w_row x_rowMany x_thrown q_text u_3.2.1 u_3.2.2.1 u_3.2.2.2.1 u_3.2.2.2.2 w_told w_rule w_otherRule x_ruleSize (0 : Int32) q_asked w_undos x_undoMany w_aside w_then w_hold x_dropped w_acts w_guarded w_train x_trolleyEnd w_feltOf w_feltBy x_feltMany w_many w_heardOf w_heardBy x_heardMany w_worth x_drawn x_came w_kept w_isKept w_keptCame 80 f_text f_asked _ hg) hP hD hS hA [2, 0, 1] [] (by decide +kernel) rfl rfl (fun _ => rfl) rfl rfl ⟨Nat.le_of_ble_eq_true rfl, Nat.le_of_ble_eq_true rfl⟩ rfl hl.1 rfl (Nat.le_of_ble_eq_true rfl) dX8_readRule_20 ⟨Nat.le_of_ble_eq_true rfl, Nat.le_of_ble_eq_true rfl⟩ ?_
  intro r_20 u_20 H locs hg hP hD hS
  refine lv_pop hx hb dX8_readRule_23 rfl ?_
  exact L24 u_3 u_20.1 u_20.2 _ _ _ hg hP hD hS hl
theorem dX8_rule_0 : decode cX8_rule 0 = .ok (.aload_n 0, 1) := by decide +kernel
theorem dX8_rule_1 : decode cX8_rule 1 = .ok (.iconst 0, 1) := by decide +kernel
theorem dX8_rule_2 : decode cX8_rule 2 = .ok (.putfield 82, 3) := by decide +kernel
theorem dX8_rule_5 : decode cX8_rule 5 = .ok (.aload_n 0, 1) := by decide +kernel
theorem dX8_rule_6 : decode cX8_rule 6 = .ok (.getfield 99, 3) := by decide +kernel
theorem dX8_rule_9 : decode cX8_rule 9 = .ok (.istore_n 1, 1) := by decide +kernel
theorem dX8_rule_10 : decode cX8_rule 10 = .ok (.aload_n 0, 1) := by decide +kernel
theorem dX8_rule_11 : decode cX8_rule 11 = .ok (.invokevirtual 183, 3) := by decide +kernel
theorem dX8_rule_14 : decode cX8_rule 14 = .ok (.ifCond .ne 10, 3) := by decide +kernel
theorem dX8_rule_17 : decode cX8_rule 17 = .ok (.iconst (-1), 1) := by decide +kernel
theorem dX8_rule_18 : decode cX8_rule 18 = .ok (.aload_n 0, 1) := by decide +kernel
theorem dX8_rule_19 : decode cX8_rule 19 = .ok (.getfield 114, 3) := by decide +kernel
theorem dX8_rule_22 : decode cX8_rule 22 = .ok (.isub, 1) := by decide +kernel
theorem dX8_rule_23 : decode cX8_rule 23 = .ok (.ireturn, 1) := by decide +kernel
theorem dX8_rule_24 : decode cX8_rule 24 = .ok (.iconst 0, 1) := by decide +kernel
theorem dX8_rule_25 : decode cX8_rule 25 = .ok (.istore_n 2, 1) := by decide +kernel
theorem dX8_rule_26 : decode cX8_rule 26 = .ok (.iload_n 2, 1) := by decide +kernel
theorem dX8_rule_27 : decode cX8_rule 27 = .ok (.iload_n 1, 1) := by decide +kernel
theorem dX8_rule_28 : decode cX8_rule 28 = .ok (.if_icmp .ge 21, 3) := by decide +kernel
theorem dX8_rule_31 : decode cX8_rule 31 = .ok (.aload_n 0, 1) := by decide +kernel
theorem dX8_rule_32 : decode cX8_rule 32 = .ok (.getfield 24, 3) := by decide +kernel
theorem dX8_rule_35 : decode cX8_rule 35 = .ok (.iload_n 2, 1) := by decide +kernel
theorem dX8_rule_36 : decode cX8_rule 36 = .ok (.aload_n 0, 1) := by decide +kernel
theorem dX8_rule_37 : decode cX8_rule 37 = .ok (.getfield 13, 3) := by decide +kernel
theorem dX8_rule_40 : decode cX8_rule 40 = .ok (.iload_n 2, 1) := by decide +kernel
theorem dX8_rule_41 : decode cX8_rule 41 = .ok (.baload, 1) := by decide +kernel
theorem dX8_rule_42 : decode cX8_rule 42 = .ok (.bastore, 1) := by decide +kernel
theorem dX8_rule_43 : decode cX8_rule 43 = .ok (.iinc 2 1, 3) := by decide +kernel
theorem dX8_rule_46 : decode cX8_rule 46 = .ok (.goto (-20), 3) := by decide +kernel
theorem dX8_rule_49 : decode cX8_rule 49 = .ok (.aload_n 0, 1) := by decide +kernel
theorem dX8_rule_50 : decode cX8_rule 50 = .ok (.iload_n 1, 1) := by decide +kernel
theorem dX8_rule_51 : decode cX8_rule 51 = .ok (.putfield 186, 3) := by decide +kernel
theorem dX8_rule_54 : decode cX8_rule 54 = .ok (.iconst 0, 1) := by decide +kernel
theorem dX8_rule_55 : decode cX8_rule 55 = .ok (.ireturn, 1) := by decide +kernel
noncomputable def p_X8_rule_26 (F : Nat) (x_typed : Int32) (f_text : Nat → Int32) (u_11 : (Int32 × Int32 × Int32 × Int32 × Int32 × Int32)) (Post : Int32 → (Int32 × Int32 × Int32 × Int32 × Int32 × Int32 × Int32 × Int32 × (Nat → Int32)) → Prop) (n : Nat) : Int32 → (Nat → Int32) → Prop := Nat.rec (motive := fun _ => Int32 → (Nat → Int32) → Prop) (fun _ _ => False) (fun _ k26 => fun (y2_26 : Int32) (f_rule_26 : Nat → Int32) => ((x_typed ≤ y2_26 → (Post (0 : Int32) (u_11.1, (0 : Int32), u_11.2.1, u_11.2.2.1, u_11.2.2.2.1, u_11.2.2.2.2.1, x_typed, u_11.2.2.2.2.2, f_rule_26))) ∧ (¬ x_typed ≤ y2_26 → (vp_in y2_26 80 ∧ (vp_in y2_26 40 ∧ (k26 (y2_26 + (1 : Int32)) (upd f_rule_26 y2_26.toNatClampNeg (vp_nar .byte (f_text y2_26.toNatClampNeg))))))))) n
theorem p_X8_rule_26_s (F : Nat) (x_typed : Int32) (f_text : Nat → Int32) (u_11 : (Int32 × Int32 × Int32 × Int32 × Int32 × Int32)) (Post : Int32 → (Int32 × Int32 × Int32 × Int32 × Int32 × Int32 × Int32 × Int32 × (Nat → Int32)) → Prop) (n : Nat) (y2_26 : Int32) (f_rule_26 : Nat → Int32) : p_X8_rule_26 F x_typed f_text u_11 Post (n + 1) y2_26 f_rule_26 = ((x_typed ≤ y2_26 → (Post (0 : Int32) (u_11.1, (0 : Int32), u_11.2.1, u_11.2.2.1, u_11.2.2.2.1, u_11.2.2.2.2.1, x_typed, u_11.2.2.2.2.2, f_rule_26))) ∧ (¬ x_typed ≤ y2_26 → (vp_in y2_26 80 ∧ (vp_in y2_26 40 ∧ ((p_X8_rule_26 F x_typed f_text u_11 Post n) (y2_26 + (1 : Int32)) (upd f_rule_26 y2_26.toNatClampNeg (vp_nar .byte (f_text y2_26.toNatClampNeg)))))))) := rfl
def p_X8_rule (F : Nat) (x_typed : Int32) (x_ruleSize : Int32) (f_text : Nat → Int32) (f_asked : Nat → Int32) (f_rule : Nat → Int32) (Post : Int32 → (Int32 × Int32 × Int32 × Int32 × Int32 × Int32 × Int32 × Int32 × (Nat → Int32)) → Prop) : Prop := (p_X8_readRule F x_typed f_text f_asked (fun (r_11 : Int32) (u_11 : (Int32 × Int32 × Int32 × Int32 × Int32 × Int32)) => ((¬ r_11 = 0 → (p_X8_rule_26 F x_typed f_text u_11 Post F (0 : Int32) f_rule)) ∧ (r_11 = 0 → (Post ((-1 : Int32) - u_11.2.2.2.2.1) (u_11.1, (0 : Int32), u_11.2.1, u_11.2.2.1, u_11.2.2.2.1, u_11.2.2.2.2.1, x_ruleSize, u_11.2.2.2.2.2, f_rule))))))
set_option maxHeartbeats 4000000 in
set_option maxRecDepth 100000 in
theorem c_X8_rule (l : Launch) (D : va_G) (cT : Nat → ClassId) (F : Nat) (h : Nat) (w_now : Value) (x_arches : Int32) (x_cats : Int32) (q_text : Nat) (x_typed : Int32) (w_row : Value) (x_rowMany : Int32) (x_thrown : Int32) (w_read : Value) (x_length : Int32) (x_top : Int32) (x_at : Int32) (x_wrong : Int32) (w_told : Value) (q_rule : Nat) (w_otherRule : Value) (x_ruleSize : Int32) (x_isAsked : Int32) (q_asked : Nat) (w_undos : Value) (x_undoMany : Int32) (w_aside : Value) (w_then : Value) (w_hold : Value) (x_dropped : Int32) (w_acts : Value) (w_guarded : Value) (w_train : Value) (x_trolleyEnd : Int32) (w_feltOf : Value) (w_feltBy : Value) (x_feltMany : Int32) (w_many : Value) (w_heardOf : Value) (w_heardBy : Value) (x_heardMany : Int32) (w_worth : Value) (x_drawn : Int32) (x_came : Int32) (w_kept : Value) (w_isKept : Value) (w_keptCame : Value) (f_text : Nat → Int32) (f_asked : Nat → Int32) (f_rule : Nat → Int32) (Post : Int32 → (Int32 × Int32 × Int32 × Int32 × Int32 × Int32 × Int32 × Int32 × (Nat → Int32)) → Prop) (hg : p_X8_rule F x_typed x_ruleSize f_text f_asked f_rule Post) : MWi l D cT yX8_rule cX8_rule 3 (some .int) 323 10122 0 0 [.ref h] [(h, oX8 w_now (.int x_arches) (.int x_cats) (.ref q_text) (.int x_typed) w_row (.int x_rowMany) (.int x_thrown) w_read (.int x_length) (.int x_top) (.int x_at) (.int x_wrong) w_told (.ref q_rule) w_otherRule (.int x_ruleSize) (.int x_isAsked) (.ref q_asked) w_undos (.int x_undoMany) w_aside w_then w_hold (.int x_dropped) w_acts w_guarded w_train (.int x_trolleyEnd) w_feltOf w_feltBy (.int x_feltMany) w_many w_heardOf w_heardBy (.int x_heardMany) w_worth (.int x_drawn) (.int x_came) w_kept w_isKept w_keptCame), (q_text, aB cT 80 f_text), (q_asked, aI cT 7 f_asked), (q_rule, aB cT 40 f_rule)] Post (fun (u : (Int32 × Int32 × Int32 × Int32 × Int32 × Int32 × Int32 × Int32 × (Nat → Int32))) => [(h, oX8 w_now (.int x_arches) (.int x_cats) (.ref q_text) (.int u.1) w_row (.int x_rowMany) (.int u.2.1) (.ref q_text) (.int u.2.2.1) (.int u.2.2.2.1) (.int u.2.2.2.2.1) (.int u.2.2.2.2.2.1) w_told (.ref q_rule) w_otherRule (.int u.2.2.2.2.2.2.1) (.int u.2.2.2.2.2.2.2.1) (.ref q_asked) w_undos (.int x_undoMany) w_aside w_then w_hold (.int x_dropped) w_acts w_guarded w_train (.int x_trolleyEnd) w_feltOf w_feltBy (.int x_feltMany) w_many w_heardOf w_heardBy (.int x_heardMany) w_worth (.int x_drawn) (.int x_came) w_kept w_isKept w_keptCame), (q_text, aB cT 80 f_text), (q_asked, aI cT 7 f_asked), (q_rule, aB cT 40 u.2.2.2.2.2.2.2.2)]) := by
  refine MWi.of (by decide) (Nat.le_of_ble_eq_true rfl) ?_
  intro p e s m below meth c A hA C0 hnm hr hP hD ls hl
  have hl : lv_has ls 3 [(0, .ref h)] := hl
  have hx := C0.x
  have hb := C0.b
  have hS : va_S A s.heap s.heap [] := va_S.rf
  have hP : va_P D cls9 [(h, oX8 w_now (.int x_arches) (.int x_cats) (.ref q_text) (.int x_typed) w_row (.int x_rowMany) (.int x_thrown) w_read (.int x_length) (.int x_top) (.int x_at) (.int x_wrong) w_told (.ref q_rule) w_otherRule (.int x_ruleSize) (.int x_isAsked) (.ref q_asked) w_undos (.int x_undoMany) w_aside w_then w_hold (.int x_dropped) w_acts w_guarded w_train (.int x_trolleyEnd) w_feltOf w_feltBy (.int x_feltMany) w_many w_heardOf w_heardBy (.int x_heardMany) w_worth (.int x_drawn) (.int x_came) w_kept w_isKept w_keptCame), (q_text, aB cT 80 f_text), (q_asked, aI cT 7 f_asked), (q_rule, aB cT 40 f_rule)] s.heap := hP
  have hD : va_D A [(h, oX8 w_now (.int x_arches) (.int x_cats) (.ref q_text) (.int x_typed) w_row (.int x_rowMany) (.int x_thrown) w_read (.int x_length) (.int x_top) (.int x_at) (.int x_wrong) w_told (.ref q_rule) w_otherRule (.int x_ruleSize) (.int x_isAsked) (.ref q_asked) w_undos (.int x_undoMany) w_aside w_then w_hold (.int x_dropped) w_acts w_guarded w_train (.int x_trolleyEnd) w_feltOf w_feltBy (.int x_feltMany) w_many w_heardOf w_heardBy (.int x_heardMany) w_worth (.int x_drawn) (.int x_came) w_kept w_isKept w_keptCame), (q_text, aB cT 80 f_text), (q_asked, aI cT 7 f_asked), (q_rule, aB cT 40 f_rule)] := hD
  have L26 : ∀ (u_11 : (Int32 × Int32 × Int32 × Int32 × Int32 × Int32)) (n26 : Nat) (y2_26 : Int32) (f_rule_26 : Nat → Int32) (H : Heap) (locs : List Loc) (ls : Array Slot), p_X8_rule_26 F x_typed f_text u_11 Post n26 y2_26 f_rule_26 → va_P D cls9 [(h, oX8 w_now (.int x_arches) (.int x_cats) (.ref q_text) (.int u_11.1) w_row (.int x_rowMany) (.int (0 : Int32)) (.ref q_text) (.int u_11.2.1) (.int u_11.2.2.1) (.int u_11.2.2.2.1) (.int u_11.2.2.2.2.1) w_told (.ref q_rule) w_otherRule (.int x_ruleSize) (.int u_11.2.2.2.2.2) (.ref q_asked) w_undos (.int x_undoMany) w_aside w_then w_hold (.int x_dropped) w_acts w_guarded w_train (.int x_trolleyEnd) w_feltOf w_feltBy (.int x_feltMany) w_many w_heardOf w_heardBy (.int x_heardMany) w_worth (.int x_drawn) (.int x_came) w_kept w_isKept w_keptCame), (q_text, aB cT 80 f_text), (q_asked, aI cT 7 f_asked), (q_rule, aB cT 40 f_rule_26)] H → va_D A [(h, oX8 w_now (.int x_arches) (.int x_cats) (.ref q_text) (.int u_11.1) w_row (.int x_rowMany) (.int (0 : Int32)) (.ref q_text) (.int u_11.2.1) (.int u_11.2.2.1) (.int u_11.2.2.2.1) (.int u_11.2.2.2.2.1) w_told (.ref q_rule) w_otherRule (.int x_ruleSize) (.int u_11.2.2.2.2.2) (.ref q_asked) w_undos (.int x_undoMany) w_aside w_then w_hold (.int x_dropped) w_acts w_guarded w_train (.int x_trolleyEnd) w_feltOf w_feltBy (.int x_feltMany) w_many w_heardOf w_heardBy (.int x_heardMany) w_worth (.int x_drawn) (.int x_came) w_kept w_isKept w_keptCame), (q_text, aB cT 80 f_text), (q_asked, aI cT 7 f_asked), (q_rule, aB cT 40 f_rule_26)] → va_S A s.heap H locs → lv_has ls 3 [(0, .ref h), (1, .int x_typed), (2, .int y2_26)] → W p l e (rmO 323 10122 0 0) s m ([.ref h] : List Value).toArray below meth c H locs 0 0 (MQ below (va_Qi Post (cB D A (fun (u : (Int32 × Int32 × Int32 × Int32 × Int32 × Int32 × Int32 × Int32 × (Nat → Int32))) => [(h, oX8 w_now (.int x_arches) (.int x_cats) (.ref q_text) (.int u.1) w_row (.int x_rowMany) (.int u.2.1) (.ref q_text) (.int u.2.2.1) (.int u.2.2.2.1) (.int u.2.2.2.2.1) (.int u.2.2.2.2.2.1) w_told (.ref q_rule) w_otherRule (.int u.2.2.2.2.2.2.1) (.int u.2.2.2.2.2.2.2.1) (.ref q_asked) w_undos (.int x_undoMany) w_aside w_then w_hold (.int x_dropped) w_acts w_guarded w_train (.int x_trolleyEnd) w_feltOf w_feltBy (.int x_feltMany) w_many w_heardOf w_heardBy (.int x_heardMany) w_worth (.int x_drawn) (.int x_came) w_kept w_isKept w_keptCame), (q_text, aB cT 80 f_text), (q_asked, aI cT 7 f_asked), (q_rule, aB cT 40 u.2.2.2.2.2.2.2.2)])) A) ([.ref h] : List Value).toArray s 0 0 A) (F0 m 26 ls []) := by
    intro u_11 n26
    induction n26 with
    | zero =>
      intro y2_26 f_rule_26 H locs ls hg hP hD hS hl
      exact False.elim hg
    | succ n26 ih26 =>
      intro y2_26 f_rule_26 H locs ls hg hP hD hS hl
      rw [p_X8_rule_26_s] at hg
      refine lv_iload_n hx hb dX8_rule_26 rfl (lv_at hl 2 rfl) ?_
      refine lv_iload_n hx hb dX8_rule_27 rfl (lv_at hl 1 rfl) ?_
      refine lv_icmp_ge (tgt := 49) hx hb dX8_rule_28 (by decide) (fun c_28 => ?_) (fun c_28 => ?_)
      · have hg := hg.1 c_28
        refine lv_aload_n hx hb dX8_rule_49 rfl (lv_at hl 0 rfl) ?_
        refine lv_iload_n hx hb dX8_rule_50 rfl (lv_at hl 1 rfl) ?_
        refine pf_X8_186 C0 hP hD hS 0 rfl (Nat.le_of_ble_eq_true rfl) (ws2 := [(h, oX8 w_now (.int x_arches) (.int x_cats) (.ref q_text) (.int u_11.1) w_row (.int x_rowMany) (.int (0 : Int32)) (.ref q_text) (.int u_11.2.1) (.int u_11.2.2.1) (.int u_11.2.2.2.1) (.int u_11.2.2.2.2.1) w_told (.ref q_rule) w_otherRule (.int x_typed) (.int u_11.2.2.2.2.2) (.ref q_asked) w_undos (.int x_undoMany) w_aside w_then w_hold (.int x_dropped) w_acts w_guarded w_train (.int x_trolleyEnd) w_feltOf w_feltBy (.int x_feltMany) w_many w_heardOf w_heardBy (.int x_heardMany) w_worth (.int x_drawn) (.int x_came) w_kept w_isKept w_keptCame), (q_text, aB cT 80 f_text), (q_asked, aI cT 7 f_asked), (q_rule, aB cT 40 f_rule_26)]) rfl dX8_rule_51 (fun H locs hP hD hS => ?_)
        refine lv_iconst (v := (0 : Int32)) hx hb dX8_rule_54 (by decide) ?_
        exact k_iret C0 hr (u_11.1, (0 : Int32), u_11.2.1, u_11.2.2.1, u_11.2.2.2.1, u_11.2.2.2.2.1, x_typed, u_11.2.2.2.2.2, f_rule_26) hg hP hD hS dX8_rule_55
      have hg := hg.2 c_28
      refine lv_aload_n hx hb dX8_rule_31 rfl (lv_at hl 0 rfl) ?_
      refine gf_X8_24 C0 hP 0 rfl rfl dX8_rule_32 ?_
      refine lv_iload_n hx hb dX8_rule_35 rfl (lv_at hl 2 rfl) ?_
      refine lv_aload_n hx hb dX8_rule_36 rfl (lv_at hl 0 rfl) ?_
      refine gf_X8_13 C0 hP 0 rfl rfl dX8_rule_37 ?_
      refine lv_iload_n hx hb dX8_rule_40 rfl (lv_at hl 2 rfl) ?_
      obtain ⟨g_41, hg⟩ := hg
      refine k_bald C0 hP 1 rfl g_41 dX8_rule_41 ?_
      obtain ⟨g_42, hg⟩ := hg
      refine k_bast C0 hP hD hS 3 rfl g_42 (ws' := [(h, oX8 w_now (.int x_arches) (.int x_cats) (.ref q_text) (.int u_11.1) w_row (.int x_rowMany) (.int (0 : Int32)) (.ref q_text) (.int u_11.2.1) (.int u_11.2.2.1) (.int u_11.2.2.2.1) (.int u_11.2.2.2.2.1) w_told (.ref q_rule) w_otherRule (.int x_ruleSize) (.int u_11.2.2.2.2.2) (.ref q_asked) w_undos (.int x_undoMany) w_aside w_then w_hold (.int x_dropped) w_acts w_guarded w_train (.int x_trolleyEnd) w_feltOf w_feltBy (.int x_feltMany) w_many w_heardOf w_heardBy (.int x_heardMany) w_worth (.int x_drawn) (.int x_came) w_kept w_isKept w_keptCame), (q_text, aB cT 80 f_text), (q_asked, aI cT 7 f_asked), (q_rule, aB cT 40 (upd f_rule_26 y2_26.toNatClampNeg (vp_nar .byte (f_text y2_26.toNatClampNeg))))]) rfl dX8_rule_42 (fun H locs hP hD hS => ?_)
      refine lv_iinc (v := (y2_26 + (1 : Int32))) (lv' := [(2, .int (y2_26 + (1 : Int32))), (0, .ref h), (1, .int x_typed)]) hx hb dX8_rule_43 hl (k := 2) rfl rfl (by decide) rfl (fun ls hl => ?_)
      refine lv_goto (tgt := 26) hx hb dX8_rule_46 (by decide) ?_
      exact ih26 (y2_26 + (1 : Int32)) (upd f_rule_26 y2_26.toNatClampNeg (vp_nar .byte (f_text y2_26.toNatClampNeg))) _ _ _ hg hP hD hS (lv_sub hl [1, 2, 0] rfl)
  unfold p_X8_rule at hg
  refine lv_aload_n hx hb dX8_rule_0 rfl (lv_at hl 0 rfl) ?_
  refine lv_iconst (v := (0 : Int32)) hx hb dX8_rule_1 (by decide) ?_
  refine pf_X8_82 C0 hP hD hS 0 rfl (Nat.le_of_ble_eq_true rfl) (ws2 := [(h, oX8 w_now (.int x_arches) (.int x_cats) (.ref q_text) (.int x_typed) w_row (.int x_rowMany) (.int (0 : Int32)) w_read (.int x_length) (.int x_top) (.int x_at) (.int x_wrong) w_told (.ref q_rule) w_otherRule (.int x_ruleSize) (.int x_isAsked) (.ref q_asked) w_undos (.int x_undoMany) w_aside w_then w_hold (.int x_dropped) w_acts w_guarded w_train (.int x_trolleyEnd) w_feltOf w_feltBy (.int x_feltMany) w_many w_heardOf w_heardBy (.int x_heardMany) w_worth (.int x_drawn) (.int x_came) w_kept w_isKept w_keptCame), (q_text, aB cT 80 f_text), (q_asked, aI cT 7 f_asked), (q_rule, aB cT 40 f_rule)]) rfl dX8_rule_2 (fun H locs hP hD hS => ?_)
  refine lv_aload_n hx hb dX8_rule_5 rfl (lv_at hl 0 rfl) ?_
  refine gf_X8_99 C0 hP 0 rfl rfl dX8_rule_6 ?_
  refine lv_istore_n (lv' := [(1, .int x_typed), (0, .ref h)]) hx hb dX8_rule_9 rfl hl (by decide) rfl (fun ls hl => ?_)
  refine lv_aload_n hx hb dX8_rule_10 rfl (lv_at hl 1 rfl) ?_
  refine k_Vi (rest := []) (wr := [(q_rule, aB cT 40 f_rule)]) (w2 := fun u_11 => [(q_rule, aB cT 40 f_rule), (h, oX8 w_now (.int x_arches) (.int x_cats) (.ref q_text) (.int u_11.1) w_row (.int x_rowMany) (.int (0 : Int32)) (.ref q_text) (.int u_11.2.1) (.int u_11.2.2.1) (.int u_11.2.2.2.1) (.int u_11.2.2.2.2.1) w_told (.ref q_rule) w_otherRule (.int x_ruleSize) (.int u_11.2.2.2.2.2) (.ref q_asked) w_undos (.int x_undoMany) w_aside w_then w_hold (.int x_dropped) w_acts w_guarded w_train (.int x_trolleyEnd) w_feltOf w_feltBy (.int x_feltMany) w_many w_heardOf w_heardBy (.int x_heardMany) w_worth (.int x_drawn) (.int x_came) w_kept w_isKept w_keptCame), (q_text, aB cT 80 f_text), (q_asked, aI cT 7 f_asked)]) C0 lk_X8_183 (c_X8_readRule l D cT F h w_now x_arches x_cats q_text x_typed w_row x_rowMany (0 : Int32) w_read x_length x_top x_at x_wrong w_told (.ref q_rule) w_otherRule x_ruleSize x_isAsked q_asked w_undos x_undoMany w_aside w_then w_hold x_dropped w_acts w_guarded w_train x_trolleyEnd w_feltOf w_feltBy x_feltMany w_many w_heardOf w_heardBy x_heardMany w_worth x_drawn x_came w_kept w_isKept w_keptCame f_text f_asked _ hg) hP hD hS hA [0, 1, 2] [3] (by decide +kernel) rfl rfl (fun _ => rfl) rfl rfl ⟨Nat.le_of_ble_eq_true rfl, Nat.le_of_ble_eq_true rfl⟩ rfl hl.1 rfl (Nat.le_of_ble_eq_true rfl) dX8_rule_11 ⟨Nat.le_of_ble_eq_true rfl, Nat.le_of_ble_eq_true rfl⟩ ?_
  intro r_11 u_11 H locs hg hP hD hS
  refine lv_if_ne (tgt := 24) hx hb dX8_rule_14 (by decide) (fun c_14 => ?_) (fun c_14 => ?_)
  · have hg := hg.1 c_14
    refine lv_iconst (v := (0 : Int32)) hx hb dX8_rule_24 (by decide) ?_
    refine lv_istore_n (lv' := [(2, .int (0 : Int32)), (1, .int x_typed), (0, .ref h)]) hx hb dX8_rule_25 rfl hl (by decide) rfl (fun ls hl => ?_)
    exact L26 u_11 F (0 : Int32) f_rule _ _ _ hg (subP hP [1, 2, 3, 0] rfl) (hD.sub [1, 2, 3, 0] (nd2_ok _ (by decide +kernel)) rfl) hS (lv_sub hl [2, 1, 0] rfl)
  have hg := hg.2 c_14
  refine lv_iconst (v := (-1 : Int32)) hx hb dX8_rule_17 (by decide) ?_
  refine lv_aload_n hx hb dX8_rule_18 rfl (lv_at hl 1 rfl) ?_
  refine gf_X8_114 C0 hP 1 rfl rfl dX8_rule_19 ?_
  refine lv_isub hx hb dX8_rule_22 ?_
  exact k_iret C0 hr (u_11.1, (0 : Int32), u_11.2.1, u_11.2.2.1, u_11.2.2.2.1, u_11.2.2.2.2.1, x_ruleSize, u_11.2.2.2.2.2, f_rule) hg (subP hP [1, 2, 3, 0] rfl) (hD.sub [1, 2, 3, 0] (nd2_ok _ (by decide +kernel)) rfl) hS dX8_rule_23
theorem dX8_there_0 : decode cX8_there 0 = .ok (.iconst 0, 1) := by decide +kernel
theorem dX8_there_1 : decode cX8_there 1 = .ok (.istore_n 3, 1) := by decide +kernel
theorem dX8_there_2 : decode cX8_there 2 = .ok (.iconst 0, 1) := by decide +kernel
theorem dX8_there_3 : decode cX8_there 3 = .ok (.istore 4, 2) := by decide +kernel
theorem dX8_there_5 : decode cX8_there 5 = .ok (.iload 4, 2) := by decide +kernel
theorem dX8_there_7 : decode cX8_there 7 = .ok (.aload_n 0, 1) := by decide +kernel
theorem dX8_there_8 : decode cX8_there 8 = .ok (.getfield 96, 3) := by decide +kernel
theorem dX8_there_11 : decode cX8_there 11 = .ok (.if_icmp .ge 31, 3) := by decide +kernel
theorem dX8_there_14 : decode cX8_there 14 = .ok (.iload_n 3, 1) := by decide +kernel
theorem dX8_there_15 : decode cX8_there 15 = .ok (.aload_n 1, 1) := by decide +kernel
theorem dX8_there_16 : decode cX8_there 16 = .ok (.bipush 36, 2) := by decide +kernel
theorem dX8_there_18 : decode cX8_there 18 = .ok (.iload 4, 2) := by decide +kernel
theorem dX8_there_20 : decode cX8_there 20 = .ok (.iadd, 1) := by decide +kernel
theorem dX8_there_21 : decode cX8_there 21 = .ok (.iaload, 1) := by decide +kernel
theorem dX8_there_22 : decode cX8_there 22 = .ok (.iload_n 2, 1) := by decide +kernel
theorem dX8_there_23 : decode cX8_there 23 = .ok (.if_icmp .ne 10, 3) := by decide +kernel
theorem dX8_there_26 : decode cX8_there 26 = .ok (.iconst 1, 1) := by decide +kernel
theorem dX8_there_27 : decode cX8_there 27 = .ok (.iload 4, 2) := by decide +kernel
theorem dX8_there_29 : decode cX8_there 29 = .ok (.ishl, 1) := by decide +kernel
theorem dX8_there_30 : decode cX8_there 30 = .ok (.goto 4, 3) := by decide +kernel
theorem dX8_there_33 : decode cX8_there 33 = .ok (.iconst 0, 1) := by decide +kernel
theorem dX8_there_34 : decode cX8_there 34 = .ok (.ior, 1) := by decide +kernel
theorem dX8_there_35 : decode cX8_there 35 = .ok (.istore_n 3, 1) := by decide +kernel
theorem dX8_there_36 : decode cX8_there 36 = .ok (.iinc 4 1, 3) := by decide +kernel
theorem dX8_there_39 : decode cX8_there 39 = .ok (.goto (-34), 3) := by decide +kernel
theorem dX8_there_42 : decode cX8_there 42 = .ok (.iload_n 3, 1) := by decide +kernel
theorem dX8_there_43 : decode cX8_there 43 = .ok (.ireturn, 1) := by decide +kernel
def p_X8_there_34 (F : Nat) (y4_5 : Int32) (y3_5 : Int32) (k5 : Int32 → Int32 → Prop) (Post : Int32 → Prop) (s1_34 : Int32) : Prop := (k5 (y4_5 + (1 : Int32)) (y3_5 ||| s1_34))
noncomputable def p_X8_there_5 (F : Nat) (p2 : Int32) (x_cats : Int32) (n_b1 : Nat) (f_b1 : Nat → Int32) (Post : Int32 → Prop) (n : Nat) : Int32 → Int32 → Prop := Nat.rec (motive := fun _ => Int32 → Int32 → Prop) (fun _ _ => False) (fun _ k5 => fun (y4_5 : Int32) (y3_5 : Int32) => ((x_cats ≤ y4_5 → (Post y3_5)) ∧ (¬ x_cats ≤ y4_5 → (vp_in ((36 : Int32) + y4_5) n_b1 ∧ ((¬ (f_b1 ((36 : Int32) + y4_5).toNatClampNeg) = p2 → (p_X8_there_34 F y4_5 y3_5 k5 Post (0 : Int32))) ∧ ((f_b1 ((36 : Int32) + y4_5).toNatClampNeg) = p2 → (p_X8_there_34 F y4_5 y3_5 k5 Post ((1 : Int32) <<< (y4_5 &&& 31))))))))) n
theorem p_X8_there_5_s (F : Nat) (p2 : Int32) (x_cats : Int32) (n_b1 : Nat) (f_b1 : Nat → Int32) (Post : Int32 → Prop) (n : Nat) (y4_5 : Int32) (y3_5 : Int32) : p_X8_there_5 F p2 x_cats n_b1 f_b1 Post (n + 1) y4_5 y3_5 = ((x_cats ≤ y4_5 → (Post y3_5)) ∧ (¬ x_cats ≤ y4_5 → (vp_in ((36 : Int32) + y4_5) n_b1 ∧ ((¬ (f_b1 ((36 : Int32) + y4_5).toNatClampNeg) = p2 → (p_X8_there_34 F y4_5 y3_5 (p_X8_there_5 F p2 x_cats n_b1 f_b1 Post n) Post (0 : Int32))) ∧ ((f_b1 ((36 : Int32) + y4_5).toNatClampNeg) = p2 → (p_X8_there_34 F y4_5 y3_5 (p_X8_there_5 F p2 x_cats n_b1 f_b1 Post n) Post ((1 : Int32) <<< (y4_5 &&& 31)))))))) := rfl
def p_X8_there (F : Nat) (p2 : Int32) (x_cats : Int32) (n_b1 : Nat) (f_b1 : Nat → Int32) (Post : Int32 → Prop) : Prop := (p_X8_there_5 F p2 x_cats n_b1 f_b1 Post F (0 : Int32) (0 : Int32))
set_option maxHeartbeats 4000000 in
set_option maxRecDepth 100000 in
theorem c_X8_there (l : Launch) (D : va_G) (cT : Nat → ClassId) (F : Nat) (h : Nat) (b1 : Nat) (p2 : Int32) (w_now : Value) (x_arches : Int32) (x_cats : Int32) (w_text : Value) (x_typed : Int32) (w_row : Value) (x_rowMany : Int32) (x_thrown : Int32) (w_read : Value) (x_length : Int32) (x_top : Int32) (x_at : Int32) (x_wrong : Int32) (w_told : Value) (w_rule : Value) (w_otherRule : Value) (x_ruleSize : Int32) (x_isAsked : Int32) (w_asked : Value) (w_undos : Value) (x_undoMany : Int32) (w_aside : Value) (w_then : Value) (w_hold : Value) (x_dropped : Int32) (w_acts : Value) (w_guarded : Value) (w_train : Value) (x_trolleyEnd : Int32) (w_feltOf : Value) (w_feltBy : Value) (x_feltMany : Int32) (w_many : Value) (w_heardOf : Value) (w_heardBy : Value) (x_heardMany : Int32) (w_worth : Value) (x_drawn : Int32) (x_came : Int32) (w_kept : Value) (w_isKept : Value) (w_keptCame : Value) (n_b1 : Nat) (f_b1 : Nat → Int32) (Post : Int32 → Prop) (hg : p_X8_there F p2 x_cats n_b1 f_b1 Post) : MRi l D cT yX8_there cX8_there 5 (some .int) 0 0 [.ref h, .ref b1, .int p2] [(h, oX8 w_now (.int x_arches) (.int x_cats) w_text (.int x_typed) w_row (.int x_rowMany) (.int x_thrown) w_read (.int x_length) (.int x_top) (.int x_at) (.int x_wrong) w_told w_rule w_otherRule (.int x_ruleSize) (.int x_isAsked) w_asked w_undos (.int x_undoMany) w_aside w_then w_hold (.int x_dropped) w_acts w_guarded w_train (.int x_trolleyEnd) w_feltOf w_feltBy (.int x_feltMany) w_many w_heardOf w_heardBy (.int x_heardMany) w_worth (.int x_drawn) (.int x_came) w_kept w_isKept w_keptCame), (b1, aI cT n_b1 f_b1)] Post := by
  refine MRi.of (by decide) (Nat.le_of_ble_eq_true rfl) ?_
  intro p e s m below meth c hA C0 hr hP hD hS ls hl
  have hl : lv_has ls 5 [(0, .ref h), (1, .ref b1), (2, .int p2)] := hl
  have hx := C0.x
  have hb := C0.b
  have hP : va_P D cls9 [(h, oX8 w_now (.int x_arches) (.int x_cats) w_text (.int x_typed) w_row (.int x_rowMany) (.int x_thrown) w_read (.int x_length) (.int x_top) (.int x_at) (.int x_wrong) w_told w_rule w_otherRule (.int x_ruleSize) (.int x_isAsked) w_asked w_undos (.int x_undoMany) w_aside w_then w_hold (.int x_dropped) w_acts w_guarded w_train (.int x_trolleyEnd) w_feltOf w_feltBy (.int x_feltMany) w_many w_heardOf w_heardBy (.int x_heardMany) w_worth (.int x_drawn) (.int x_came) w_kept w_isKept w_keptCame), (b1, aI cT n_b1 f_b1)] s.heap := hP
  have hD : va_D (fun q => cT 6 ≤ q) [(h, oX8 w_now (.int x_arches) (.int x_cats) w_text (.int x_typed) w_row (.int x_rowMany) (.int x_thrown) w_read (.int x_length) (.int x_top) (.int x_at) (.int x_wrong) w_told w_rule w_otherRule (.int x_ruleSize) (.int x_isAsked) w_asked w_undos (.int x_undoMany) w_aside w_then w_hold (.int x_dropped) w_acts w_guarded w_train (.int x_trolleyEnd) w_feltOf w_feltBy (.int x_feltMany) w_many w_heardOf w_heardBy (.int x_heardMany) w_worth (.int x_drawn) (.int x_came) w_kept w_isKept w_keptCame), (b1, aI cT n_b1 f_b1)] := hD
  have L5 : ∀ (n5 : Nat) (y4_5 : Int32) (y3_5 : Int32) (ls : Array Slot), p_X8_there_5 F p2 x_cats n_b1 f_b1 Post n5 y4_5 y3_5 → lv_has ls 5 [(0, .ref h), (1, .ref b1), (2, .int p2), (3, .int y3_5), (4, .int y4_5)] → W p l e (rmO 0 0 0 0) s m ([.ref h, .ref b1, .int p2] : List Value).toArray below meth c s.heap [] 0 0 (MQ below (vp_Si Post) ([.ref h, .ref b1, .int p2] : List Value).toArray s 0 0 (fun _ => False)) (F0 m 5 ls []) := by
    intro n5
    induction n5 with
    | zero =>
      intro y4_5 y3_5 ls hg hl
      exact False.elim hg
    | succ n5 ih5 =>
      have L34 : ∀ (y4_5 : Int32) (y3_5 : Int32) (s1_34 : Int32) (ls : Array Slot), p_X8_there_34 F y4_5 y3_5 (p_X8_there_5 F p2 x_cats n_b1 f_b1 Post n5) Post s1_34 → lv_has ls 5 [(0, .ref h), (1, .ref b1), (2, .int p2), (4, .int y4_5)] → W p l e (rmO 0 0 0 0) s m ([.ref h, .ref b1, .int p2] : List Value).toArray below meth c s.heap [] 0 0 (MQ below (vp_Si Post) ([.ref h, .ref b1, .int p2] : List Value).toArray s 0 0 (fun _ => False)) (F0 m 34 ls [.int s1_34, .int y3_5]) := by
        intro y4_5 y3_5 s1_34 ls hg hl
        unfold p_X8_there_34 at hg
        refine lv_ior hx hb dX8_there_34 ?_
        refine lv_istore_n (lv' := [(3, .int (y3_5 ||| s1_34)), (0, .ref h), (1, .ref b1), (2, .int p2), (4, .int y4_5)]) hx hb dX8_there_35 rfl hl (by decide) rfl (fun ls hl => ?_)
        refine lv_iinc (v := (y4_5 + (1 : Int32))) (lv' := [(4, .int (y4_5 + (1 : Int32))), (3, .int (y3_5 ||| s1_34)), (0, .ref h), (1, .ref b1), (2, .int p2)]) hx hb dX8_there_36 hl (k := 4) rfl rfl (by decide) rfl (fun ls hl => ?_)
        refine lv_goto (tgt := 5) hx hb dX8_there_39 (by decide) ?_
        exact ih5 (y4_5 + (1 : Int32)) (y3_5 ||| s1_34) _ hg (lv_sub hl [2, 3, 4, 1, 0] rfl)
      intro y4_5 y3_5 ls hg hl
      rw [p_X8_there_5_s] at hg
      refine lv_iload hx hb dX8_there_5 (lv_at hl 4 rfl) ?_
      refine lv_aload_n hx hb dX8_there_7 rfl (lv_at hl 0 rfl) ?_
      refine gf_X8_96 C0 hP 0 rfl rfl dX8_there_8 ?_
      refine lv_icmp_ge (tgt := 42) hx hb dX8_there_11 (by decide) (fun c_11 => ?_) (fun c_11 => ?_)
      · have hg := hg.1 c_11
        refine lv_iload_n hx hb dX8_there_42 rfl (lv_at hl 3 rfl) ?_
        exact k_xiret C0 hr hg dX8_there_43
      have hg := hg.2 c_11
      refine lv_iload_n hx hb dX8_there_14 rfl (lv_at hl 3 rfl) ?_
      refine lv_aload_n hx hb dX8_there_15 rfl (lv_at hl 1 rfl) ?_
      refine lv_bipush (v := (36 : Int32)) hx hb dX8_there_16 (by decide) ?_
      refine lv_iload hx hb dX8_there_18 (lv_at hl 4 rfl) ?_
      refine lv_iadd hx hb dX8_there_20 ?_
      obtain ⟨g_21, hg⟩ := hg
      refine k_iald C0 hP 1 rfl g_21 dX8_there_21 ?_
      refine lv_iload_n hx hb dX8_there_22 rfl (lv_at hl 2 rfl) ?_
      refine lv_icmp_ne (tgt := 33) hx hb dX8_there_23 (by decide) (fun c_23 => ?_) (fun c_23 => ?_)
      · have hg := hg.1 c_23
        refine lv_iconst (v := (0 : Int32)) hx hb dX8_there_33 (by decide) ?_
        exact L34 y4_5 y3_5 (0 : Int32) _ hg (lv_sub hl [0, 1, 2, 4] rfl)
      have hg := hg.2 c_23
      refine lv_iconst (v := (1 : Int32)) hx hb dX8_there_26 (by decide) ?_
      refine lv_iload hx hb dX8_there_27 (lv_at hl 4 rfl) ?_
      refine lv_ishl hx hb dX8_there_29 ?_
      refine lv_goto (tgt := 34) hx hb dX8_there_30 (by decide) ?_
      exact L34 y4_5 y3_5 ((1 : Int32) <<< (y4_5 &&& 31)) _ hg (lv_sub hl [0, 1, 2, 4] rfl)
  unfold p_X8_there at hg
  refine lv_iconst (v := (0 : Int32)) hx hb dX8_there_0 (by decide) ?_
  refine lv_istore_n (lv' := [(3, .int (0 : Int32)), (0, .ref h), (1, .ref b1), (2, .int p2)]) hx hb dX8_there_1 rfl hl (by decide) rfl (fun ls hl => ?_)
  refine lv_iconst (v := (0 : Int32)) hx hb dX8_there_2 (by decide) ?_
  refine lv_istore (lv' := [(4, .int (0 : Int32)), (3, .int (0 : Int32)), (0, .ref h), (1, .ref b1), (2, .int p2)]) hx hb dX8_there_3 hl (by decide) rfl (fun ls hl => ?_)
  exact L5 F (0 : Int32) (0 : Int32) _ hg (lv_sub hl [2, 3, 4, 1, 0] rfl)
theorem dX8_purrIn_0 : decode cX8_purrIn 0 = .ok (.aload_n 1, 1) := by decide +kernel
theorem dX8_purrIn_1 : decode cX8_purrIn 1 = .ok (.bipush 12, 2) := by decide +kernel
theorem dX8_purrIn_3 : decode cX8_purrIn 3 = .ok (.iload_n 2, 1) := by decide +kernel
theorem dX8_purrIn_4 : decode cX8_purrIn 4 = .ok (.iadd, 1) := by decide +kernel
theorem dX8_purrIn_5 : decode cX8_purrIn 5 = .ok (.iaload, 1) := by decide +kernel
theorem dX8_purrIn_6 : decode cX8_purrIn 6 = .ok (.aload_n 1, 1) := by decide +kernel
theorem dX8_purrIn_7 : decode cX8_purrIn 7 = .ok (.bipush 28, 2) := by decide +kernel
theorem dX8_purrIn_9 : decode cX8_purrIn 9 = .ok (.iload_n 2, 1) := by decide +kernel
theorem dX8_purrIn_10 : decode cX8_purrIn 10 = .ok (.iadd, 1) := by decide +kernel
theorem dX8_purrIn_11 : decode cX8_purrIn 11 = .ok (.iaload, 1) := by decide +kernel
theorem dX8_purrIn_12 : decode cX8_purrIn 12 = .ok (.isub, 1) := by decide +kernel
theorem dX8_purrIn_13 : decode cX8_purrIn 13 = .ok (.istore 5, 2) := by decide +kernel
theorem dX8_purrIn_15 : decode cX8_purrIn 15 = .ok (.aload_n 0, 1) := by decide +kernel
theorem dX8_purrIn_16 : decode cX8_purrIn 16 = .ok (.getfield 186, 3) := by decide +kernel
theorem dX8_purrIn_19 : decode cX8_purrIn 19 = .ok (.ifCond .le 113, 3) := by decide +kernel
theorem dX8_purrIn_22 : decode cX8_purrIn 22 = .ok (.aload_n 0, 1) := by decide +kernel
theorem dX8_purrIn_23 : decode cX8_purrIn 23 = .ok (.getfield 30, 3) := by decide +kernel
theorem dX8_purrIn_26 : decode cX8_purrIn 26 = .ok (.iconst 0, 1) := by decide +kernel
theorem dX8_purrIn_27 : decode cX8_purrIn 27 = .ok (.aload_n 1, 1) := by decide +kernel
theorem dX8_purrIn_28 : decode cX8_purrIn 28 = .ok (.bipush 12, 2) := by decide +kernel
theorem dX8_purrIn_30 : decode cX8_purrIn 30 = .ok (.iload_n 2, 1) := by decide +kernel
theorem dX8_purrIn_31 : decode cX8_purrIn 31 = .ok (.iadd, 1) := by decide +kernel
theorem dX8_purrIn_32 : decode cX8_purrIn 32 = .ok (.iaload, 1) := by decide +kernel
theorem dX8_purrIn_33 : decode cX8_purrIn 33 = .ok (.iastore, 1) := by decide +kernel
theorem dX8_purrIn_34 : decode cX8_purrIn 34 = .ok (.aload_n 0, 1) := by decide +kernel
theorem dX8_purrIn_35 : decode cX8_purrIn 35 = .ok (.getfield 30, 3) := by decide +kernel
theorem dX8_purrIn_38 : decode cX8_purrIn 38 = .ok (.iconst 1, 1) := by decide +kernel
theorem dX8_purrIn_39 : decode cX8_purrIn 39 = .ok (.aload_n 1, 1) := by decide +kernel
theorem dX8_purrIn_40 : decode cX8_purrIn 40 = .ok (.bipush 20, 2) := by decide +kernel
theorem dX8_purrIn_42 : decode cX8_purrIn 42 = .ok (.iload_n 2, 1) := by decide +kernel
theorem dX8_purrIn_43 : decode cX8_purrIn 43 = .ok (.iadd, 1) := by decide +kernel
theorem dX8_purrIn_44 : decode cX8_purrIn 44 = .ok (.iaload, 1) := by decide +kernel
theorem dX8_purrIn_45 : decode cX8_purrIn 45 = .ok (.iastore, 1) := by decide +kernel
theorem dX8_purrIn_46 : decode cX8_purrIn 46 = .ok (.aload_n 0, 1) := by decide +kernel
theorem dX8_purrIn_47 : decode cX8_purrIn 47 = .ok (.getfield 30, 3) := by decide +kernel
theorem dX8_purrIn_50 : decode cX8_purrIn 50 = .ok (.iconst 2, 1) := by decide +kernel
theorem dX8_purrIn_51 : decode cX8_purrIn 51 = .ok (.aload_n 1, 1) := by decide +kernel
theorem dX8_purrIn_52 : decode cX8_purrIn 52 = .ok (.bipush 28, 2) := by decide +kernel
theorem dX8_purrIn_54 : decode cX8_purrIn 54 = .ok (.iload_n 2, 1) := by decide +kernel
theorem dX8_purrIn_55 : decode cX8_purrIn 55 = .ok (.iadd, 1) := by decide +kernel
theorem dX8_purrIn_56 : decode cX8_purrIn 56 = .ok (.iaload, 1) := by decide +kernel
theorem dX8_purrIn_57 : decode cX8_purrIn 57 = .ok (.iastore, 1) := by decide +kernel
theorem dX8_purrIn_58 : decode cX8_purrIn 58 = .ok (.aload_n 0, 1) := by decide +kernel
theorem dX8_purrIn_59 : decode cX8_purrIn 59 = .ok (.getfield 30, 3) := by decide +kernel
theorem dX8_purrIn_62 : decode cX8_purrIn 62 = .ok (.iconst 3, 1) := by decide +kernel
theorem dX8_purrIn_63 : decode cX8_purrIn 63 = .ok (.iload 4, 2) := by decide +kernel
theorem dX8_purrIn_65 : decode cX8_purrIn 65 = .ok (.iastore, 1) := by decide +kernel
theorem dX8_purrIn_66 : decode cX8_purrIn 66 = .ok (.aload_n 0, 1) := by decide +kernel
theorem dX8_purrIn_67 : decode cX8_purrIn 67 = .ok (.getfield 30, 3) := by decide +kernel
theorem dX8_purrIn_70 : decode cX8_purrIn 70 = .ok (.iconst 4, 1) := by decide +kernel
theorem dX8_purrIn_71 : decode cX8_purrIn 71 = .ok (.aload_n 1, 1) := by decide +kernel
theorem dX8_purrIn_72 : decode cX8_purrIn 72 = .ok (.iload_n 3, 1) := by decide +kernel
theorem dX8_purrIn_73 : decode cX8_purrIn 73 = .ok (.iaload, 1) := by decide +kernel
theorem dX8_purrIn_74 : decode cX8_purrIn 74 = .ok (.iastore, 1) := by decide +kernel
theorem dX8_purrIn_75 : decode cX8_purrIn 75 = .ok (.aload_n 0, 1) := by decide +kernel
theorem dX8_purrIn_76 : decode cX8_purrIn 76 = .ok (.getfield 30, 3) := by decide +kernel
theorem dX8_purrIn_79 : decode cX8_purrIn 79 = .ok (.iconst 5, 1) := by decide +kernel
theorem dX8_purrIn_80 : decode cX8_purrIn 80 = .ok (.aload_n 1, 1) := by decide +kernel
theorem dX8_purrIn_81 : decode cX8_purrIn 81 = .ok (.bipush 6, 2) := by decide +kernel
theorem dX8_purrIn_83 : decode cX8_purrIn 83 = .ok (.iload_n 3, 1) := by decide +kernel
theorem dX8_purrIn_84 : decode cX8_purrIn 84 = .ok (.iadd, 1) := by decide +kernel
theorem dX8_purrIn_85 : decode cX8_purrIn 85 = .ok (.iaload, 1) := by decide +kernel
theorem dX8_purrIn_86 : decode cX8_purrIn 86 = .ok (.iastore, 1) := by decide +kernel
theorem dX8_purrIn_87 : decode cX8_purrIn 87 = .ok (.aload_n 0, 1) := by decide +kernel
theorem dX8_purrIn_88 : decode cX8_purrIn 88 = .ok (.getfield 30, 3) := by decide +kernel
theorem dX8_purrIn_91 : decode cX8_purrIn 91 = .ok (.bipush 6, 2) := by decide +kernel
theorem dX8_purrIn_93 : decode cX8_purrIn 93 = .ok (.aload_n 1, 1) := by decide +kernel
theorem dX8_purrIn_94 : decode cX8_purrIn 94 = .ok (.bipush 45, 2) := by decide +kernel
theorem dX8_purrIn_96 : decode cX8_purrIn 96 = .ok (.iaload, 1) := by decide +kernel
theorem dX8_purrIn_97 : decode cX8_purrIn 97 = .ok (.bipush 7, 2) := by decide +kernel
theorem dX8_purrIn_99 : decode cX8_purrIn 99 = .ok (.irem, 1) := by decide +kernel
theorem dX8_purrIn_100 : decode cX8_purrIn 100 = .ok (.iastore, 1) := by decide +kernel
theorem dX8_purrIn_101 : decode cX8_purrIn 101 = .ok (.aload_n 0, 1) := by decide +kernel
theorem dX8_purrIn_102 : decode cX8_purrIn 102 = .ok (.aload_n 0, 1) := by decide +kernel
theorem dX8_purrIn_103 : decode cX8_purrIn 103 = .ok (.getfield 24, 3) := by decide +kernel
theorem dX8_purrIn_106 : decode cX8_purrIn 106 = .ok (.aload_n 0, 1) := by decide +kernel
theorem dX8_purrIn_107 : decode cX8_purrIn 107 = .ok (.getfield 186, 3) := by decide +kernel
theorem dX8_purrIn_110 : decode cX8_purrIn 110 = .ok (.bipush 40, 2) := by decide +kernel
theorem dX8_purrIn_112 : decode cX8_purrIn 112 = .ok (.invokevirtual 117, 3) := by decide +kernel
theorem dX8_purrIn_115 : decode cX8_purrIn 115 = .ok (.aload_n 0, 1) := by decide +kernel
theorem dX8_purrIn_116 : decode cX8_purrIn 116 = .ok (.iconst 1, 1) := by decide +kernel
theorem dX8_purrIn_117 : decode cX8_purrIn 117 = .ok (.putfield 179, 3) := by decide +kernel
theorem dX8_purrIn_120 : decode cX8_purrIn 120 = .ok (.aload_n 0, 1) := by decide +kernel
theorem dX8_purrIn_121 : decode cX8_purrIn 121 = .ok (.iconst 0, 1) := by decide +kernel
theorem dX8_purrIn_122 : decode cX8_purrIn 122 = .ok (.invokevirtual 166, 3) := by decide +kernel
theorem dX8_purrIn_125 : decode cX8_purrIn 125 = .ok (.istore 5, 2) := by decide +kernel
theorem dX8_purrIn_127 : decode cX8_purrIn 127 = .ok (.aload_n 0, 1) := by decide +kernel
theorem dX8_purrIn_128 : decode cX8_purrIn 128 = .ok (.iconst 0, 1) := by decide +kernel
theorem dX8_purrIn_129 : decode cX8_purrIn 129 = .ok (.putfield 179, 3) := by decide +kernel
theorem dX8_purrIn_132 : decode cX8_purrIn 132 = .ok (.iconst 0, 1) := by decide +kernel
theorem dX8_purrIn_133 : decode cX8_purrIn 133 = .ok (.bipush 9, 2) := by decide +kernel
theorem dX8_purrIn_135 : decode cX8_purrIn 135 = .ok (.iload 5, 2) := by decide +kernel
theorem dX8_purrIn_137 : decode cX8_purrIn 137 = .ok (.invokestatic 189, 3) := by decide +kernel
theorem dX8_purrIn_140 : decode cX8_purrIn 140 = .ok (.invokestatic 195, 3) := by decide +kernel
theorem dX8_purrIn_143 : decode cX8_purrIn 143 = .ok (.ireturn, 1) := by decide +kernel
def p_X8_purrIn_132 (F : Nat) (Post : Int32 → (Value × Int32 × Int32 × Int32 × Int32 × Int32 × (Nat → Int32)) → Prop) (y5_132 : Int32) (x_read_132 : Value) (x_length_132 : Int32) (x_top_132 : Int32) (x_at_132 : Int32) (x_wrong_132 : Int32) (x_isAsked_132 : Int32) (f_asked_132 : Nat → Int32) : Prop := (Post (if (0 : Int32) < (if y5_132 < (9 : Int32) then y5_132 else (9 : Int32)) then (if y5_132 < (9 : Int32) then y5_132 else (9 : Int32)) else (0 : Int32)) (x_read_132, x_length_132, x_top_132, x_at_132, x_wrong_132, x_isAsked_132, f_asked_132))
def p_X8_purrIn (F : Nat) (p2 : Int32) (p3 : Int32) (p4 : Int32) (w_read : Value) (x_length : Int32) (x_top : Int32) (x_at : Int32) (x_wrong : Int32) (q_rule : Nat) (x_ruleSize : Int32) (x_isAsked : Int32) (n_b1 : Nat) (f_b1 : Nat → Int32) (f_asked : Nat → Int32) (f_rule : Nat → Int32) (Post : Int32 → (Value × Int32 × Int32 × Int32 × Int32 × Int32 × (Nat → Int32)) → Prop) : Prop := (vp_in ((12 : Int32) + p2) n_b1 ∧ (vp_in ((28 : Int32) + p2) n_b1 ∧ ((x_ruleSize ≤ 0 → (p_X8_purrIn_132 F Post ((f_b1 ((12 : Int32) + p2).toNatClampNeg) - (f_b1 ((28 : Int32) + p2).toNatClampNeg)) w_read x_length x_top x_at x_wrong x_isAsked f_asked)) ∧ (¬ x_ruleSize ≤ 0 → (vp_in ((12 : Int32) + p2) n_b1 ∧ (vp_in (0 : Int32) 7 ∧ (vp_in ((20 : Int32) + p2) n_b1 ∧ (vp_in (1 : Int32) 7 ∧ (vp_in ((28 : Int32) + p2) n_b1 ∧ (vp_in (2 : Int32) 7 ∧ (vp_in (3 : Int32) 7 ∧ (vp_in p3 n_b1 ∧ (vp_in (4 : Int32) 7 ∧ (vp_in ((6 : Int32) + p3) n_b1 ∧ (vp_in (5 : Int32) 7 ∧ (vp_in (45 : Int32) n_b1 ∧ (¬ (7 : Int32) = 0 ∧ (vp_in (6 : Int32) 7 ∧ (p_X8_begin F x_ruleSize (40 : Int32) (fun (u_112 : (Int32 × Int32 × Int32 × Int32)) => (p_X8_heldT F (0 : Int32) u_112.1 u_112.2.1 u_112.2.2.1 u_112.2.2.2 (1 : Int32) 40 f_rule (upd (upd (upd (upd (upd (upd (upd f_asked (0 : Int32).toNatClampNeg (f_b1 ((12 : Int32) + p2).toNatClampNeg)) (1 : Int32).toNatClampNeg (f_b1 ((20 : Int32) + p2).toNatClampNeg)) (2 : Int32).toNatClampNeg (f_b1 ((28 : Int32) + p2).toNatClampNeg)) (3 : Int32).toNatClampNeg p4) (4 : Int32).toNatClampNeg (f_b1 p3.toNatClampNeg)) (5 : Int32).toNatClampNeg (f_b1 ((6 : Int32) + p3).toNatClampNeg)) (6 : Int32).toNatClampNeg ((f_b1 (45 : Int32).toNatClampNeg) - (f_b1 (45 : Int32).toNatClampNeg) / (7 : Int32) * (7 : Int32))) (fun (r_122 : Int32) (u_122 : (Int32 × Int32)) => (p_X8_purrIn_132 F Post r_122 (.ref q_rule) u_112.1 u_112.2.1 u_122.1 u_122.2 (0 : Int32) (upd (upd (upd (upd (upd (upd (upd f_asked (0 : Int32).toNatClampNeg (f_b1 ((12 : Int32) + p2).toNatClampNeg)) (1 : Int32).toNatClampNeg (f_b1 ((20 : Int32) + p2).toNatClampNeg)) (2 : Int32).toNatClampNeg (f_b1 ((28 : Int32) + p2).toNatClampNeg)) (3 : Int32).toNatClampNeg p4) (4 : Int32).toNatClampNeg (f_b1 p3.toNatClampNeg)) (5 : Int32).toNatClampNeg (f_b1 ((6 : Int32) + p3).toNatClampNeg)) (6 : Int32).toNatClampNeg ((f_b1 (45 : Int32).toNatClampNeg) - (f_b1 (45 : Int32).toNatClampNeg) / (7 : Int32) * (7 : Int32))))))))))))))))))))))))))
set_option maxHeartbeats 4000000 in
set_option maxRecDepth 100000 in
theorem c_X8_purrIn (l : Launch) (D : va_G) (cT : Nat → ClassId) (F : Nat) (h : Nat) (b1 : Nat) (p2 : Int32) (p3 : Int32) (p4 : Int32) (w_now : Value) (x_arches : Int32) (x_cats : Int32) (w_text : Value) (x_typed : Int32) (w_row : Value) (x_rowMany : Int32) (x_thrown : Int32) (w_read : Value) (x_length : Int32) (x_top : Int32) (x_at : Int32) (x_wrong : Int32) (w_told : Value) (q_rule : Nat) (w_otherRule : Value) (x_ruleSize : Int32) (x_isAsked : Int32) (q_asked : Nat) (w_undos : Value) (x_undoMany : Int32) (w_aside : Value) (w_then : Value) (w_hold : Value) (x_dropped : Int32) (w_acts : Value) (w_guarded : Value) (w_train : Value) (x_trolleyEnd : Int32) (w_feltOf : Value) (w_feltBy : Value) (x_feltMany : Int32) (w_many : Value) (w_heardOf : Value) (w_heardBy : Value) (x_heardMany : Int32) (w_worth : Value) (x_drawn : Int32) (x_came : Int32) (w_kept : Value) (w_isKept : Value) (w_keptCame : Value) (n_b1 : Nat) (f_b1 : Nat → Int32) (f_asked : Nat → Int32) (f_rule : Nat → Int32) (Post : Int32 → (Value × Int32 × Int32 × Int32 × Int32 × Int32 × (Nat → Int32)) → Prop) (hg : p_X8_purrIn F p2 p3 p4 w_read x_length x_top x_at x_wrong q_rule x_ruleSize x_isAsked n_b1 f_b1 f_asked f_rule Post) : MWi l D cT yX8_purrIn cX8_purrIn 6 (some .int) 322 10102 0 0 [.ref h, .ref b1, .int p2, .int p3, .int p4] [(h, oX8 w_now (.int x_arches) (.int x_cats) w_text (.int x_typed) w_row (.int x_rowMany) (.int x_thrown) w_read (.int x_length) (.int x_top) (.int x_at) (.int x_wrong) w_told (.ref q_rule) w_otherRule (.int x_ruleSize) (.int x_isAsked) (.ref q_asked) w_undos (.int x_undoMany) w_aside w_then w_hold (.int x_dropped) w_acts w_guarded w_train (.int x_trolleyEnd) w_feltOf w_feltBy (.int x_feltMany) w_many w_heardOf w_heardBy (.int x_heardMany) w_worth (.int x_drawn) (.int x_came) w_kept w_isKept w_keptCame), (b1, aI cT n_b1 f_b1), (q_asked, aI cT 7 f_asked), (q_rule, aB cT 40 f_rule)] Post (fun (u : (Value × Int32 × Int32 × Int32 × Int32 × Int32 × (Nat → Int32))) => [(h, oX8 w_now (.int x_arches) (.int x_cats) w_text (.int x_typed) w_row (.int x_rowMany) (.int x_thrown) u.1 (.int u.2.1) (.int u.2.2.1) (.int u.2.2.2.1) (.int u.2.2.2.2.1) w_told (.ref q_rule) w_otherRule (.int x_ruleSize) (.int u.2.2.2.2.2.1) (.ref q_asked) w_undos (.int x_undoMany) w_aside w_then w_hold (.int x_dropped) w_acts w_guarded w_train (.int x_trolleyEnd) w_feltOf w_feltBy (.int x_feltMany) w_many w_heardOf w_heardBy (.int x_heardMany) w_worth (.int x_drawn) (.int x_came) w_kept w_isKept w_keptCame), (b1, aI cT n_b1 f_b1), (q_asked, aI cT 7 u.2.2.2.2.2.2), (q_rule, aB cT 40 f_rule)]) := by
  refine MWi.of (by decide) (Nat.le_of_ble_eq_true rfl) ?_
  intro p e s m below meth c A hA C0 hnm hr hP hD ls hl
  have hl : lv_has ls 6 [(0, .ref h), (1, .ref b1), (2, .int p2), (3, .int p3), (4, .int p4)] := hl
  have hx := C0.x
  have hb := C0.b
  have hS : va_S A s.heap s.heap [] := va_S.rf
  have hP : va_P D cls9 [(h, oX8 w_now (.int x_arches) (.int x_cats) w_text (.int x_typed) w_row (.int x_rowMany) (.int x_thrown) w_read (.int x_length) (.int x_top) (.int x_at) (.int x_wrong) w_told (.ref q_rule) w_otherRule (.int x_ruleSize) (.int x_isAsked) (.ref q_asked) w_undos (.int x_undoMany) w_aside w_then w_hold (.int x_dropped) w_acts w_guarded w_train (.int x_trolleyEnd) w_feltOf w_feltBy (.int x_feltMany) w_many w_heardOf w_heardBy (.int x_heardMany) w_worth (.int x_drawn) (.int x_came) w_kept w_isKept w_keptCame), (b1, aI cT n_b1 f_b1), (q_asked, aI cT 7 f_asked), (q_rule, aB cT 40 f_rule)] s.heap := hP
  have hD : va_D A [(h, oX8 w_now (.int x_arches) (.int x_cats) w_text (.int x_typed) w_row (.int x_rowMany) (.int x_thrown) w_read (.int x_length) (.int x_top) (.int x_at) (.int x_wrong) w_told (.ref q_rule) w_otherRule (.int x_ruleSize) (.int x_isAsked) (.ref q_asked) w_undos (.int x_undoMany) w_aside w_then w_hold (.int x_dropped) w_acts w_guarded w_train (.int x_trolleyEnd) w_feltOf w_feltBy (.int x_feltMany) w_many w_heardOf w_heardBy (.int x_heardMany) w_worth (.int x_drawn) (.int x_came) w_kept w_isKept w_keptCame), (b1, aI cT n_b1 f_b1), (q_asked, aI cT 7 f_asked), (q_rule, aB cT 40 f_rule)] := hD
  have L132 : ∀ (y5_132 : Int32) (x_read_132 : Value) (x_length_132 : Int32) (x_top_132 : Int32) (x_at_132 : Int32) (x_wrong_132 : Int32) (x_isAsked_132 : Int32) (f_asked_132 : Nat → Int32) (H : Heap) (locs : List Loc) (ls : Array Slot), p_X8_purrIn_132 F Post y5_132 x_read_132 x_length_132 x_top_132 x_at_132 x_wrong_132 x_isAsked_132 f_asked_132 → va_P D cls9 [(h, oX8 w_now (.int x_arches) (.int x_cats) w_text (.int x_typed) w_row (.int x_rowMany) (.int x_thrown) x_read_132 (.int x_length_132) (.int x_top_132) (.int x_at_132) (.int x_wrong_132) w_told (.ref q_rule) w_otherRule (.int x_ruleSize) (.int x_isAsked_132) (.ref q_asked) w_undos (.int x_undoMany) w_aside w_then w_hold (.int x_dropped) w_acts w_guarded w_train (.int x_trolleyEnd) w_feltOf w_feltBy (.int x_feltMany) w_many w_heardOf w_heardBy (.int x_heardMany) w_worth (.int x_drawn) (.int x_came) w_kept w_isKept w_keptCame), (b1, aI cT n_b1 f_b1), (q_asked, aI cT 7 f_asked_132), (q_rule, aB cT 40 f_rule)] H → va_D A [(h, oX8 w_now (.int x_arches) (.int x_cats) w_text (.int x_typed) w_row (.int x_rowMany) (.int x_thrown) x_read_132 (.int x_length_132) (.int x_top_132) (.int x_at_132) (.int x_wrong_132) w_told (.ref q_rule) w_otherRule (.int x_ruleSize) (.int x_isAsked_132) (.ref q_asked) w_undos (.int x_undoMany) w_aside w_then w_hold (.int x_dropped) w_acts w_guarded w_train (.int x_trolleyEnd) w_feltOf w_feltBy (.int x_feltMany) w_many w_heardOf w_heardBy (.int x_heardMany) w_worth (.int x_drawn) (.int x_came) w_kept w_isKept w_keptCame), (b1, aI cT n_b1 f_b1), (q_asked, aI cT 7 f_asked_132), (q_rule, aB cT 40 f_rule)] → va_S A s.heap H locs → lv_has ls 6 [(5, .int y5_132)] → W p l e (rmO 322 10102 0 0) s m ([.ref h, .ref b1, .int p2, .int p3, .int p4] : List Value).toArray below meth c H locs 0 0 (MQ below (va_Qi Post (cB D A (fun (u : (Value × Int32 × Int32 × Int32 × Int32 × Int32 × (Nat → Int32))) => [(h, oX8 w_now (.int x_arches) (.int x_cats) w_text (.int x_typed) w_row (.int x_rowMany) (.int x_thrown) u.1 (.int u.2.1) (.int u.2.2.1) (.int u.2.2.2.1) (.int u.2.2.2.2.1) w_told (.ref q_rule) w_otherRule (.int x_ruleSize) (.int u.2.2.2.2.2.1) (.ref q_asked) w_undos (.int x_undoMany) w_aside w_then w_hold (.int x_dropped) w_acts w_guarded w_train (.int x_trolleyEnd) w_feltOf w_feltBy (.int x_feltMany) w_many w_heardOf w_heardBy (.int x_heardMany) w_worth (.int x_drawn) (.int x_came) w_kept w_isKept w_keptCame), (b1, aI cT n_b1 f_b1), (q_asked, aI cT 7 u.2.2.2.2.2.2), (q_rule, aB cT 40 f_rule)])) A) ([.ref h, .ref b1, .int p2, .int p3, .int p4] : List Value).toArray s 0 0 A) (F0 m 132 ls []) := by
    intro y5_132 x_read_132 x_length_132 x_top_132 x_at_132 x_wrong_132 x_isAsked_132 f_asked_132 H locs ls hg hP hD hS hl
    unfold p_X8_purrIn_132 at hg
    refine lv_iconst (v := (0 : Int32)) hx hb dX8_purrIn_132 (by decide) ?_
    refine lv_bipush (v := (9 : Int32)) hx hb dX8_purrIn_133 (by decide) ?_
    refine lv_iload hx hb dX8_purrIn_135 (lv_at hl 0 rfl) ?_
    refine k_min C0 w5_184 hl.1 (Nat.le_of_ble_eq_true rfl) (Nat.le_of_ble_eq_true rfl) (Nat.le_of_ble_eq_true rfl) (Nat.le_of_ble_eq_true rfl) dX8_purrIn_137 ?_
    refine k_max C0 w5_185 hl.1 (Nat.le_of_ble_eq_true rfl) (Nat.le_of_ble_eq_true rfl) (Nat.le_of_ble_eq_true rfl) (Nat.le_of_ble_eq_true rfl) dX8_purrIn_140 ?_
    exact k_iret C0 hr (x_read_132, x_length_132, x_top_132, x_at_132, x_wrong_132, x_isAsked_132, f_asked_132) hg hP hD hS dX8_purrIn_143
  unfold p_X8_purrIn at hg
  refine lv_aload_n hx hb dX8_purrIn_0 rfl (lv_at hl 1 rfl) ?_
  refine lv_bipush (v := (12 : Int32)) hx hb dX8_purrIn_1 (by decide) ?_
  refine lv_iload_n hx hb dX8_purrIn_3 rfl (lv_at hl 2 rfl) ?_
  refine lv_iadd hx hb dX8_purrIn_4 ?_
  obtain ⟨g_5, hg⟩ := hg
  refine k_iald C0 hP 1 rfl g_5 dX8_purrIn_5 ?_
  refine lv_aload_n hx hb dX8_purrIn_6 rfl (lv_at hl 1 rfl) ?_
  refine lv_bipush (v := (28 : Int32)) hx hb dX8_purrIn_7 (by decide) ?_
  refine lv_iload_n hx hb dX8_purrIn_9 rfl (lv_at hl 2 rfl) ?_
  refine lv_iadd hx hb dX8_purrIn_10 ?_
  obtain ⟨g_11, hg⟩ := hg
  refine k_iald C0 hP 1 rfl g_11 dX8_purrIn_11 ?_
  refine lv_isub hx hb dX8_purrIn_12 ?_
  refine lv_istore (lv' := [(5, .int ((f_b1 ((12 : Int32) + p2).toNatClampNeg) - (f_b1 ((28 : Int32) + p2).toNatClampNeg))), (0, .ref h), (1, .ref b1), (2, .int p2), (3, .int p3), (4, .int p4)]) hx hb dX8_purrIn_13 hl (by decide) rfl (fun ls hl => ?_)
  refine lv_aload_n hx hb dX8_purrIn_15 rfl (lv_at hl 1 rfl) ?_
  refine gf_X8_186 C0 hP 0 rfl rfl dX8_purrIn_16 ?_
  refine lv_if_le (tgt := 132) hx hb dX8_purrIn_19 (by decide) (fun c_19 => ?_) (fun c_19 => ?_)
  · have hg := hg.1 c_19
    exact L132 ((f_b1 ((12 : Int32) + p2).toNatClampNeg) - (f_b1 ((28 : Int32) + p2).toNatClampNeg)) w_read x_length x_top x_at x_wrong x_isAsked f_asked _ _ _ hg hP hD hS (lv_sub hl [0] rfl)
  have hg := hg.2 c_19
  refine lv_aload_n hx hb dX8_purrIn_22 rfl (lv_at hl 1 rfl) ?_
  refine gf_X8_30 C0 hP 0 rfl rfl dX8_purrIn_23 ?_
  refine lv_iconst (v := (0 : Int32)) hx hb dX8_purrIn_26 (by decide) ?_
  refine lv_aload_n hx hb dX8_purrIn_27 rfl (lv_at hl 2 rfl) ?_
  refine lv_bipush (v := (12 : Int32)) hx hb dX8_purrIn_28 (by decide) ?_
  refine lv_iload_n hx hb dX8_purrIn_30 rfl (lv_at hl 3 rfl) ?_
  refine lv_iadd hx hb dX8_purrIn_31 ?_
  obtain ⟨g_32, hg⟩ := hg
  refine k_iald C0 hP 1 rfl g_32 dX8_purrIn_32 ?_
  obtain ⟨g_33, hg⟩ := hg
  refine k_iast C0 hP hD hS 2 rfl g_33 (ws' := [(h, oX8 w_now (.int x_arches) (.int x_cats) w_text (.int x_typed) w_row (.int x_rowMany) (.int x_thrown) w_read (.int x_length) (.int x_top) (.int x_at) (.int x_wrong) w_told (.ref q_rule) w_otherRule (.int x_ruleSize) (.int x_isAsked) (.ref q_asked) w_undos (.int x_undoMany) w_aside w_then w_hold (.int x_dropped) w_acts w_guarded w_train (.int x_trolleyEnd) w_feltOf w_feltBy (.int x_feltMany) w_many w_heardOf w_heardBy (.int x_heardMany) w_worth (.int x_drawn) (.int x_came) w_kept w_isKept w_keptCame), (b1, aI cT n_b1 f_b1), (q_asked, aI cT 7 (upd f_asked (0 : Int32).toNatClampNeg (f_b1 ((12 : Int32) + p2).toNatClampNeg))), (q_rule, aB cT 40 f_rule)]) rfl dX8_purrIn_33 (fun H locs hP hD hS => ?_)
  refine lv_aload_n hx hb dX8_purrIn_34 rfl (lv_at hl 1 rfl) ?_
  refine gf_X8_30 C0 hP 0 rfl rfl dX8_purrIn_35 ?_
  refine lv_iconst (v := (1 : Int32)) hx hb dX8_purrIn_38 (by decide) ?_
  refine lv_aload_n hx hb dX8_purrIn_39 rfl (lv_at hl 2 rfl) ?_
  refine lv_bipush (v := (20 : Int32)) hx hb dX8_purrIn_40 (by decide) ?_
  refine lv_iload_n hx hb dX8_purrIn_42 rfl (lv_at hl 3 rfl) ?_
  refine lv_iadd hx hb dX8_purrIn_43 ?_
  obtain ⟨g_44, hg⟩ := hg
  refine k_iald C0 hP 1 rfl g_44 dX8_purrIn_44 ?_
  obtain ⟨g_45, hg⟩ := hg
  refine k_iast C0 hP hD hS 2 rfl g_45 (ws' := [(h, oX8 w_now (.int x_arches) (.int x_cats) w_text (.int x_typed) w_row (.int x_rowMany) (.int x_thrown) w_read (.int x_length) (.int x_top) (.int x_at) (.int x_wrong) w_told (.ref q_rule) w_otherRule (.int x_ruleSize) (.int x_isAsked) (.ref q_asked) w_undos (.int x_undoMany) w_aside w_then w_hold (.int x_dropped) w_acts w_guarded w_train (.int x_trolleyEnd) w_feltOf w_feltBy (.int x_feltMany) w_many w_heardOf w_heardBy (.int x_heardMany) w_worth (.int x_drawn) (.int x_came) w_kept w_isKept w_keptCame), (b1, aI cT n_b1 f_b1), (q_asked, aI cT 7 (upd (upd f_asked (0 : Int32).toNatClampNeg (f_b1 ((12 : Int32) + p2).toNatClampNeg)) (1 : Int32).toNatClampNeg (f_b1 ((20 : Int32) + p2).toNatClampNeg))), (q_rule, aB cT 40 f_rule)]) rfl dX8_purrIn_45 (fun H locs hP hD hS => ?_)
  refine lv_aload_n hx hb dX8_purrIn_46 rfl (lv_at hl 1 rfl) ?_
  refine gf_X8_30 C0 hP 0 rfl rfl dX8_purrIn_47 ?_
  refine lv_iconst (v := (2 : Int32)) hx hb dX8_purrIn_50 (by decide) ?_
  refine lv_aload_n hx hb dX8_purrIn_51 rfl (lv_at hl 2 rfl) ?_
  refine lv_bipush (v := (28 : Int32)) hx hb dX8_purrIn_52 (by decide) ?_
  refine lv_iload_n hx hb dX8_purrIn_54 rfl (lv_at hl 3 rfl) ?_
  refine lv_iadd hx hb dX8_purrIn_55 ?_
  obtain ⟨g_56, hg⟩ := hg
  refine k_iald C0 hP 1 rfl g_56 dX8_purrIn_56 ?_
  obtain ⟨g_57, hg⟩ := hg
  refine k_iast C0 hP hD hS 2 rfl g_57 (ws' := [(h, oX8 w_now (.int x_arches) (.int x_cats) w_text (.int x_typed) w_row (.int x_rowMany) (.int x_thrown) w_read (.int x_length) (.int x_top) (.int x_at) (.int x_wrong) w_told (.ref q_rule) w_otherRule (.int x_ruleSize) (.int x_isAsked) (.ref q_asked) w_undos (.int x_undoMany) w_aside w_then w_hold (.int x_dropped) w_acts w_guarded w_train (.int x_trolleyEnd) w_feltOf w_feltBy (.int x_feltMany) w_many w_heardOf w_heardBy (.int x_heardMany) w_worth (.int x_drawn) (.int x_came) w_kept w_isKept w_keptCame), (b1, aI cT n_b1 f_b1), (q_asked, aI cT 7 (upd (upd (upd f_asked (0 : Int32).toNatClampNeg (f_b1 ((12 : Int32) + p2).toNatClampNeg)) (1 : Int32).toNatClampNeg (f_b1 ((20 : Int32) + p2).toNatClampNeg)) (2 : Int32).toNatClampNeg (f_b1 ((28 : Int32) + p2).toNatClampNeg))), (q_rule, aB cT 40 f_rule)]) rfl dX8_purrIn_57 (fun H locs hP hD hS => ?_)
  refine lv_aload_n hx hb dX8_purrIn_58 rfl (lv_at hl 1 rfl) ?_
  refine gf_X8_30 C0 hP 0 rfl rfl dX8_purrIn_59 ?_
  refine lv_iconst (v := (3 : Int32)) hx hb dX8_purrIn_62 (by decide) ?_
  refine lv_iload hx hb dX8_purrIn_63 (lv_at hl 5 rfl) ?_
  obtain ⟨g_65, hg⟩ := hg
  refine k_iast C0 hP hD hS 2 rfl g_65 (ws' := [(h, oX8 w_now (.int x_arches) (.int x_cats) w_text (.int x_typed) w_row (.int x_rowMany) (.int x_thrown) w_read (.int x_length) (.int x_top) (.int x_at) (.int x_wrong) w_told (.ref q_rule) w_otherRule (.int x_ruleSize) (.int x_isAsked) (.ref q_asked) w_undos (.int x_undoMany) w_aside w_then w_hold (.int x_dropped) w_acts w_guarded w_train (.int x_trolleyEnd) w_feltOf w_feltBy (.int x_feltMany) w_many w_heardOf w_heardBy (.int x_heardMany) w_worth (.int x_drawn) (.int x_came) w_kept w_isKept w_keptCame), (b1, aI cT n_b1 f_b1), (q_asked, aI cT 7 (upd (upd (upd (upd f_asked (0 : Int32).toNatClampNeg (f_b1 ((12 : Int32) + p2).toNatClampNeg)) (1 : Int32).toNatClampNeg (f_b1 ((20 : Int32) + p2).toNatClampNeg)) (2 : Int32).toNatClampNeg (f_b1 ((28 : Int32) + p2).toNatClampNeg)) (3 : Int32).toNatClampNeg p4)), (q_rule, aB cT 40 f_rule)]) rfl dX8_purrIn_65 (fun H locs hP hD hS => ?_)
  refine lv_aload_n hx hb dX8_purrIn_66 rfl (lv_at hl 1 rfl) ?_
  refine gf_X8_30 C0 hP 0 rfl rfl dX8_purrIn_67 ?_
  refine lv_iconst (v := (4 : Int32)) hx hb dX8_purrIn_70 (by decide) ?_
  refine lv_aload_n hx hb dX8_purrIn_71 rfl (lv_at hl 2 rfl) ?_
  refine lv_iload_n hx hb dX8_purrIn_72 rfl (lv_at hl 4 rfl) ?_
  obtain ⟨g_73, hg⟩ := hg
  refine k_iald C0 hP 1 rfl g_73 dX8_purrIn_73 ?_
  obtain ⟨g_74, hg⟩ := hg
  refine k_iast C0 hP hD hS 2 rfl g_74 (ws' := [(h, oX8 w_now (.int x_arches) (.int x_cats) w_text (.int x_typed) w_row (.int x_rowMany) (.int x_thrown) w_read (.int x_length) (.int x_top) (.int x_at) (.int x_wrong) w_told (.ref q_rule) w_otherRule (.int x_ruleSize) (.int x_isAsked) (.ref q_asked) w_undos (.int x_undoMany) w_aside w_then w_hold (.int x_dropped) w_acts w_guarded w_train (.int x_trolleyEnd) w_feltOf w_feltBy (.int x_feltMany) w_many w_heardOf w_heardBy (.int x_heardMany) w_worth (.int x_drawn) (.int x_came) w_kept w_isKept w_keptCame), (b1, aI cT n_b1 f_b1), (q_asked, aI cT 7 (upd (upd (upd (upd (upd f_asked (0 : Int32).toNatClampNeg (f_b1 ((12 : Int32) + p2).toNatClampNeg)) (1 : Int32).toNatClampNeg (f_b1 ((20 : Int32) + p2).toNatClampNeg)) (2 : Int32).toNatClampNeg (f_b1 ((28 : Int32) + p2).toNatClampNeg)) (3 : Int32).toNatClampNeg p4) (4 : Int32).toNatClampNeg (f_b1 p3.toNatClampNeg))), (q_rule, aB cT 40 f_rule)]) rfl dX8_purrIn_74 (fun H locs hP hD hS => ?_)
  refine lv_aload_n hx hb dX8_purrIn_75 rfl (lv_at hl 1 rfl) ?_
  refine gf_X8_30 C0 hP 0 rfl rfl dX8_purrIn_76 ?_
  refine lv_iconst (v := (5 : Int32)) hx hb dX8_purrIn_79 (by decide) ?_
  refine lv_aload_n hx hb dX8_purrIn_80 rfl (lv_at hl 2 rfl) ?_
  refine lv_bipush (v := (6 : Int32)) hx hb dX8_purrIn_81 (by decide) ?_
  refine lv_iload_n hx hb dX8_purrIn_83 rfl (lv_at hl 4 rfl) ?_
  refine lv_iadd hx hb dX8_purrIn_84 ?_
  obtain ⟨g_85, hg⟩ := hg
  refine k_iald C0 hP 1 rfl g_85 dX8_purrIn_85 ?_
  obtain ⟨g_86, hg⟩ := hg
  refine k_iast C0 hP hD hS 2 rfl g_86 (ws' := [(h, oX8 w_now (.int x_arches) (.int x_cats) w_text (.int x_typed) w_row (.int x_rowMany) (.int x_thrown) w_read (.int x_length) (.int x_top) (.int x_at) (.int x_wrong) w_told (.ref q_rule) w_otherRule (.int x_ruleSize) (.int x_isAsked) (.ref q_asked) w_undos (.int x_undoMany) w_aside w_then w_hold (.int x_dropped) w_acts w_guarded w_train (.int x_trolleyEnd) w_feltOf w_feltBy (.int x_feltMany) w_many w_heardOf w_heardBy (.int x_heardMany) w_worth (.int x_drawn) (.int x_came) w_kept w_isKept w_keptCame), (b1, aI cT n_b1 f_b1), (q_asked, aI cT 7 (upd (upd (upd (upd (upd (upd f_asked (0 : Int32).toNatClampNeg (f_b1 ((12 : Int32) + p2).toNatClampNeg)) (1 : Int32).toNatClampNeg (f_b1 ((20 : Int32) + p2).toNatClampNeg)) (2 : Int32).toNatClampNeg (f_b1 ((28 : Int32) + p2).toNatClampNeg)) (3 : Int32).toNatClampNeg p4) (4 : Int32).toNatClampNeg (f_b1 p3.toNatClampNeg)) (5 : Int32).toNatClampNeg (f_b1 ((6 : Int32) + p3).toNatClampNeg))), (q_rule, aB cT 40 f_rule)]) rfl dX8_purrIn_86 (fun H locs hP hD hS => ?_)
  refine lv_aload_n hx hb dX8_purrIn_87 rfl (lv_at hl 1 rfl) ?_
  refine gf_X8_30 C0 hP 0 rfl rfl dX8_purrIn_88 ?_
  refine lv_bipush (v := (6 : Int32)) hx hb dX8_purrIn_91 (by decide) ?_
  refine lv_aload_n hx hb dX8_purrIn_93 rfl (lv_at hl 2 rfl) ?_
  refine lv_bipush (v := (45 : Int32)) hx hb dX8_purrIn_94 (by decide) ?_
  obtain ⟨g_96, hg⟩ := hg
  refine k_iald C0 hP 1 rfl g_96 dX8_purrIn_96 ?_
  refine lv_bipush (v := (7 : Int32)) hx hb dX8_purrIn_97 (by decide) ?_
  obtain ⟨g_99, hg⟩ := hg
  refine lv_irem hx hb dX8_purrIn_99 g_99 ?_
  obtain ⟨g_100, hg⟩ := hg
  refine k_iast C0 hP hD hS 2 rfl g_100 (ws' := [(h, oX8 w_now (.int x_arches) (.int x_cats) w_text (.int x_typed) w_row (.int x_rowMany) (.int x_thrown) w_read (.int x_length) (.int x_top) (.int x_at) (.int x_wrong) w_told (.ref q_rule) w_otherRule (.int x_ruleSize) (.int x_isAsked) (.ref q_asked) w_undos (.int x_undoMany) w_aside w_then w_hold (.int x_dropped) w_acts w_guarded w_train (.int x_trolleyEnd) w_feltOf w_feltBy (.int x_feltMany) w_many w_heardOf w_heardBy (.int x_heardMany) w_worth (.int x_drawn) (.int x_came) w_kept w_isKept w_keptCame), (b1, aI cT n_b1 f_b1), (q_asked, aI cT 7 (upd (upd (upd (upd (upd (upd (upd f_asked (0 : Int32).toNatClampNeg (f_b1 ((12 : Int32) + p2).toNatClampNeg)) (1 : Int32).toNatClampNeg (f_b1 ((20 : Int32) + p2).toNatClampNeg)) (2 : Int32).toNatClampNeg (f_b1 ((28 : Int32) + p2).toNatClampNeg)) (3 : Int32).toNatClampNeg p4) (4 : Int32).toNatClampNeg (f_b1 p3.toNatClampNeg)) (5 : Int32).toNatClampNeg (f_b1 ((6 : Int32) + p3).toNatClampNeg)) (6 : Int32).toNatClampNeg ((f_b1 (45 : Int32).toNatClampNeg) - (f_b1 (45 : Int32).toNatClampNeg) / (7 : Int32) * (7 : Int32)))), (q_rule, aB cT 40 f_rule)]) rfl dX8_purrIn_100 (fun H locs hP hD hS => ?_)
  refine lv_aload_n hx hb dX8_purrIn_101 rfl (lv_at hl 1 rfl) ?_
  refine lv_aload_n hx hb dX8_purrIn_102 rfl (lv_at hl 1 rfl) ?_
  refine gf_X8_24 C0 hP 0 rfl rfl dX8_purrIn_103 ?_
  refine lv_aload_n hx hb dX8_purrIn_106 rfl (lv_at hl 1 rfl) ?_
  refine gf_X8_186 C0 hP 0 rfl rfl dX8_purrIn_107 ?_
  refine lv_bipush (v := (40 : Int32)) hx hb dX8_purrIn_110 (by decide) ?_
  refine k_Vv (rest := []) (wr := [(b1, aI cT n_b1 f_b1), (q_asked, aI cT 7 (upd (upd (upd (upd (upd (upd (upd f_asked (0 : Int32).toNatClampNeg (f_b1 ((12 : Int32) + p2).toNatClampNeg)) (1 : Int32).toNatClampNeg (f_b1 ((20 : Int32) + p2).toNatClampNeg)) (2 : Int32).toNatClampNeg (f_b1 ((28 : Int32) + p2).toNatClampNeg)) (3 : Int32).toNatClampNeg p4) (4 : Int32).toNatClampNeg (f_b1 p3.toNatClampNeg)) (5 : Int32).toNatClampNeg (f_b1 ((6 : Int32) + p3).toNatClampNeg)) (6 : Int32).toNatClampNeg ((f_b1 (45 : Int32).toNatClampNeg) - (f_b1 (45 : Int32).toNatClampNeg) / (7 : Int32) * (7 : Int32)))), (q_rule, aB cT 40 f_rule)]) (w2 := fun u_112 => [(b1, aI cT n_b1 f_b1), (q_asked, aI cT 7 (upd (upd (upd (upd (upd (upd (upd f_asked (0 : Int32).toNatClampNeg (f_b1 ((12 : Int32) + p2).toNatClampNeg)) (1 : Int32).toNatClampNeg (f_b1 ((20 : Int32) + p2).toNatClampNeg)) (2 : Int32).toNatClampNeg (f_b1 ((28 : Int32) + p2).toNatClampNeg)) (3 : Int32).toNatClampNeg p4) (4 : Int32).toNatClampNeg (f_b1 p3.toNatClampNeg)) (5 : Int32).toNatClampNeg (f_b1 ((6 : Int32) + p3).toNatClampNeg)) (6 : Int32).toNatClampNeg ((f_b1 (45 : Int32).toNatClampNeg) - (f_b1 (45 : Int32).toNatClampNeg) / (7 : Int32) * (7 : Int32)))), (q_rule, aB cT 40 f_rule), (h, oX8 w_now (.int x_arches) (.int x_cats) w_text (.int x_typed) w_row (.int x_rowMany) (.int x_thrown) (.ref q_rule) (.int u_112.1) (.int u_112.2.1) (.int u_112.2.2.1) (.int u_112.2.2.2) w_told (.ref q_rule) w_otherRule (.int x_ruleSize) (.int x_isAsked) (.ref q_asked) w_undos (.int x_undoMany) w_aside w_then w_hold (.int x_dropped) w_acts w_guarded w_train (.int x_trolleyEnd) w_feltOf w_feltBy (.int x_feltMany) w_many w_heardOf w_heardBy (.int x_heardMany) w_worth (.int x_drawn) (.int x_came) w_kept w_isKept w_keptCame)]) C0 lk_X8_117 (c_X8_begin l D cT F h q_rule x_ruleSize (40 : Int32) w_now x_arches x_cats w_text x_typed w_row x_rowMany x_thrown w_read x_length x_top x_at x_wrong w_told (.ref q_rule) w_otherRule x_ruleSize x_isAsked (.ref q_asked) w_undos x_undoMany w_aside w_then w_hold x_dropped w_acts w_guarded w_train x_trolleyEnd w_feltOf w_feltBy x_feltMany w_many w_heardOf w_heardBy x_heardMany w_worth x_drawn x_came w_kept w_isKept w_keptCame _ hg) hP hD hS hA [0] [1, 2, 3] (by decide +kernel) rfl rfl (fun _ => rfl) rfl rfl ⟨Nat.le_of_ble_eq_true rfl, Nat.le_of_ble_eq_true rfl⟩ rfl hl.1 rfl (Nat.le_of_ble_eq_true rfl) dX8_purrIn_112 ⟨Nat.le_of_ble_eq_true rfl, Nat.le_of_ble_eq_true rfl⟩ ?_
  intro u_112 H locs hg hP hD hS
  refine lv_aload_n hx hb dX8_purrIn_115 rfl (lv_at hl 1 rfl) ?_
  refine lv_iconst (v := (1 : Int32)) hx hb dX8_purrIn_116 (by decide) ?_
  refine pf_X8_179 C0 hP hD hS 3 rfl (Nat.le_of_ble_eq_true rfl) (Or.inr rfl) (ws2 := [(b1, aI cT n_b1 f_b1), (q_asked, aI cT 7 (upd (upd (upd (upd (upd (upd (upd f_asked (0 : Int32).toNatClampNeg (f_b1 ((12 : Int32) + p2).toNatClampNeg)) (1 : Int32).toNatClampNeg (f_b1 ((20 : Int32) + p2).toNatClampNeg)) (2 : Int32).toNatClampNeg (f_b1 ((28 : Int32) + p2).toNatClampNeg)) (3 : Int32).toNatClampNeg p4) (4 : Int32).toNatClampNeg (f_b1 p3.toNatClampNeg)) (5 : Int32).toNatClampNeg (f_b1 ((6 : Int32) + p3).toNatClampNeg)) (6 : Int32).toNatClampNeg ((f_b1 (45 : Int32).toNatClampNeg) - (f_b1 (45 : Int32).toNatClampNeg) / (7 : Int32) * (7 : Int32)))), (q_rule, aB cT 40 f_rule), (h, oX8 w_now (.int x_arches) (.int x_cats) w_text (.int x_typed) w_row (.int x_rowMany) (.int x_thrown) (.ref q_rule) (.int u_112.1) (.int u_112.2.1) (.int u_112.2.2.1) (.int u_112.2.2.2) w_told (.ref q_rule) w_otherRule (.int x_ruleSize) (.int (1 : Int32)) (.ref q_asked) w_undos (.int x_undoMany) w_aside w_then w_hold (.int x_dropped) w_acts w_guarded w_train (.int x_trolleyEnd) w_feltOf w_feltBy (.int x_feltMany) w_many w_heardOf w_heardBy (.int x_heardMany) w_worth (.int x_drawn) (.int x_came) w_kept w_isKept w_keptCame)]) rfl dX8_purrIn_117 (fun H locs hP hD hS => ?_)
  refine lv_aload_n hx hb dX8_purrIn_120 rfl (lv_at hl 1 rfl) ?_
  refine lv_iconst (v := (0 : Int32)) hx hb dX8_purrIn_121 (by decide) ?_
  refine k_Vi (rest := []) (wr := [(b1, aI cT n_b1 f_b1)]) (w2 := fun u_122 => [(b1, aI cT n_b1 f_b1), (h, oX8 w_now (.int x_arches) (.int x_cats) w_text (.int x_typed) w_row (.int x_rowMany) (.int x_thrown) (.ref q_rule) (.int u_112.1) (.int u_112.2.1) (.int u_122.1) (.int u_122.2) w_told (.ref q_rule) w_otherRule (.int x_ruleSize) (.int (1 : Int32)) (.ref q_asked) w_undos (.int x_undoMany) w_aside w_then w_hold (.int x_dropped) w_acts w_guarded w_train (.int x_trolleyEnd) w_feltOf w_feltBy (.int x_feltMany) w_many w_heardOf w_heardBy (.int x_heardMany) w_worth (.int x_drawn) (.int x_came) w_kept w_isKept w_keptCame), (q_rule, aB cT 40 f_rule), (q_asked, aI cT 7 (upd (upd (upd (upd (upd (upd (upd f_asked (0 : Int32).toNatClampNeg (f_b1 ((12 : Int32) + p2).toNatClampNeg)) (1 : Int32).toNatClampNeg (f_b1 ((20 : Int32) + p2).toNatClampNeg)) (2 : Int32).toNatClampNeg (f_b1 ((28 : Int32) + p2).toNatClampNeg)) (3 : Int32).toNatClampNeg p4) (4 : Int32).toNatClampNeg (f_b1 p3.toNatClampNeg)) (5 : Int32).toNatClampNeg (f_b1 ((6 : Int32) + p3).toNatClampNeg)) (6 : Int32).toNatClampNeg ((f_b1 (45 : Int32).toNatClampNeg) - (f_b1 (45 : Int32).toNatClampNeg) / (7 : Int32) * (7 : Int32))))]) C0 lk_X8_166 (c_X8_heldT l D cT F h (0 : Int32) w_now x_arches x_cats w_text x_typed w_row x_rowMany x_thrown q_rule u_112.1 u_112.2.1 u_112.2.2.1 u_112.2.2.2 w_told (.ref q_rule) w_otherRule x_ruleSize (1 : Int32) q_asked w_undos x_undoMany w_aside w_then w_hold x_dropped w_acts w_guarded w_train x_trolleyEnd w_feltOf w_feltBy x_feltMany w_many w_heardOf w_heardBy x_heardMany w_worth x_drawn x_came w_kept w_isKept w_keptCame 40 f_rule (upd (upd (upd (upd (upd (upd (upd f_asked (0 : Int32).toNatClampNeg (f_b1 ((12 : Int32) + p2).toNatClampNeg)) (1 : Int32).toNatClampNeg (f_b1 ((20 : Int32) + p2).toNatClampNeg)) (2 : Int32).toNatClampNeg (f_b1 ((28 : Int32) + p2).toNatClampNeg)) (3 : Int32).toNatClampNeg p4) (4 : Int32).toNatClampNeg (f_b1 p3.toNatClampNeg)) (5 : Int32).toNatClampNeg (f_b1 ((6 : Int32) + p3).toNatClampNeg)) (6 : Int32).toNatClampNeg ((f_b1 (45 : Int32).toNatClampNeg) - (f_b1 (45 : Int32).toNatClampNeg) / (7 : Int32) * (7 : Int32))) _ hg) hP hD hS hA [3, 2, 1] [0] (by decide +kernel) rfl rfl (fun _ => rfl) rfl rfl ⟨Nat.le_of_ble_eq_true rfl, Nat.le_of_ble_eq_true rfl⟩ rfl hl.1 rfl (Nat.le_of_ble_eq_true rfl) dX8_purrIn_122 ⟨Nat.le_of_ble_eq_true rfl, Nat.le_of_ble_eq_true rfl⟩ ?_
  intro r_122 u_122 H locs hg hP hD hS
  refine lv_istore (lv' := [(5, .int r_122), (0, .ref h), (1, .ref b1), (2, .int p2), (3, .int p3), (4, .int p4)]) hx hb dX8_purrIn_125 hl (by decide) rfl (fun ls hl => ?_)
  refine lv_aload_n hx hb dX8_purrIn_127 rfl (lv_at hl 1 rfl) ?_
  refine lv_iconst (v := (0 : Int32)) hx hb dX8_purrIn_128 (by decide) ?_
  refine pf_X8_179 C0 hP hD hS 1 rfl (Nat.le_of_ble_eq_true rfl) (Or.inl rfl) (ws2 := [(b1, aI cT n_b1 f_b1), (h, oX8 w_now (.int x_arches) (.int x_cats) w_text (.int x_typed) w_row (.int x_rowMany) (.int x_thrown) (.ref q_rule) (.int u_112.1) (.int u_112.2.1) (.int u_122.1) (.int u_122.2) w_told (.ref q_rule) w_otherRule (.int x_ruleSize) (.int (0 : Int32)) (.ref q_asked) w_undos (.int x_undoMany) w_aside w_then w_hold (.int x_dropped) w_acts w_guarded w_train (.int x_trolleyEnd) w_feltOf w_feltBy (.int x_feltMany) w_many w_heardOf w_heardBy (.int x_heardMany) w_worth (.int x_drawn) (.int x_came) w_kept w_isKept w_keptCame), (q_rule, aB cT 40 f_rule), (q_asked, aI cT 7 (upd (upd (upd (upd (upd (upd (upd f_asked (0 : Int32).toNatClampNeg (f_b1 ((12 : Int32) + p2).toNatClampNeg)) (1 : Int32).toNatClampNeg (f_b1 ((20 : Int32) + p2).toNatClampNeg)) (2 : Int32).toNatClampNeg (f_b1 ((28 : Int32) + p2).toNatClampNeg)) (3 : Int32).toNatClampNeg p4) (4 : Int32).toNatClampNeg (f_b1 p3.toNatClampNeg)) (5 : Int32).toNatClampNeg (f_b1 ((6 : Int32) + p3).toNatClampNeg)) (6 : Int32).toNatClampNeg ((f_b1 (45 : Int32).toNatClampNeg) - (f_b1 (45 : Int32).toNatClampNeg) / (7 : Int32) * (7 : Int32))))]) rfl dX8_purrIn_129 (fun H locs hP hD hS => ?_)
  exact L132 r_122 (.ref q_rule) u_112.1 u_112.2.1 u_122.1 u_122.2 (0 : Int32) (upd (upd (upd (upd (upd (upd (upd f_asked (0 : Int32).toNatClampNeg (f_b1 ((12 : Int32) + p2).toNatClampNeg)) (1 : Int32).toNatClampNeg (f_b1 ((20 : Int32) + p2).toNatClampNeg)) (2 : Int32).toNatClampNeg (f_b1 ((28 : Int32) + p2).toNatClampNeg)) (3 : Int32).toNatClampNeg p4) (4 : Int32).toNatClampNeg (f_b1 p3.toNatClampNeg)) (5 : Int32).toNatClampNeg (f_b1 ((6 : Int32) + p3).toNatClampNeg)) (6 : Int32).toNatClampNeg ((f_b1 (45 : Int32).toNatClampNeg) - (f_b1 (45 : Int32).toNatClampNeg) / (7 : Int32) * (7 : Int32))) _ _ _ hg (subP hP [1, 0, 3, 2] rfl) (hD.sub [1, 0, 3, 2] (nd2_ok _ (by decide +kernel)) rfl) hS (lv_sub hl [0] rfl)
