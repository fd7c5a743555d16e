theorem dX12_treads_0 : decode cX12_treads 0 = .ok (.aload_n 0, 1) := by decide +kernel
theorem dX12_treads_1 : decode cX12_treads 1 = .ok (.iload_n 2, 1) := by decide +kernel
theorem dX12_treads_2 : decode cX12_treads 2 = .ok (.iconst (-1), 1) := by decide +kernel
theorem dX12_treads_3 : decode cX12_treads 3 = .ok (.invokevirtual 265, 3) := by decide +kernel
theorem dX12_treads_6 : decode cX12_treads 6 = .ok (.istore 4, 2) := by decide +kernel
theorem dX12_treads_8 : decode cX12_treads 8 = .ok (.aload_n 0, 1) := by decide +kernel
theorem dX12_treads_9 : decode cX12_treads 9 = .ok (.getfield 35, 3) := by decide +kernel
theorem dX12_treads_12 : decode cX12_treads 12 = .ok (.aload_n 0, 1) := by decide +kernel
theorem dX12_treads_13 : decode cX12_treads 13 = .ok (.getfield 262, 3) := by decide +kernel
theorem dX12_treads_16 : decode cX12_treads 16 = .ok (.iload 4, 2) := by decide +kernel
theorem dX12_treads_18 : decode cX12_treads 18 = .ok (.iconst (-1), 1) := by decide +kernel
theorem dX12_treads_19 : decode cX12_treads 19 = .ok (.if_icmp .eq 25, 3) := by decide +kernel
theorem dX12_treads_22 : decode cX12_treads 22 = .ok (.iload_n 3, 1) := by decide +kernel
theorem dX12_treads_23 : decode cX12_treads 23 = .ok (.aload_n 0, 1) := by decide +kernel
theorem dX12_treads_24 : decode cX12_treads 24 = .ok (.getfield 26, 3) := by decide +kernel
theorem dX12_treads_27 : decode cX12_treads 27 = .ok (.iload 4, 2) := by decide +kernel
theorem dX12_treads_29 : decode cX12_treads 29 = .ok (.iaload, 1) := by decide +kernel
theorem dX12_treads_30 : decode cX12_treads 30 = .ok (.isub, 1) := by decide +kernel
theorem dX12_treads_31 : decode cX12_treads 31 = .ok (.aload_n 0, 1) := by decide +kernel
theorem dX12_treads_32 : decode cX12_treads 32 = .ok (.iconst 1, 1) := by decide +kernel
theorem dX12_treads_33 : decode cX12_treads 33 = .ok (.invokevirtual 205, 3) := by decide +kernel
theorem dX12_treads_36 : decode cX12_treads 36 = .ok (.if_icmp .gt 8, 3) := by decide +kernel
theorem dX12_treads_39 : decode cX12_treads 39 = .ok (.iload 4, 2) := by decide +kernel
theorem dX12_treads_41 : decode cX12_treads 41 = .ok (.goto 4, 3) := by decide +kernel
theorem dX12_treads_44 : decode cX12_treads 44 = .ok (.iconst (-1), 1) := by decide +kernel
theorem dX12_treads_45 : decode cX12_treads 45 = .ok (.iastore, 1) := by decide +kernel
theorem dX12_treads_46 : decode cX12_treads 46 = .ok (.aload_n 0, 1) := by decide +kernel
theorem dX12_treads_47 : decode cX12_treads 47 = .ok (.getfield 20, 3) := by decide +kernel
theorem dX12_treads_50 : decode cX12_treads 50 = .ok (.aload_n 0, 1) := by decide +kernel
theorem dX12_treads_51 : decode cX12_treads 51 = .ok (.getfield 262, 3) := by decide +kernel
theorem dX12_treads_54 : decode cX12_treads 54 = .ok (.iload_n 1, 1) := by decide +kernel
theorem dX12_treads_55 : decode cX12_treads 55 = .ok (.iastore, 1) := by decide +kernel
theorem dX12_treads_56 : decode cX12_treads 56 = .ok (.aload_n 0, 1) := by decide +kernel
theorem dX12_treads_57 : decode cX12_treads 57 = .ok (.getfield 23, 3) := by decide +kernel
theorem dX12_treads_60 : decode cX12_treads 60 = .ok (.aload_n 0, 1) := by decide +kernel
theorem dX12_treads_61 : decode cX12_treads 61 = .ok (.getfield 262, 3) := by decide +kernel
theorem dX12_treads_64 : decode cX12_treads 64 = .ok (.iload_n 2, 1) := by decide +kernel
theorem dX12_treads_65 : decode cX12_treads 65 = .ok (.iastore, 1) := by decide +kernel
theorem dX12_treads_66 : decode cX12_treads 66 = .ok (.aload_n 0, 1) := by decide +kernel
theorem dX12_treads_67 : decode cX12_treads 67 = .ok (.getfield 26, 3) := by decide +kernel
theorem dX12_treads_70 : decode cX12_treads 70 = .ok (.aload_n 0, 1) := by decide +kernel
theorem dX12_treads_71 : decode cX12_treads 71 = .ok (.getfield 262, 3) := by decide +kernel
theorem dX12_treads_74 : decode cX12_treads 74 = .ok (.iload_n 3, 1) := by decide +kernel
theorem dX12_treads_75 : decode cX12_treads 75 = .ok (.iastore, 1) := by decide +kernel
theorem dX12_treads_76 : decode cX12_treads 76 = .ok (.aload_n 0, 1) := by decide +kernel
theorem dX12_treads_77 : decode cX12_treads 77 = .ok (.getfield 29, 3) := by decide +kernel
theorem dX12_treads_80 : decode cX12_treads 80 = .ok (.aload_n 0, 1) := by decide +kernel
theorem dX12_treads_81 : decode cX12_treads 81 = .ok (.getfield 262, 3) := by decide +kernel
theorem dX12_treads_84 : decode cX12_treads 84 = .ok (.aload_n 0, 1) := by decide +kernel
theorem dX12_treads_85 : decode cX12_treads 85 = .ok (.iload_n 1, 1) := by decide +kernel
theorem dX12_treads_86 : decode cX12_treads 86 = .ok (.iload_n 3, 1) := by decide +kernel
theorem dX12_treads_87 : decode cX12_treads 87 = .ok (.invokevirtual 268, 3) := by decide +kernel
theorem dX12_treads_90 : decode cX12_treads 90 = .ok (.iastore, 1) := by decide +kernel
theorem dX12_treads_91 : decode cX12_treads 91 = .ok (.aload_n 0, 1) := by decide +kernel
theorem dX12_treads_92 : decode cX12_treads 92 = .ok (.getfield 32, 3) := by decide +kernel
theorem dX12_treads_95 : decode cX12_treads 95 = .ok (.aload_n 0, 1) := by decide +kernel
theorem dX12_treads_96 : decode cX12_treads 96 = .ok (.getfield 262, 3) := by decide +kernel
theorem dX12_treads_99 : decode cX12_treads 99 = .ok (.aload_n 0, 1) := by decide +kernel
theorem dX12_treads_100 : decode cX12_treads 100 = .ok (.iload_n 1, 1) := by decide +kernel
theorem dX12_treads_101 : decode cX12_treads 101 = .ok (.aload_n 0, 1) := by decide +kernel
theorem dX12_treads_102 : decode cX12_treads 102 = .ok (.getfield 29, 3) := by decide +kernel
theorem dX12_treads_105 : decode cX12_treads 105 = .ok (.aload_n 0, 1) := by decide +kernel
theorem dX12_treads_106 : decode cX12_treads 106 = .ok (.getfield 262, 3) := by decide +kernel
theorem dX12_treads_109 : decode cX12_treads 109 = .ok (.iaload, 1) := by decide +kernel
theorem dX12_treads_110 : decode cX12_treads 110 = .ok (.iload_n 2, 1) := by decide +kernel
theorem dX12_treads_111 : decode cX12_treads 111 = .ok (.invokevirtual 271, 3) := by decide +kernel
theorem dX12_treads_114 : decode cX12_treads 114 = .ok (.iastore, 1) := by decide +kernel
theorem dX12_treads_115 : decode cX12_treads 115 = .ok (.aload_n 0, 1) := by decide +kernel
theorem dX12_treads_116 : decode cX12_treads 116 = .ok (.getfield 38, 3) := by decide +kernel
theorem dX12_treads_119 : decode cX12_treads 119 = .ok (.aload_n 0, 1) := by decide +kernel
theorem dX12_treads_120 : decode cX12_treads 120 = .ok (.getfield 262, 3) := by decide +kernel
theorem dX12_treads_123 : decode cX12_treads 123 = .ok (.aload_n 0, 1) := by decide +kernel
theorem dX12_treads_124 : decode cX12_treads 124 = .ok (.aload_n 0, 1) := by decide +kernel
theorem dX12_treads_125 : decode cX12_treads 125 = .ok (.getfield 32, 3) := by decide +kernel
theorem dX12_treads_128 : decode cX12_treads 128 = .ok (.aload_n 0, 1) := by decide +kernel
theorem dX12_treads_129 : decode cX12_treads 129 = .ok (.getfield 262, 3) := by decide +kernel
theorem dX12_treads_132 : decode cX12_treads 132 = .ok (.iaload, 1) := by decide +kernel
theorem dX12_treads_133 : decode cX12_treads 133 = .ok (.iload_n 2, 1) := by decide +kernel
theorem dX12_treads_134 : decode cX12_treads 134 = .ok (.invokevirtual 275, 3) := by decide +kernel
theorem dX12_treads_137 : decode cX12_treads 137 = .ok (.iastore, 1) := by decide +kernel
theorem dX12_treads_138 : decode cX12_treads 138 = .ok (.aload_n 0, 1) := by decide +kernel
theorem dX12_treads_139 : decode cX12_treads 139 = .ok (.getfield 41, 3) := by decide +kernel
theorem dX12_treads_142 : decode cX12_treads 142 = .ok (.aload_n 0, 1) := by decide +kernel
theorem dX12_treads_143 : decode cX12_treads 143 = .ok (.getfield 262, 3) := by decide +kernel
theorem dX12_treads_146 : decode cX12_treads 146 = .ok (.aload_n 0, 1) := by decide +kernel
theorem dX12_treads_147 : decode cX12_treads 147 = .ok (.getfield 35, 3) := by decide +kernel
theorem dX12_treads_150 : decode cX12_treads 150 = .ok (.aload_n 0, 1) := by decide +kernel
theorem dX12_treads_151 : decode cX12_treads 151 = .ok (.getfield 262, 3) := by decide +kernel
theorem dX12_treads_154 : decode cX12_treads 154 = .ok (.iaload, 1) := by decide +kernel
theorem dX12_treads_155 : decode cX12_treads 155 = .ok (.iconst (-1), 1) := by decide +kernel
theorem dX12_treads_156 : decode cX12_treads 156 = .ok (.if_icmp .ne 7, 3) := by decide +kernel
theorem dX12_treads_159 : decode cX12_treads 159 = .ok (.iconst 0, 1) := by decide +kernel
theorem dX12_treads_160 : decode cX12_treads 160 = .ok (.goto 24, 3) := by decide +kernel
theorem dX12_treads_163 : decode cX12_treads 163 = .ok (.aload_n 0, 1) := by decide +kernel
theorem dX12_treads_164 : decode cX12_treads 164 = .ok (.aload_n 0, 1) := by decide +kernel
theorem dX12_treads_165 : decode cX12_treads 165 = .ok (.getfield 32, 3) := by decide +kernel
theorem dX12_treads_168 : decode cX12_treads 168 = .ok (.aload_n 0, 1) := by decide +kernel
theorem dX12_treads_169 : decode cX12_treads 169 = .ok (.getfield 35, 3) := by decide +kernel
theorem dX12_treads_172 : decode cX12_treads 172 = .ok (.aload_n 0, 1) := by decide +kernel
theorem dX12_treads_173 : decode cX12_treads 173 = .ok (.getfield 262, 3) := by decide +kernel
theorem dX12_treads_176 : decode cX12_treads 176 = .ok (.iaload, 1) := by decide +kernel
theorem dX12_treads_177 : decode cX12_treads 177 = .ok (.iaload, 1) := by decide +kernel
theorem dX12_treads_178 : decode cX12_treads 178 = .ok (.iconst 2, 1) := by decide +kernel
theorem dX12_treads_179 : decode cX12_treads 179 = .ok (.idiv, 1) := by decide +kernel
theorem dX12_treads_180 : decode cX12_treads 180 = .ok (.iload_n 2, 1) := by decide +kernel
theorem dX12_treads_181 : decode cX12_treads 181 = .ok (.invokevirtual 275, 3) := by decide +kernel
theorem dX12_treads_184 : decode cX12_treads 184 = .ok (.iastore, 1) := by decide +kernel
theorem dX12_treads_185 : decode cX12_treads 185 = .ok (.aload_n 0, 1) := by decide +kernel
theorem dX12_treads_186 : decode cX12_treads 186 = .ok (.getfield 53, 3) := by decide +kernel
theorem dX12_treads_189 : decode cX12_treads 189 = .ok (.iload_n 1, 1) := by decide +kernel
theorem dX12_treads_190 : decode cX12_treads 190 = .ok (.iload_n 3, 1) := by decide +kernel
theorem dX12_treads_191 : decode cX12_treads 191 = .ok (.iastore, 1) := by decide +kernel
theorem dX12_treads_192 : decode cX12_treads 192 = .ok (.aload_n 0, 1) := by decide +kernel
theorem dX12_treads_193 : decode cX12_treads 193 = .ok (.dup, 1) := by decide +kernel
theorem dX12_treads_194 : decode cX12_treads 194 = .ok (.getfield 262, 3) := by decide +kernel
theorem dX12_treads_197 : decode cX12_treads 197 = .ok (.iconst 1, 1) := by decide +kernel
theorem dX12_treads_198 : decode cX12_treads 198 = .ok (.iadd, 1) := by decide +kernel
theorem dX12_treads_199 : decode cX12_treads 199 = .ok (.putfield 262, 3) := by decide +kernel
theorem dX12_treads_202 : decode cX12_treads 202 = .ok (.return_, 1) := by decide +kernel
def w_X12_treads_184 (o : Nat) (a1 : Int32) (a2 : Int32) (a3 : Int32) (post : mI → Prop) (I : mI) (s1 : Int32) (s2 : Int32) : Prop := vp_in s1 640 ∧ ∀ I14, I14 = up2 I (o + 11) s1.toNatClampNeg s2 → vp_in a1 6 ∧ ∀ I15, I15 = up2 I14 (o + 15) a1.toNatClampNeg a3 → ∀ I16, I16 = up2 I15 o 25 ((I15 o 25) + 1) → post I16
set_option maxRecDepth 100000 in
set_option maxHeartbeats 4000000 in
theorem s_X12_treads_184 {p : Program} {l : Launch} {e : Env} {s : State} {m : MethodId} {args : Array Value} {below : List Frame} {meth : Method} {c : Code} {D : va_G} {cA : Nat → ClassId} {Z : mZ} {bs : Ad} {n : Nat} {K : mK} {R : mR} {L : mL} (E : Ev p s m args c cX12_treads 5 RX12 D cA Z bs) (hr : meth.sig.returnType = none) (hlk : meth.locks = false) {o : Nat} {a1 : Int32} {a2 : Int32} {a3 : Int32} (ho : isX12 K R o) {post : mI → Prop} {I : mI} {s1 : Int32} {s2 : Int32} {H : Heap} {locs : List Loc} {ls : Array Slot} (hw : w_X12_treads_184 o a1 a2 a3 post I s1 s2) (hM : mm D cA bs (n, K, R, I, L) H) (hS : va_S (Ab bs) s.heap H locs) (hl : lv_has ls 5 [(0, .ref (ad bs o)), (1, .int a1), (3, .int a3)]) : W p l e ({ frames := 4, cells := 0, slots := 0, locals := 90 } : Room) s m args below meth c H locs 0 0 (MQ below (QV D cA bs (fun u => ∃ I', u = (n, K, R, I', L) ∧ post I')) args s 0 0 (Ab bs)) (F0 m 184 ls [.int s2, .int s1, .ref (ad bs (o + 11))]) := by
  have hx := E.1.1
  have hb := E.1.2.1
  obtain ⟨hv, hw⟩ := hw
  refine m_iast E hM hS (isO_at ho 10 rfl).2 hv dX12_treads_184 (fun I14 H locs eI14 hM hS => ?_)
  have hw := hw I14 eI14
  refine lv_aload_n hx hb dX12_treads_185 rfl (lv_at hl 0 rfl) ?_
  refine m_getr E hM fs_X12_53 ho.1 (isO_at ho 14 rfl).1 dX12_treads_186 ?_
  refine lv_iload_n hx hb dX12_treads_189 rfl (lv_at hl 1 rfl) ?_
  refine lv_iload_n hx hb dX12_treads_190 rfl (lv_at hl 2 rfl) ?_
  obtain ⟨hv, hw⟩ := hw
  refine m_iast E hM hS (isO_at ho 14 rfl).2 hv dX12_treads_191 (fun I15 H locs eI15 hM hS => ?_)
  have hw := hw I15 eI15
  refine lv_aload_n hx hb dX12_treads_192 rfl (lv_at hl 0 rfl) ?_
  refine lv_dup hx hb dX12_treads_193 rfl ?_
  refine m_geti E hM fs_X12_262 ho.1 dX12_treads_194 ?_
  refine lv_iconst (v := 1) hx hb dX12_treads_197 (by decide) ?_
  refine lv_iadd hx hb dX12_treads_198 ?_
  refine m_puti E hM hS fp_X12_262 ho.1 rfl rfl dX12_treads_199 (fun I16 H locs eI16 hM hS => ?_)
  have hw := hw I16 eI16
  exact m_retv hx hb hr hlk hM hS ⟨_, rfl, hw⟩ dX12_treads_202
def w_X12_treads_45 (o : Nat) (a1 : Int32) (a2 : Int32) (a3 : Int32) (post : mI → Prop) (I : mI) (s1 : Int32) (s2 : Int32) : Prop := vp_in s1 640 ∧ ∀ I3, I3 = up2 I (o + 9) s1.toNatClampNeg s2 → vp_in (I3 o 25) 640 ∧ ∀ I4, I4 = up2 I3 (o + 4) ((I3 o 25).toNatClampNeg) a1 → vp_in (I4 o 25) 640 ∧ ∀ I5, I5 = up2 I4 (o + 5) ((I4 o 25).toNatClampNeg) a2 → vp_in (I5 o 25) 640 ∧ ∀ I6, I6 = up2 I5 (o + 6) ((I5 o 25).toNatClampNeg) a3 → w_X12_shoeOf I6 o a1 a3 (fun r7 => vp_in (I6 o 25) 640 ∧ ∀ I8, I8 = up2 I6 (o + 7) ((I6 o 25).toNatClampNeg) r7 → vp_in (I8 o 25) 640 ∧ w_X12_loudBy I8 o a1 (I8 (o + 7) (I8 o 25).toNatClampNeg) a2 (fun r9 => vp_in (I8 o 25) 640 ∧ ∀ I10, I10 = up2 I8 (o + 8) ((I8 o 25).toNatClampNeg) r9 → vp_in (I10 o 25) 640 ∧ w_X12_ears I10 o (I10 (o + 8) (I10 o 25).toNatClampNeg) a2 (fun r11 => vp_in (I10 o 25) 640 ∧ ∀ I12, I12 = up2 I10 (o + 10) ((I10 o 25).toNatClampNeg) r11 → vp_in (I12 o 25) 640 ∧ (¬ (I12 (o + 9) (I12 o 25).toNatClampNeg) = (-1) → vp_in (I12 o 25) 640 ∧ vp_in (I12 (o + 9) (I12 o 25).toNatClampNeg) 640 ∧ w_X12_ears I12 o ((I12 (o + 8) (I12 (o + 9) (I12 o 25).toNatClampNeg).toNatClampNeg) / 2) a2 (fun r13 => (w_X12_treads_184 o a1 a2 a3 post) I12 (I12 o 25) r13)) ∧ ((I12 (o + 9) (I12 o 25).toNatClampNeg) = (-1) → (w_X12_treads_184 o a1 a2 a3 post) I12 (I12 o 25) 0))))
set_option maxRecDepth 100000 in
set_option maxHeartbeats 4000000 in
theorem s_X12_treads_45 {p : Program} {l : Launch} {e : Env} {s : State} {m : MethodId} {args : Array Value} {below : List Frame} {meth : Method} {c : Code} {D : va_G} {cA : Nat → ClassId} {Z : mZ} {bs : Ad} {n : Nat} {K : mK} {R : mR} {L : mL} (E : Ev p s m args c cX12_treads 5 RX12 D cA Z bs) (hr : meth.sig.returnType = none) (hlk : meth.locks = false) {o : Nat} {a1 : Int32} {a2 : Int32} {a3 : Int32} (ho : isX12 K R o) {post : mI → Prop} {I : mI} {s1 : Int32} {s2 : Int32} {H : Heap} {locs : List Loc} {ls : Array Slot} (hw : w_X12_treads_45 o a1 a2 a3 post I s1 s2) (hM : mm D cA bs (n, K, R, I, L) H) (hS : va_S (Ab bs) s.heap H locs) (hl : lv_has ls 5 [(0, .ref (ad bs o)), (1, .int a1), (2, .int a2), (3, .int a3)]) : W p l e ({ frames := 4, cells := 0, slots := 0, locals := 90 } : Room) s m args below meth c H locs 0 0 (MQ below (QV D cA bs (fun u => ∃ I', u = (n, K, R, I', L) ∧ post I')) args s 0 0 (Ab bs)) (F0 m 45 ls [.int s2, .int s1, .ref (ad bs (o + 9))]) := by
  have hx := E.1.1
  have hb := E.1.2.1
  obtain ⟨hv, hw⟩ := hw
  refine m_iast E hM hS (isO_at ho 8 rfl).2 hv dX12_treads_45 (fun I3 H locs eI3 hM hS => ?_)
  have hw := hw I3 eI3
  refine lv_aload_n hx hb dX12_treads_46 rfl (lv_at hl 0 rfl) ?_
  refine m_getr E hM fs_X12_20 ho.1 (isO_at ho 3 rfl).1 dX12_treads_47 ?_
  refine lv_aload_n hx hb dX12_treads_50 rfl (lv_at hl 0 rfl) ?_
  refine m_geti E hM fs_X12_262 ho.1 dX12_treads_51 ?_
  refine lv_iload_n hx hb dX12_treads_54 rfl (lv_at hl 1 rfl) ?_
  obtain ⟨hv, hw⟩ := hw
  refine m_iast E hM hS (isO_at ho 3 rfl).2 hv dX12_treads_55 (fun I4 H locs eI4 hM hS => ?_)
  have hw := hw I4 eI4
  refine lv_aload_n hx hb dX12_treads_56 rfl (lv_at hl 0 rfl) ?_
  refine m_getr E hM fs_X12_23 ho.1 (isO_at ho 4 rfl).1 dX12_treads_57 ?_
  refine lv_aload_n hx hb dX12_treads_60 rfl (lv_at hl 0 rfl) ?_
  refine m_geti E hM fs_X12_262 ho.1 dX12_treads_61 ?_
  refine lv_iload_n hx hb dX12_treads_64 rfl (lv_at hl 2 rfl) ?_
  obtain ⟨hv, hw⟩ := hw
  refine m_iast E hM hS (isO_at ho 4 rfl).2 hv dX12_treads_65 (fun I5 H locs eI5 hM hS => ?_)
  have hw := hw I5 eI5
  refine lv_aload_n hx hb dX12_treads_66 rfl (lv_at hl 0 rfl) ?_
  refine m_getr E hM fs_X12_26 ho.1 (isO_at ho 5 rfl).1 dX12_treads_67 ?_
  refine lv_aload_n hx hb dX12_treads_70 rfl (lv_at hl 0 rfl) ?_
  refine m_geti E hM fs_X12_262 ho.1 dX12_treads_71 ?_
  refine lv_iload_n hx hb dX12_treads_74 rfl (lv_at hl 3 rfl) ?_
  obtain ⟨hv, hw⟩ := hw
  refine m_iast E hM hS (isO_at ho 5 rfl).2 hv dX12_treads_75 (fun I6 H locs eI6 hM hS => ?_)
  have hw := hw I6 eI6
  refine lv_aload_n hx hb dX12_treads_76 rfl (lv_at hl 0 rfl) ?_
  refine m_getr E hM fs_X12_29 ho.1 (isO_at ho 6 rfl).1 dX12_treads_77 ?_
  refine lv_aload_n hx hb dX12_treads_80 rfl (lv_at hl 0 rfl) ?_
  refine m_geti E hM fs_X12_262 ho.1 dX12_treads_81 ?_
  refine lv_aload_n hx hb dX12_treads_84 rfl (lv_at hl 0 rfl) ?_
  refine lv_iload_n hx hb dX12_treads_85 rfl (lv_at hl 1 rfl) ?_
  refine lv_iload_n hx hb dX12_treads_86 rfl (lv_at hl 3 rfl) ?_
  refine m_ci (m_runV E hM hS cs_X12_268 ho.1 (by decide) rfl rfl (c_X12_shoeOf ho hw) rfl rfl ⟨Nat.le_of_ble_eq_true rfl, Nat.le_of_ble_eq_true rfl⟩ rfl hl.1 rfl (Nat.le_of_ble_eq_true rfl) dX12_treads_87 ⟨Nat.le_of_ble_eq_true rfl, Nat.le_of_ble_eq_true rfl⟩) hS (fun r7 u H locs hp hM hS => ?_)
  obtain ⟨rfl, hw⟩ := hp
  obtain ⟨hv, hw⟩ := hw
  refine m_iast E hM hS (isO_at ho 6 rfl).2 hv dX12_treads_90 (fun I8 H locs eI8 hM hS => ?_)
  have hw := hw I8 eI8
  refine lv_aload_n hx hb dX12_treads_91 rfl (lv_at hl 0 rfl) ?_
  refine m_getr E hM fs_X12_32 ho.1 (isO_at ho 7 rfl).1 dX12_treads_92 ?_
  refine lv_aload_n hx hb dX12_treads_95 rfl (lv_at hl 0 rfl) ?_
  refine m_geti E hM fs_X12_262 ho.1 dX12_treads_96 ?_
  refine lv_aload_n hx hb dX12_treads_99 rfl (lv_at hl 0 rfl) ?_
  refine lv_iload_n hx hb dX12_treads_100 rfl (lv_at hl 1 rfl) ?_
  refine lv_aload_n hx hb dX12_treads_101 rfl (lv_at hl 0 rfl) ?_
  refine m_getr E hM fs_X12_29 ho.1 (isO_at ho 6 rfl).1 dX12_treads_102 ?_
  refine lv_aload_n hx hb dX12_treads_105 rfl (lv_at hl 0 rfl) ?_
  refine m_geti E hM fs_X12_262 ho.1 dX12_treads_106 ?_
  obtain ⟨hv, hw⟩ := hw
  refine m_iald E hM (isO_at ho 6 rfl).2 hv dX12_treads_109 ?_
  refine lv_iload_n hx hb dX12_treads_110 rfl (lv_at hl 2 rfl) ?_
  refine m_ci (m_runV E hM hS cs_X12_271 ho.1 (by decide) rfl rfl (c_X12_loudBy ho hw) rfl rfl ⟨Nat.le_of_ble_eq_true rfl, Nat.le_of_ble_eq_true rfl⟩ rfl hl.1 rfl (Nat.le_of_ble_eq_true rfl) dX12_treads_111 ⟨Nat.le_of_ble_eq_true rfl, Nat.le_of_ble_eq_true rfl⟩) hS (fun r9 u H locs hp hM hS => ?_)
  obtain ⟨rfl, hw⟩ := hp
  obtain ⟨hv, hw⟩ := hw
  refine m_iast E hM hS (isO_at ho 7 rfl).2 hv dX12_treads_114 (fun I10 H locs eI10 hM hS => ?_)
  have hw := hw I10 eI10
  refine lv_aload_n hx hb dX12_treads_115 rfl (lv_at hl 0 rfl) ?_
  refine m_getr E hM fs_X12_38 ho.1 (isO_at ho 9 rfl).1 dX12_treads_116 ?_
  refine lv_aload_n hx hb dX12_treads_119 rfl (lv_at hl 0 rfl) ?_
  refine m_geti E hM fs_X12_262 ho.1 dX12_treads_120 ?_
  refine lv_aload_n hx hb dX12_treads_123 rfl (lv_at hl 0 rfl) ?_
  refine lv_aload_n hx hb dX12_treads_124 rfl (lv_at hl 0 rfl) ?_
  refine m_getr E hM fs_X12_32 ho.1 (isO_at ho 7 rfl).1 dX12_treads_125 ?_
  refine lv_aload_n hx hb dX12_treads_128 rfl (lv_at hl 0 rfl) ?_
  refine m_geti E hM fs_X12_262 ho.1 dX12_treads_129 ?_
  obtain ⟨hv, hw⟩ := hw
  refine m_iald E hM (isO_at ho 7 rfl).2 hv dX12_treads_132 ?_
  refine lv_iload_n hx hb dX12_treads_133 rfl (lv_at hl 2 rfl) ?_
  refine m_ci (m_runV E hM hS cs_X12_275 ho.1 (by decide) rfl rfl (c_X12_ears ho hw) rfl rfl ⟨Nat.le_of_ble_eq_true rfl, Nat.le_of_ble_eq_true rfl⟩ rfl hl.1 rfl (Nat.le_of_ble_eq_true rfl) dX12_treads_134 ⟨Nat.le_of_ble_eq_true rfl, Nat.le_of_ble_eq_true rfl⟩) hS (fun r11 u H locs hp hM hS => ?_)
  obtain ⟨rfl, hw⟩ := hp
  obtain ⟨hv, hw⟩ := hw
  refine m_iast E hM hS (isO_at ho 9 rfl).2 hv dX12_treads_137 (fun I12 H locs eI12 hM hS => ?_)
  have hw := hw I12 eI12
  refine lv_aload_n hx hb dX12_treads_138 rfl (lv_at hl 0 rfl) ?_
  refine m_getr E hM fs_X12_41 ho.1 (isO_at ho 10 rfl).1 dX12_treads_139 ?_
  refine lv_aload_n hx hb dX12_treads_142 rfl (lv_at hl 0 rfl) ?_
  refine m_geti E hM fs_X12_262 ho.1 dX12_treads_143 ?_
  refine lv_aload_n hx hb dX12_treads_146 rfl (lv_at hl 0 rfl) ?_
  refine m_getr E hM fs_X12_35 ho.1 (isO_at ho 8 rfl).1 dX12_treads_147 ?_
  refine lv_aload_n hx hb dX12_treads_150 rfl (lv_at hl 0 rfl) ?_
  refine m_geti E hM fs_X12_262 ho.1 dX12_treads_151 ?_
  obtain ⟨hv, hw⟩ := hw
  refine m_iald E hM (isO_at ho 8 rfl).2 hv dX12_treads_154 ?_
  refine lv_iconst (v := (-1)) hx hb dX12_treads_155 (by decide) ?_
  refine lv_icmp_ne (tgt := 163) hx hb dX12_treads_156 (by decide) (fun cq => ?_) (fun cq => ?_)
  · have hw := hw.1 cq
    refine lv_aload_n hx hb dX12_treads_163 rfl (lv_at hl 0 rfl) ?_
    refine lv_aload_n hx hb dX12_treads_164 rfl (lv_at hl 0 rfl) ?_
    refine m_getr E hM fs_X12_32 ho.1 (isO_at ho 7 rfl).1 dX12_treads_165 ?_
    refine lv_aload_n hx hb dX12_treads_168 rfl (lv_at hl 0 rfl) ?_
    refine m_getr E hM fs_X12_35 ho.1 (isO_at ho 8 rfl).1 dX12_treads_169 ?_
    refine lv_aload_n hx hb dX12_treads_172 rfl (lv_at hl 0 rfl) ?_
    refine m_geti E hM fs_X12_262 ho.1 dX12_treads_173 ?_
    obtain ⟨hv, hw⟩ := hw
    refine m_iald E hM (isO_at ho 8 rfl).2 hv dX12_treads_176 ?_
    obtain ⟨hv, hw⟩ := hw
    refine m_iald E hM (isO_at ho 7 rfl).2 hv dX12_treads_177 ?_
    refine lv_iconst (v := 2) hx hb dX12_treads_178 (by decide) ?_
    refine lv_idiv hx hb dX12_treads_179 (by decide) ?_
    refine lv_iload_n hx hb dX12_treads_180 rfl (lv_at hl 2 rfl) ?_
    refine m_ci (m_runV E hM hS cs_X12_275 ho.1 (by decide) rfl rfl (c_X12_ears ho hw) rfl rfl ⟨Nat.le_of_ble_eq_true rfl, Nat.le_of_ble_eq_true rfl⟩ rfl hl.1 rfl (Nat.le_of_ble_eq_true rfl) dX12_treads_181 ⟨Nat.le_of_ble_eq_true rfl, Nat.le_of_ble_eq_true rfl⟩) hS (fun r13 u H locs hp hM hS => ?_)
    obtain ⟨rfl, hw⟩ := hp
    exact s_X12_treads_184 E hr hlk ho  hw hM hS (lv_sub hl [0, 1, 3] rfl)
  · have hw := hw.2 cq
    refine lv_iconst (v := 0) hx hb dX12_treads_159 (by decide) ?_
    refine lv_goto (tgt := 184) hx hb dX12_treads_160 (by decide) ?_
    exact s_X12_treads_184 E hr hlk ho  hw hM hS (lv_sub hl [0, 1, 3] rfl)
def w_X12_treads_44 (o : Nat) (a1 : Int32) (a2 : Int32) (a3 : Int32) (post : mI → Prop) (I : mI) (s1 : Int32) : Prop := (w_X12_treads_45 o a1 a2 a3 post) I s1 (-1)
set_option maxRecDepth 100000 in
set_option maxHeartbeats 4000000 in
theorem s_X12_treads_44 {p : Program} {l : Launch} {e : Env} {s : State} {m : MethodId} {args : Array Value} {below : List Frame} {meth : Method} {c : Code} {D : va_G} {cA : Nat → ClassId} {Z : mZ} {bs : Ad} {n : Nat} {K : mK} {R : mR} {L : mL} (E : Ev p s m args c cX12_treads 5 RX12 D cA Z bs) (hr : meth.sig.returnType = none) (hlk : meth.locks = false) {o : Nat} {a1 : Int32} {a2 : Int32} {a3 : Int32} (ho : isX12 K R o) {post : mI → Prop} {I : mI} {s1 : Int32} {H : Heap} {locs : List Loc} {ls : Array Slot} (hw : w_X12_treads_44 o a1 a2 a3 post I s1) (hM : mm D cA bs (n, K, R, I, L) H) (hS : va_S (Ab bs) s.heap H locs) (hl : lv_has ls 5 [(0, .ref (ad bs o)), (1, .int a1), (2, .int a2), (3, .int a3)]) : W p l e ({ frames := 4, cells := 0, slots := 0, locals := 90 } : Room) s m args below meth c H locs 0 0 (MQ below (QV D cA bs (fun u => ∃ I', u = (n, K, R, I', L) ∧ post I')) args s 0 0 (Ab bs)) (F0 m 44 ls [.int s1, .ref (ad bs (o + 9))]) := by
  have hx := E.1.1
  have hb := E.1.2.1
  refine lv_iconst (v := (-1)) hx hb dX12_treads_44 (by decide) ?_
  exact s_X12_treads_45 E hr hlk ho  hw hM hS (lv_sub hl [0, 1, 2, 3] rfl)
def w_X12_treads (I : mI) (o : Nat) (a1 : Int32) (a2 : Int32) (a3 : Int32) (post : mI → Prop) : Prop := w_X12_latest I o a2 (-1) (fun r1 => (r1 = (-1) → (w_X12_treads_44 o a1 a2 a3 post) I (I o 25)) ∧ (¬ r1 = (-1) → vp_in r1 640 ∧ w_X12_of I o 1 (fun r2 => (r2 < (a3 - (I (o + 6) r1.toNatClampNeg)) → (w_X12_treads_44 o a1 a2 a3 post) I (I o 25)) ∧ (¬ r2 < (a3 - (I (o + 6) r1.toNatClampNeg)) → (w_X12_treads_45 o a1 a2 a3 post) I (I o 25) r1))))
set_option maxRecDepth 100000 in
set_option maxHeartbeats 4000000 in
theorem c_X12_treads {l : Launch} {D : va_G} {cA : Nat → ClassId} {Z : mZ} {bs : Ad} {n : Nat} {K : mK} {R : mR} {I : mI} {L : mL} {o : Nat} {a1 : Int32} {a2 : Int32} {a3 : Int32} {post : mI → Prop} (ho : isX12 K R o) (hw : w_X12_treads I o a1 a2 a3 post) : Met l yX12_treads (.code yX12_treads cX12_treads 5 none :: gw) ({ frames := 4, cells := 0, slots := 0, locals := 90 } : Room) (PreM D cA Z bs (n, K, R, I, L) [.ref (ad bs o), .int a1, .int a2, .int a3]) (QV D cA bs (fun u => ∃ I', u = (n, K, R, I', L) ∧ post I')) 0 0 (Ab bs) := by
  refine m_met (by decide) (Nat.le_of_ble_eq_true rfl) (fun p e s m below meth c ls E hr hlk hM hS hl => ?_)
  have E : Ev p s m _ c cX12_treads 5 RX12 D cA Z bs := E
  have hl : lv_has ls 5 [(0, .ref (ad bs o)), (1, .int a1), (2, .int a2), (3, .int a3)] := hl
  have hx := E.1.1
  have hb := E.1.2.1
  generalize hHe : s.heap = H at hM ⊢
  have hS : va_S (Ab bs) s.heap H [] := by rw [← hHe]; exact va_S.rf
  clear hHe
  refine lv_aload_n hx hb dX12_treads_0 rfl (lv_at hl 0 rfl) ?_
  refine lv_iload_n hx hb dX12_treads_1 rfl (lv_at hl 2 rfl) ?_
  refine lv_iconst (v := (-1)) hx hb dX12_treads_2 (by decide) ?_
  refine m_ci (m_runV E hM hS cs_X12_265 ho.1 (by decide) rfl rfl (c_X12_latest ho hw) rfl rfl ⟨Nat.le_of_ble_eq_true rfl, Nat.le_of_ble_eq_true rfl⟩ rfl hl.1 rfl (Nat.le_of_ble_eq_true rfl) dX12_treads_3 ⟨Nat.le_of_ble_eq_true rfl, Nat.le_of_ble_eq_true rfl⟩) hS (fun r1 u H locs hp hM hS => ?_)
  obtain ⟨rfl, hw⟩ := hp
  refine lv_istore (lv' := [(4, .int r1), (0, .ref (ad bs o)), (1, .int a1), (2, .int a2), (3, .int a3)]) hx hb dX12_treads_6 hl (by decide) rfl (fun ls hl => ?_)
  refine lv_aload_n hx hb dX12_treads_8 rfl (lv_at hl 1 rfl) ?_
  refine m_getr E hM fs_X12_35 ho.1 (isO_at ho 8 rfl).1 dX12_treads_9 ?_
  refine lv_aload_n hx hb dX12_treads_12 rfl (lv_at hl 1 rfl) ?_
  refine m_geti E hM fs_X12_262 ho.1 dX12_treads_13 ?_
  refine lv_iload hx hb dX12_treads_16 (lv_at hl 0 rfl) ?_
  refine lv_iconst (v := (-1)) hx hb dX12_treads_18 (by decide) ?_
  refine lv_icmp_eq (tgt := 44) hx hb dX12_treads_19 (by decide) (fun cq => ?_) (fun cq => ?_)
  · have hw := hw.1 cq
    exact s_X12_treads_44 E hr hlk ho  hw hM hS (lv_sub hl [1, 2, 3, 4] rfl)
  · have hw := hw.2 cq
    refine lv_iload_n hx hb dX12_treads_22 rfl (lv_at hl 4 rfl) ?_
    refine lv_aload_n hx hb dX12_treads_23 rfl (lv_at hl 1 rfl) ?_
    refine m_getr E hM fs_X12_26 ho.1 (isO_at ho 5 rfl).1 dX12_treads_24 ?_
    refine lv_iload hx hb dX12_treads_27 (lv_at hl 0 rfl) ?_
    obtain ⟨hv, hw⟩ := hw
    refine m_iald E hM (isO_at ho 5 rfl).2 hv dX12_treads_29 ?_
    refine lv_isub hx hb dX12_treads_30 ?_
    refine lv_aload_n hx hb dX12_treads_31 rfl (lv_at hl 1 rfl) ?_
    refine lv_iconst (v := 1) hx hb dX12_treads_32 (by decide) ?_
    refine m_ci (m_runV E hM hS cs_X12_205 ho.1 (by decide) rfl rfl (c_X12_of ho hw) rfl rfl ⟨Nat.le_of_ble_eq_true rfl, Nat.le_of_ble_eq_true rfl⟩ rfl hl.1 rfl (Nat.le_of_ble_eq_true rfl) dX12_treads_33 ⟨Nat.le_of_ble_eq_true rfl, Nat.le_of_ble_eq_true rfl⟩) hS (fun r2 u H locs hp hM hS => ?_)
    obtain ⟨rfl, hw⟩ := hp
    refine lv_icmp_gt (tgt := 44) hx hb dX12_treads_36 (by decide) (fun cq => ?_) (fun cq => ?_)
    · have hw := hw.1 cq
      exact s_X12_treads_44 E hr hlk ho  hw hM hS (lv_sub hl [1, 2, 3, 4] rfl)
    · have hw := hw.2 cq
      refine lv_iload hx hb dX12_treads_39 (lv_at hl 0 rfl) ?_
      refine lv_goto (tgt := 45) hx hb dX12_treads_41 (by decide) ?_
      exact s_X12_treads_45 E hr hlk ho  hw hM hS (lv_sub hl [1, 2, 3, 4] rfl)
theorem dX12_towards_0 : decode cX12_towards 0 = .ok (.iload_n 0, 1) := by decide +kernel
theorem dX12_towards_1 : decode cX12_towards 1 = .ok (.iload_n 1, 1) := by decide +kernel
theorem dX12_towards_2 : decode cX12_towards 2 = .ok (.if_icmp .ge 18, 3) := by decide +kernel
theorem dX12_towards_5 : decode cX12_towards 5 = .ok (.iload_n 0, 1) := by decide +kernel
theorem dX12_towards_6 : decode cX12_towards 6 = .ok (.iload_n 2, 1) := by decide +kernel
theorem dX12_towards_7 : decode cX12_towards 7 = .ok (.iadd, 1) := by decide +kernel
theorem dX12_towards_8 : decode cX12_towards 8 = .ok (.iload_n 1, 1) := by decide +kernel
theorem dX12_towards_9 : decode cX12_towards 9 = .ok (.if_icmp .le 7, 3) := by decide +kernel
theorem dX12_towards_12 : decode cX12_towards 12 = .ok (.iload_n 1, 1) := by decide +kernel
theorem dX12_towards_13 : decode cX12_towards 13 = .ok (.goto 6, 3) := by decide +kernel
theorem dX12_towards_16 : decode cX12_towards 16 = .ok (.iload_n 0, 1) := by decide +kernel
theorem dX12_towards_17 : decode cX12_towards 17 = .ok (.iload_n 2, 1) := by decide +kernel
theorem dX12_towards_18 : decode cX12_towards 18 = .ok (.iadd, 1) := by decide +kernel
theorem dX12_towards_19 : decode cX12_towards 19 = .ok (.ireturn, 1) := by decide +kernel
theorem dX12_towards_20 : decode cX12_towards 20 = .ok (.iload_n 0, 1) := by decide +kernel
theorem dX12_towards_21 : decode cX12_towards 21 = .ok (.iload_n 2, 1) := by decide +kernel
theorem dX12_towards_22 : decode cX12_towards 22 = .ok (.isub, 1) := by decide +kernel
theorem dX12_towards_23 : decode cX12_towards 23 = .ok (.iload_n 1, 1) := by decide +kernel
theorem dX12_towards_24 : decode cX12_towards 24 = .ok (.if_icmp .ge 7, 3) := by decide +kernel
theorem dX12_towards_27 : decode cX12_towards 27 = .ok (.iload_n 1, 1) := by decide +kernel
theorem dX12_towards_28 : decode cX12_towards 28 = .ok (.goto 6, 3) := by decide +kernel
theorem dX12_towards_31 : decode cX12_towards 31 = .ok (.iload_n 0, 1) := by decide +kernel
theorem dX12_towards_32 : decode cX12_towards 32 = .ok (.iload_n 2, 1) := by decide +kernel
theorem dX12_towards_33 : decode cX12_towards 33 = .ok (.isub, 1) := by decide +kernel
theorem dX12_towards_34 : decode cX12_towards 34 = .ok (.ireturn, 1) := by decide +kernel
def w_X12_towards (a1 : Int32) (a2 : Int32) (a3 : Int32) (post : Int32 → Prop) : Prop := (a2 ≤ a1 → (a2 ≤ (a1 - a3) → post (a1 - a3)) ∧ (¬ a2 ≤ (a1 - a3) → post a2)) ∧ (¬ a2 ≤ a1 → ((a1 + a3) ≤ a2 → post (a1 + a3)) ∧ (¬ (a1 + a3) ≤ a2 → post a2))
set_option maxRecDepth 100000 in
set_option maxHeartbeats 4000000 in
theorem c_X12_towards {l : Launch} {D : va_G} {cA : Nat → ClassId} {Z : mZ} {bs : Ad} {n : Nat} {K : mK} {R : mR} {I : mI} {L : mL} {a1 : Int32} {a2 : Int32} {a3 : Int32} {post : Int32 → Prop}  (hw : w_X12_towards a1 a2 a3 post) : Met l yX12_towards (.code yX12_towards cX12_towards 3 (some .int) :: gw) ({ frames := 0, cells := 0, slots := 0, locals := 0 } : Room) (PreM D cA Z bs (n, K, R, I, L) [.int a1, .int a2, .int a3]) (QI D cA bs (fun r u => u = (n, K, R, I, L) ∧ post r)) 0 0 (Ab bs) := by
  refine m_met (by decide) (Nat.le_of_ble_eq_true rfl) (fun p e s m below meth c ls E hr hlk hM hS hl => ?_)
  have E : Ev p s m _ c cX12_towards 3 RX12 D cA Z bs := E
  have hl : lv_has ls 3 [(0, .int a1), (1, .int a2), (2, .int a3)] := hl
  have hx := E.1.1
  have hb := E.1.2.1
  generalize hHe : s.heap = H at hM ⊢
  have hS : va_S (Ab bs) s.heap H [] := by rw [← hHe]; exact va_S.rf
  clear hHe
  refine lv_iload_n hx hb dX12_towards_0 rfl (lv_at hl 0 rfl) ?_
  refine lv_iload_n hx hb dX12_towards_1 rfl (lv_at hl 1 rfl) ?_
  refine lv_icmp_ge (tgt := 20) hx hb dX12_towards_2 (by decide) (fun cq => ?_) (fun cq => ?_)
  · have hw := hw.1 cq
    refine lv_iload_n hx hb dX12_towards_20 rfl (lv_at hl 0 rfl) ?_
    refine lv_iload_n hx hb dX12_towards_21 rfl (lv_at hl 2 rfl) ?_
    refine lv_isub hx hb dX12_towards_22 ?_
    refine lv_iload_n hx hb dX12_towards_23 rfl (lv_at hl 1 rfl) ?_
    refine lv_icmp_ge (tgt := 31) hx hb dX12_towards_24 (by decide) (fun cq => ?_) (fun cq => ?_)
    · have hw := hw.1 cq
      refine lv_iload_n hx hb dX12_towards_31 rfl (lv_at hl 0 rfl) ?_
      refine lv_iload_n hx hb dX12_towards_32 rfl (lv_at hl 2 rfl) ?_
      refine lv_isub hx hb dX12_towards_33 ?_
      exact m_reti hx hb hr hlk hM hS ⟨rfl, hw⟩ dX12_towards_34
    · have hw := hw.2 cq
      refine lv_iload_n hx hb dX12_towards_27 rfl (lv_at hl 1 rfl) ?_
      refine lv_goto (tgt := 34) hx hb dX12_towards_28 (by decide) ?_
      exact m_reti hx hb hr hlk hM hS ⟨rfl, hw⟩ dX12_towards_34
  · have hw := hw.2 cq
    refine lv_iload_n hx hb dX12_towards_5 rfl (lv_at hl 0 rfl) ?_
    refine lv_iload_n hx hb dX12_towards_6 rfl (lv_at hl 2 rfl) ?_
    refine lv_iadd hx hb dX12_towards_7 ?_
    refine lv_iload_n hx hb dX12_towards_8 rfl (lv_at hl 1 rfl) ?_
    refine lv_icmp_le (tgt := 16) hx hb dX12_towards_9 (by decide) (fun cq => ?_) (fun cq => ?_)
    · have hw := hw.1 cq
      refine lv_iload_n hx hb dX12_towards_16 rfl (lv_at hl 0 rfl) ?_
      refine lv_iload_n hx hb dX12_towards_17 rfl (lv_at hl 2 rfl) ?_
      refine lv_iadd hx hb dX12_towards_18 ?_
      exact m_reti hx hb hr hlk hM hS ⟨rfl, hw⟩ dX12_towards_19
    · have hw := hw.2 cq
      refine lv_iload_n hx hb dX12_towards_12 rfl (lv_at hl 1 rfl) ?_
      refine lv_goto (tgt := 19) hx hb dX12_towards_13 (by decide) ?_
      exact m_reti hx hb hr hlk hM hS ⟨rfl, hw⟩ dX12_towards_19
theorem dX12_walks_0 : decode cX12_walks 0 = .ok (.aload_n 0, 1) := by decide +kernel
theorem dX12_walks_1 : decode cX12_walks 1 = .ok (.iload_n 1, 1) := by decide +kernel
theorem dX12_walks_2 : decode cX12_walks 2 = .ok (.iconst 3, 1) := by decide +kernel
theorem dX12_walks_3 : decode cX12_walks 3 = .ok (.invokevirtual 241, 3) := by decide +kernel
theorem dX12_walks_6 : decode cX12_walks 6 = .ok (.iconst (-1), 1) := by decide +kernel
theorem dX12_walks_7 : decode cX12_walks 7 = .ok (.if_icmp .eq 12, 3) := by decide +kernel
theorem dX12_walks_10 : decode cX12_walks 10 = .ok (.iload_n 2, 1) := by decide +kernel
theorem dX12_walks_11 : decode cX12_walks 11 = .ok (.aload_n 0, 1) := by decide +kernel
theorem dX12_walks_12 : decode cX12_walks 12 = .ok (.iload_n 1, 1) := by decide +kernel
theorem dX12_walks_13 : decode cX12_walks 13 = .ok (.invokevirtual 278, 3) := by decide +kernel
theorem dX12_walks_16 : decode cX12_walks 16 = .ok (.if_icmp .ge 4, 3) := by decide +kernel
theorem dX12_walks_19 : decode cX12_walks 19 = .ok (.return_, 1) := by decide +kernel
theorem dX12_walks_20 : decode cX12_walks 20 = .ok (.iload_n 2, 1) := by decide +kernel
theorem dX12_walks_21 : decode cX12_walks 21 = .ok (.aload_n 0, 1) := by decide +kernel
theorem dX12_walks_22 : decode cX12_walks 22 = .ok (.iload_n 1, 1) := by decide +kernel
theorem dX12_walks_23 : decode cX12_walks 23 = .ok (.invokevirtual 278, 3) := by decide +kernel
theorem dX12_walks_26 : decode cX12_walks 26 = .ok (.if_icmp .ne 28, 3) := by decide +kernel
theorem dX12_walks_29 : decode cX12_walks 29 = .ok (.aload_n 0, 1) := by decide +kernel
theorem dX12_walks_30 : decode cX12_walks 30 = .ok (.getfield 50, 3) := by decide +kernel
theorem dX12_walks_33 : decode cX12_walks 33 = .ok (.iload_n 1, 1) := by decide +kernel
theorem dX12_walks_34 : decode cX12_walks 34 = .ok (.aload_n 0, 1) := by decide +kernel
theorem dX12_walks_35 : decode cX12_walks 35 = .ok (.iload_n 1, 1) := by decide +kernel
theorem dX12_walks_36 : decode cX12_walks 36 = .ok (.iconst 4, 1) := by decide +kernel
theorem dX12_walks_37 : decode cX12_walks 37 = .ok (.invokevirtual 241, 3) := by decide +kernel
theorem dX12_walks_40 : decode cX12_walks 40 = .ok (.iastore, 1) := by decide +kernel
theorem dX12_walks_41 : decode cX12_walks 41 = .ok (.aload_n 0, 1) := by decide +kernel
theorem dX12_walks_42 : decode cX12_walks 42 = .ok (.iload_n 1, 1) := by decide +kernel
theorem dX12_walks_43 : decode cX12_walks 43 = .ok (.aload_n 0, 1) := by decide +kernel
theorem dX12_walks_44 : decode cX12_walks 44 = .ok (.getfield 50, 3) := by decide +kernel
theorem dX12_walks_47 : decode cX12_walks 47 = .ok (.iload_n 1, 1) := by decide +kernel
theorem dX12_walks_48 : decode cX12_walks 48 = .ok (.iaload, 1) := by decide +kernel
theorem dX12_walks_49 : decode cX12_walks 49 = .ok (.iload_n 2, 1) := by decide +kernel
theorem dX12_walks_50 : decode cX12_walks 50 = .ok (.invokevirtual 281, 3) := by decide +kernel
theorem dX12_walks_53 : decode cX12_walks 53 = .ok (.return_, 1) := by decide +kernel
theorem dX12_walks_54 : decode cX12_walks 54 = .ok (.aload_n 0, 1) := by decide +kernel
theorem dX12_walks_55 : decode cX12_walks 55 = .ok (.getfield 47, 3) := by decide +kernel
theorem dX12_walks_58 : decode cX12_walks 58 = .ok (.iload_n 1, 1) := by decide +kernel
theorem dX12_walks_59 : decode cX12_walks 59 = .ok (.iaload, 1) := by decide +kernel
theorem dX12_walks_60 : decode cX12_walks 60 = .ok (.aload_n 0, 1) := by decide +kernel
theorem dX12_walks_61 : decode cX12_walks 61 = .ok (.iload_n 1, 1) := by decide +kernel
theorem dX12_walks_62 : decode cX12_walks 62 = .ok (.iconst 5, 1) := by decide +kernel
theorem dX12_walks_63 : decode cX12_walks 63 = .ok (.invokevirtual 241, 3) := by decide +kernel
theorem dX12_walks_66 : decode cX12_walks 66 = .ok (.if_icmp .ge 39, 3) := by decide +kernel
theorem dX12_walks_69 : decode cX12_walks 69 = .ok (.aload_n 0, 1) := by decide +kernel
theorem dX12_walks_70 : decode cX12_walks 70 = .ok (.iload_n 1, 1) := by decide +kernel
theorem dX12_walks_71 : decode cX12_walks 71 = .ok (.bipush 6, 2) := by decide +kernel
theorem dX12_walks_73 : decode cX12_walks 73 = .ok (.aload_n 0, 1) := by decide +kernel
theorem dX12_walks_74 : decode cX12_walks 74 = .ok (.getfield 47, 3) := by decide +kernel
theorem dX12_walks_77 : decode cX12_walks 77 = .ok (.iload_n 1, 1) := by decide +kernel
theorem dX12_walks_78 : decode cX12_walks 78 = .ok (.iaload, 1) := by decide +kernel
theorem dX12_walks_79 : decode cX12_walks 79 = .ok (.iadd, 1) := by decide +kernel
theorem dX12_walks_80 : decode cX12_walks 80 = .ok (.invokevirtual 241, 3) := by decide +kernel
theorem dX12_walks_83 : decode cX12_walks 83 = .ok (.aload_n 0, 1) := by decide +kernel
theorem dX12_walks_84 : decode cX12_walks 84 = .ok (.getfield 50, 3) := by decide +kernel
theorem dX12_walks_87 : decode cX12_walks 87 = .ok (.iload_n 1, 1) := by decide +kernel
theorem dX12_walks_88 : decode cX12_walks 88 = .ok (.iaload, 1) := by decide +kernel
theorem dX12_walks_89 : decode cX12_walks 89 = .ok (.if_icmp .ne 16, 3) := by decide +kernel
theorem dX12_walks_92 : decode cX12_walks 92 = .ok (.aload_n 0, 1) := by decide +kernel
theorem dX12_walks_93 : decode cX12_walks 93 = .ok (.getfield 47, 3) := by decide +kernel
theorem dX12_walks_96 : decode cX12_walks 96 = .ok (.iload_n 1, 1) := by decide +kernel
theorem dX12_walks_97 : decode cX12_walks 97 = .ok (.dup2, 1) := by decide +kernel
theorem dX12_walks_98 : decode cX12_walks 98 = .ok (.iaload, 1) := by decide +kernel
theorem dX12_walks_99 : decode cX12_walks 99 = .ok (.iconst 1, 1) := by decide +kernel
theorem dX12_walks_100 : decode cX12_walks 100 = .ok (.iadd, 1) := by decide +kernel
theorem dX12_walks_101 : decode cX12_walks 101 = .ok (.iastore, 1) := by decide +kernel
theorem dX12_walks_102 : decode cX12_walks 102 = .ok (.goto (-48), 3) := by decide +kernel
theorem dX12_walks_105 : decode cX12_walks 105 = .ok (.aload_n 0, 1) := by decide +kernel
theorem dX12_walks_106 : decode cX12_walks 106 = .ok (.getfield 47, 3) := by decide +kernel
theorem dX12_walks_109 : decode cX12_walks 109 = .ok (.iload_n 1, 1) := by decide +kernel
theorem dX12_walks_110 : decode cX12_walks 110 = .ok (.iaload, 1) := by decide +kernel
theorem dX12_walks_111 : decode cX12_walks 111 = .ok (.aload_n 0, 1) := by decide +kernel
theorem dX12_walks_112 : decode cX12_walks 112 = .ok (.iload_n 1, 1) := by decide +kernel
theorem dX12_walks_113 : decode cX12_walks 113 = .ok (.iconst 5, 1) := by decide +kernel
theorem dX12_walks_114 : decode cX12_walks 114 = .ok (.invokevirtual 241, 3) := by decide +kernel
theorem dX12_walks_117 : decode cX12_walks 117 = .ok (.if_icmp .ne 4, 3) := by decide +kernel
theorem dX12_walks_120 : decode cX12_walks 120 = .ok (.return_, 1) := by decide +kernel
theorem dX12_walks_121 : decode cX12_walks 121 = .ok (.aload_n 0, 1) := by decide +kernel
theorem dX12_walks_122 : decode cX12_walks 122 = .ok (.getfield 50, 3) := by decide +kernel
theorem dX12_walks_125 : decode cX12_walks 125 = .ok (.iload_n 1, 1) := by decide +kernel
theorem dX12_walks_126 : decode cX12_walks 126 = .ok (.aload_n 0, 1) := by decide +kernel
theorem dX12_walks_127 : decode cX12_walks 127 = .ok (.getfield 50, 3) := by decide +kernel
theorem dX12_walks_130 : decode cX12_walks 130 = .ok (.iload_n 1, 1) := by decide +kernel
theorem dX12_walks_131 : decode cX12_walks 131 = .ok (.iaload, 1) := by decide +kernel
theorem dX12_walks_132 : decode cX12_walks 132 = .ok (.aload_n 0, 1) := by decide +kernel
theorem dX12_walks_133 : decode cX12_walks 133 = .ok (.iload_n 1, 1) := by decide +kernel
theorem dX12_walks_134 : decode cX12_walks 134 = .ok (.bipush 6, 2) := by decide +kernel
theorem dX12_walks_136 : decode cX12_walks 136 = .ok (.aload_n 0, 1) := by decide +kernel
theorem dX12_walks_137 : decode cX12_walks 137 = .ok (.getfield 47, 3) := by decide +kernel
theorem dX12_walks_140 : decode cX12_walks 140 = .ok (.iload_n 1, 1) := by decide +kernel
theorem dX12_walks_141 : decode cX12_walks 141 = .ok (.iaload, 1) := by decide +kernel
theorem dX12_walks_142 : decode cX12_walks 142 = .ok (.iadd, 1) := by decide +kernel
theorem dX12_walks_143 : decode cX12_walks 143 = .ok (.invokevirtual 241, 3) := by decide +kernel
theorem dX12_walks_146 : decode cX12_walks 146 = .ok (.aload_n 0, 1) := by decide +kernel
theorem dX12_walks_147 : decode cX12_walks 147 = .ok (.iload_n 1, 1) := by decide +kernel
theorem dX12_walks_148 : decode cX12_walks 148 = .ok (.iconst 2, 1) := by decide +kernel
theorem dX12_walks_149 : decode cX12_walks 149 = .ok (.invokevirtual 241, 3) := by decide +kernel
theorem dX12_walks_152 : decode cX12_walks 152 = .ok (.invokestatic 284, 3) := by decide +kernel
theorem dX12_walks_155 : decode cX12_walks 155 = .ok (.iastore, 1) := by decide +kernel
theorem dX12_walks_156 : decode cX12_walks 156 = .ok (.aload_n 0, 1) := by decide +kernel
theorem dX12_walks_157 : decode cX12_walks 157 = .ok (.iload_n 1, 1) := by decide +kernel
theorem dX12_walks_158 : decode cX12_walks 158 = .ok (.aload_n 0, 1) := by decide +kernel
theorem dX12_walks_159 : decode cX12_walks 159 = .ok (.getfield 50, 3) := by decide +kernel
theorem dX12_walks_162 : decode cX12_walks 162 = .ok (.iload_n 1, 1) := by decide +kernel
theorem dX12_walks_163 : decode cX12_walks 163 = .ok (.iaload, 1) := by decide +kernel
theorem dX12_walks_164 : decode cX12_walks 164 = .ok (.iload_n 2, 1) := by decide +kernel
theorem dX12_walks_165 : decode cX12_walks 165 = .ok (.invokevirtual 281, 3) := by decide +kernel
theorem dX12_walks_168 : decode cX12_walks 168 = .ok (.return_, 1) := by decide +kernel
def w_X12_walks_54 (o : Nat) (a1 : Int32) (a2 : Int32) (post : mI → Prop) (k105 : mI → Prop) (I : mI) : Prop := ∀ ZZ : (mI → Prop), (∀ (I : mI), (vp_in a1 6 ∧ w_X12_told I o a1 5 (fun r7 => (r7 ≤ (I (o + 13) a1.toNatClampNeg) → k105 I) ∧ (¬ r7 ≤ (I (o + 13) a1.toNatClampNeg) → vp_in a1 6 ∧ w_X12_told I o a1 (6 + (I (o + 13) a1.toNatClampNeg)) (fun r8 => vp_in a1 6 ∧ (¬ r8 = (I (o + 14) a1.toNatClampNeg) → k105 I) ∧ (r8 = (I (o + 14) a1.toNatClampNeg) → vp_in a1 6 ∧ vp_in a1 6 ∧ ∀ I9, I9 = up2 I (o + 13) a1.toNatClampNeg ((I (o + 13) a1.toNatClampNeg) + 1) → ZZ I9))))) → ZZ I) → ZZ I
set_option maxRecDepth 100000 in
set_option maxHeartbeats 4000000 in
theorem s_X12_walks_54 {p : Program} {l : Launch} {e : Env} {s : State} {m : MethodId} {args : Array Value} {below : List Frame} {meth : Method} {c : Code} {D : va_G} {cA : Nat → ClassId} {Z : mZ} {bs : Ad} {n : Nat} {K : mK} {R : mR} {L : mL} (E : Ev p s m args c cX12_walks 3 RX12 D cA Z bs) (hr : meth.sig.returnType = none) (hlk : meth.locks = false) {o : Nat} {a1 : Int32} {a2 : Int32} (ho : isX12 K R o) {post : mI → Prop} {k105 : mI → Prop} (hk105 : ∀ (I : mI) (H : Heap) (locs : List Loc) (ls : Array Slot), k105 I → mm D cA bs (n, K, R, I, L) H → va_S (Ab bs) s.heap H locs → lv_has ls 3 [(0, .ref (ad bs o)), (1, .int a1), (2, .int a2)] → W p l e ({ frames := 5, cells := 0, slots := 0, locals := 114 } : Room) s m args below meth c H locs 0 0 (MQ below (QV D cA bs (fun u => ∃ I', u = (n, K, R, I', L) ∧ post I')) args s 0 0 (Ab bs)) (F0 m 105 ls [])) {I : mI} {H : Heap} {locs : List Loc} {ls : Array Slot} (hw : w_X12_walks_54 o a1 a2 post k105 I) (hM : mm D cA bs (n, K, R, I, L) H) (hS : va_S (Ab bs) s.heap H locs) (hl : lv_has ls 3 [(0, .ref (ad bs o)), (1, .int a1), (2, .int a2)]) : W p l e ({ frames := 5, cells := 0, slots := 0, locals := 114 } : Room) s m args below meth c H locs 0 0 (MQ below (QV D cA bs (fun u => ∃ I', u = (n, K, R, I', L) ∧ post I')) args s 0 0 (Ab bs)) (F0 m 54 ls []) := by
  have hx := E.1.1
  have hb := E.1.2.1
  refine hw (fun I => ∀ (H : Heap) (locs : List Loc) (ls : Array Slot), mm D cA bs (n, K, R, I, L) H → va_S (Ab bs) s.heap H locs → lv_has ls 3 [(0, .ref (ad bs o)), (1, .int a1), (2, .int a2)] → W p l e ({ frames := 5, cells := 0, slots := 0, locals := 114 } : Room) s m args below meth c H locs 0 0 (MQ below (QV D cA bs (fun u => ∃ I', u = (n, K, R, I', L) ∧ post I')) args s 0 0 (Ab bs)) (F0 m 54 ls [])) ?_ H locs ls hM hS hl
  clear hw hM hS hl
  intro I hw H locs ls hM hS hl
  refine lv_aload_n hx hb dX12_walks_54 rfl (lv_at hl 0 rfl) ?_
  refine m_getr E hM fs_X12_47 ho.1 (isO_at ho 12 rfl).1 dX12_walks_55 ?_
  refine lv_iload_n hx hb dX12_walks_58 rfl (lv_at hl 1 rfl) ?_
  obtain ⟨hv, hw⟩ := hw
  refine m_iald E hM (isO_at ho 12 rfl).2 hv dX12_walks_59 ?_
  refine lv_aload_n hx hb dX12_walks_60 rfl (lv_at hl 0 rfl) ?_
  refine lv_iload_n hx hb dX12_walks_61 rfl (lv_at hl 1 rfl) ?_
  refine lv_iconst (v := 5) hx hb dX12_walks_62 (by decide) ?_
  refine m_ci (m_runV E hM hS cs_X12_241 ho.1 (by decide) rfl rfl (c_X12_told ho hw) rfl rfl ⟨Nat.le_of_ble_eq_true rfl, Nat.le_of_ble_eq_true rfl⟩ rfl hl.1 rfl (Nat.le_of_ble_eq_true rfl) dX12_walks_63 ⟨Nat.le_of_ble_eq_true rfl, Nat.le_of_ble_eq_true rfl⟩) hS (fun r7 u H locs hp hM hS => ?_)
  obtain ⟨rfl, hw⟩ := hp
  refine lv_icmp_ge (tgt := 105) hx hb dX12_walks_66 (by decide) (fun cq => ?_) (fun cq => ?_)
  · have hw := hw.1 cq
    exact hk105 _ H locs ls  hw hM hS (lv_sub hl [0, 1, 2] rfl)
  · have hw := hw.2 cq
    refine lv_aload_n hx hb dX12_walks_69 rfl (lv_at hl 0 rfl) ?_
    refine lv_iload_n hx hb dX12_walks_70 rfl (lv_at hl 1 rfl) ?_
    refine lv_bipush (v := 6) hx hb dX12_walks_71 (by decide) ?_
    refine lv_aload_n hx hb dX12_walks_73 rfl (lv_at hl 0 rfl) ?_
    refine m_getr E hM fs_X12_47 ho.1 (isO_at ho 12 rfl).1 dX12_walks_74 ?_
    refine lv_iload_n hx hb dX12_walks_77 rfl (lv_at hl 1 rfl) ?_
    obtain ⟨hv, hw⟩ := hw
    refine m_iald E hM (isO_at ho 12 rfl).2 hv dX12_walks_78 ?_
    refine lv_iadd hx hb dX12_walks_79 ?_
    refine m_ci (m_runV E hM hS cs_X12_241 ho.1 (by decide) rfl rfl (c_X12_told ho hw) rfl rfl ⟨Nat.le_of_ble_eq_true rfl, Nat.le_of_ble_eq_true rfl⟩ rfl hl.1 rfl (Nat.le_of_ble_eq_true rfl) dX12_walks_80 ⟨Nat.le_of_ble_eq_true rfl, Nat.le_of_ble_eq_true rfl⟩) hS (fun r8 u H locs hp hM hS => ?_)
    obtain ⟨rfl, hw⟩ := hp
    refine lv_aload_n hx hb dX12_walks_83 rfl (lv_at hl 0 rfl) ?_
    refine m_getr E hM fs_X12_50 ho.1 (isO_at ho 13 rfl).1 dX12_walks_84 ?_
    refine lv_iload_n hx hb dX12_walks_87 rfl (lv_at hl 1 rfl) ?_
    obtain ⟨hv, hw⟩ := hw
    refine m_iald E hM (isO_at ho 13 rfl).2 hv dX12_walks_88 ?_
    refine lv_icmp_ne (tgt := 105) hx hb dX12_walks_89 (by decide) (fun cq => ?_) (fun cq => ?_)
    · have hw := hw.1 cq
      exact hk105 _ H locs ls  hw hM hS (lv_sub hl [0, 1, 2] rfl)
    · have hw := hw.2 cq
      refine lv_aload_n hx hb dX12_walks_92 rfl (lv_at hl 0 rfl) ?_
      refine m_getr E hM fs_X12_47 ho.1 (isO_at ho 12 rfl).1 dX12_walks_93 ?_
      refine lv_iload_n hx hb dX12_walks_96 rfl (lv_at hl 1 rfl) ?_
      refine lv_dup2_11 hx hb dX12_walks_97 rfl rfl ?_
      obtain ⟨hv, hw⟩ := hw
      refine m_iald E hM (isO_at ho 12 rfl).2 hv dX12_walks_98 ?_
      refine lv_iconst (v := 1) hx hb dX12_walks_99 (by decide) ?_
      refine lv_iadd hx hb dX12_walks_100 ?_
      obtain ⟨hv, hw⟩ := hw
      refine m_iast E hM hS (isO_at ho 12 rfl).2 hv dX12_walks_101 (fun I9 H locs eI9 hM hS => ?_)
      have hw := hw I9 eI9
      refine lv_goto (tgt := 54) hx hb dX12_walks_102 (by decide) ?_
      exact hw H locs ls  hM hS (lv_sub hl [0, 1, 2] rfl)
def w_X12_walks_105 (o : Nat) (a1 : Int32) (a2 : Int32) (post : mI → Prop) (I : mI) : Prop := vp_in a1 6 ∧ w_X12_told I o a1 5 (fun r10 => (¬ (I (o + 13) a1.toNatClampNeg) = r10 → vp_in a1 6 ∧ vp_in a1 6 ∧ w_X12_told I o a1 (6 + (I (o + 13) a1.toNatClampNeg)) (fun r11 => w_X12_told I o a1 2 (fun r12 => w_X12_towards (I (o + 14) a1.toNatClampNeg) r11 r12 (fun r13 => vp_in a1 6 ∧ ∀ I14, I14 = up2 I (o + 14) a1.toNatClampNeg r13 → vp_in a1 6 ∧ w_X12_treads I14 o a1 (I14 (o + 14) a1.toNatClampNeg) a2 (fun I15 => post I15))))) ∧ ((I (o + 13) a1.toNatClampNeg) = r10 → post I))
set_option maxRecDepth 100000 in
set_option maxHeartbeats 4000000 in
theorem s_X12_walks_105 {p : Program} {l : Launch} {e : Env} {s : State} {m : MethodId} {args : Array Value} {below : List Frame} {meth : Method} {c : Code} {D : va_G} {cA : Nat → ClassId} {Z : mZ} {bs : Ad} {n : Nat} {K : mK} {R : mR} {L : mL} (E : Ev p s m args c cX12_walks 3 RX12 D cA Z bs) (hr : meth.sig.returnType = none) (hlk : meth.locks = false) {o : Nat} {a1 : Int32} {a2 : Int32} (ho : isX12 K R o) {post : mI → Prop} {I : mI} {H : Heap} {locs : List Loc} {ls : Array Slot} (hw : w_X12_walks_105 o a1 a2 post I) (hM : mm D cA bs (n, K, R, I, L) H) (hS : va_S (Ab bs) s.heap H locs) (hl : lv_has ls 3 [(0, .ref (ad bs o)), (1, .int a1), (2, .int a2)]) : W p l e ({ frames := 5, cells := 0, slots := 0, locals := 114 } : Room) s m args below meth c H locs 0 0 (MQ below (QV D cA bs (fun u => ∃ I', u = (n, K, R, I', L) ∧ post I')) args s 0 0 (Ab bs)) (F0 m 105 ls []) := by
  have hx := E.1.1
  have hb := E.1.2.1
  refine lv_aload_n hx hb dX12_walks_105 rfl (lv_at hl 0 rfl) ?_
  refine m_getr E hM fs_X12_47 ho.1 (isO_at ho 12 rfl).1 dX12_walks_106 ?_
  refine lv_iload_n hx hb dX12_walks_109 rfl (lv_at hl 1 rfl) ?_
  obtain ⟨hv, hw⟩ := hw
  refine m_iald E hM (isO_at ho 12 rfl).2 hv dX12_walks_110 ?_
  refine lv_aload_n hx hb dX12_walks_111 rfl (lv_at hl 0 rfl) ?_
  refine lv_iload_n hx hb dX12_walks_112 rfl (lv_at hl 1 rfl) ?_
  refine lv_iconst (v := 5) hx hb dX12_walks_113 (by decide) ?_
  refine m_ci (m_runV E hM hS cs_X12_241 ho.1 (by decide) rfl rfl (c_X12_told ho hw) rfl rfl ⟨Nat.le_of_ble_eq_true rfl, Nat.le_of_ble_eq_true rfl⟩ rfl hl.1 rfl (Nat.le_of_ble_eq_true rfl) dX12_walks_114 ⟨Nat.le_of_ble_eq_true rfl, Nat.le_of_ble_eq_true rfl⟩) hS (fun r10 u H locs hp hM hS => ?_)
  obtain ⟨rfl, hw⟩ := hp
  refine lv_icmp_ne (tgt := 121) hx hb dX12_walks_117 (by decide) (fun cq => ?_) (fun cq => ?_)
  · have hw := hw.1 cq
    refine lv_aload_n hx hb dX12_walks_121 rfl (lv_at hl 0 rfl) ?_
    refine m_getr E hM fs_X12_50 ho.1 (isO_at ho 13 rfl).1 dX12_walks_122 ?_
    refine lv_iload_n hx hb dX12_walks_125 rfl (lv_at hl 1 rfl) ?_
    refine lv_aload_n hx hb dX12_walks_126 rfl (lv_at hl 0 rfl) ?_
    refine m_getr E hM fs_X12_50 ho.1 (isO_at ho 13 rfl).1 dX12_walks_127 ?_
    refine lv_iload_n hx hb dX12_walks_130 rfl (lv_at hl 1 rfl) ?_
    obtain ⟨hv, hw⟩ := hw
    refine m_iald E hM (isO_at ho 13 rfl).2 hv dX12_walks_131 ?_
    refine lv_aload_n hx hb dX12_walks_132 rfl (lv_at hl 0 rfl) ?_
    refine lv_iload_n hx hb dX12_walks_133 rfl (lv_at hl 1 rfl) ?_
    refine lv_bipush (v := 6) hx hb dX12_walks_134 (by decide) ?_
    refine lv_aload_n hx hb dX12_walks_136 rfl (lv_at hl 0 rfl) ?_
    refine m_getr E hM fs_X12_47 ho.1 (isO_at ho 12 rfl).1 dX12_walks_137 ?_
    refine lv_iload_n hx hb dX12_walks_140 rfl (lv_at hl 1 rfl) ?_
    obtain ⟨hv, hw⟩ := hw
    refine m_iald E hM (isO_at ho 12 rfl).2 hv dX12_walks_141 ?_
    refine lv_iadd hx hb dX12_walks_142 ?_
    refine m_ci (m_runV E hM hS cs_X12_241 ho.1 (by decide) rfl rfl (c_X12_told ho hw) rfl rfl ⟨Nat.le_of_ble_eq_true rfl, Nat.le_of_ble_eq_true rfl⟩ rfl hl.1 rfl (Nat.le_of_ble_eq_true rfl) dX12_walks_143 ⟨Nat.le_of_ble_eq_true rfl, Nat.le_of_ble_eq_true rfl⟩) hS (fun r11 u H locs hp hM hS => ?_)
    obtain ⟨rfl, hw⟩ := hp
    refine lv_aload_n hx hb dX12_walks_146 rfl (lv_at hl 0 rfl) ?_
    refine lv_iload_n hx hb dX12_walks_147 rfl (lv_at hl 1 rfl) ?_
    refine lv_iconst (v := 2) hx hb dX12_walks_148 (by decide) ?_
    refine m_ci (m_runV E hM hS cs_X12_241 ho.1 (by decide) rfl rfl (c_X12_told ho hw) rfl rfl ⟨Nat.le_of_ble_eq_true rfl, Nat.le_of_ble_eq_true rfl⟩ rfl hl.1 rfl (Nat.le_of_ble_eq_true rfl) dX12_walks_149 ⟨Nat.le_of_ble_eq_true rfl, Nat.le_of_ble_eq_true rfl⟩) hS (fun r12 u H locs hp hM hS => ?_)
    obtain ⟨rfl, hw⟩ := hp
    refine m_ci (m_runS E hM hS cs_X12_284 (c_X12_towards  hw) rfl rfl ⟨Nat.le_of_ble_eq_true rfl, Nat.le_of_ble_eq_true rfl⟩ rfl hl.1 rfl (Nat.le_of_ble_eq_true rfl) dX12_walks_152 ⟨Nat.le_of_ble_eq_true rfl, Nat.le_of_ble_eq_true rfl⟩) hS (fun r13 u H locs hp hM hS => ?_)
    obtain ⟨rfl, hw⟩ := hp
    obtain ⟨hv, hw⟩ := hw
    refine m_iast E hM hS (isO_at ho 13 rfl).2 hv dX12_walks_155 (fun I14 H locs eI14 hM hS => ?_)
    have hw := hw I14 eI14
    refine lv_aload_n hx hb dX12_walks_156 rfl (lv_at hl 0 rfl) ?_
    refine lv_iload_n hx hb dX12_walks_157 rfl (lv_at hl 1 rfl) ?_
    refine lv_aload_n hx hb dX12_walks_158 rfl (lv_at hl 0 rfl) ?_
    refine m_getr E hM fs_X12_50 ho.1 (isO_at ho 13 rfl).1 dX12_walks_159 ?_
    refine lv_iload_n hx hb dX12_walks_162 rfl (lv_at hl 1 rfl) ?_
    obtain ⟨hv, hw⟩ := hw
    refine m_iald E hM (isO_at ho 13 rfl).2 hv dX12_walks_163 ?_
    refine lv_iload_n hx hb dX12_walks_164 rfl (lv_at hl 2 rfl) ?_
    refine m_cv (m_runV E hM hS cs_X12_281 ho.1 (by decide) rfl rfl (c_X12_treads ho hw) rfl rfl ⟨Nat.le_of_ble_eq_true rfl, Nat.le_of_ble_eq_true rfl⟩ rfl hl.1 rfl (Nat.le_of_ble_eq_true rfl) dX12_walks_165 ⟨Nat.le_of_ble_eq_true rfl, Nat.le_of_ble_eq_true rfl⟩) hS (fun u H locs hp hM hS => ?_)
    obtain ⟨I15, rfl, hw⟩ := hp
    exact m_retv hx hb hr hlk hM hS ⟨_, rfl, hw⟩ dX12_walks_168
  · have hw := hw.2 cq
    exact m_retv hx hb hr hlk hM hS ⟨_, rfl, hw⟩ dX12_walks_120
def w_X12_walks (I : mI) (o : Nat) (a1 : Int32) (a2 : Int32) (post : mI → Prop) : Prop := w_X12_told I o a1 3 (fun r1 => (r1 = (-1) → post I) ∧ (¬ r1 = (-1) → w_X12_minuteOf I o a1 (fun r2 => (r2 ≤ a2 → w_X12_minuteOf I o a1 (fun r3 => (¬ a2 = r3 → (w_X12_walks_54 o a1 a2 post (w_X12_walks_105 o a1 a2 post)) I) ∧ (a2 = r3 → w_X12_told I o a1 4 (fun r4 => vp_in a1 6 ∧ ∀ I5, I5 = up2 I (o + 14) a1.toNatClampNeg r4 → vp_in a1 6 ∧ w_X12_treads I5 o a1 (I5 (o + 14) a1.toNatClampNeg) a2 (fun I6 => post I6))))) ∧ (¬ r2 ≤ a2 → post I))))
set_option maxRecDepth 100000 in
set_option maxHeartbeats 4000000 in
theorem c_X12_walks {l : Launch} {D : va_G} {cA : Nat → ClassId} {Z : mZ} {bs : Ad} {n : Nat} {K : mK} {R : mR} {I : mI} {L : mL} {o : Nat} {a1 : Int32} {a2 : Int32} {post : mI → Prop} (ho : isX12 K R o) (hw : w_X12_walks I o a1 a2 post) : Met l yX12_walks (.code yX12_walks cX12_walks 3 none :: gw) ({ frames := 5, cells := 0, slots := 0, locals := 114 } : Room) (PreM D cA Z bs (n, K, R, I, L) [.ref (ad bs o), .int a1, .int a2]) (QV D cA bs (fun u => ∃ I', u = (n, K, R, I', L) ∧ post I')) 0 0 (Ab bs) := by
  refine m_met (by decide) (Nat.le_of_ble_eq_true rfl) (fun p e s m below meth c ls E hr hlk hM hS hl => ?_)
  have E : Ev p s m _ c cX12_walks 3 RX12 D cA Z bs := E
  have hl : lv_has ls 3 [(0, .ref (ad bs o)), (1, .int a1), (2, .int a2)] := hl
  have hx := E.1.1
  have hb := E.1.2.1
  generalize hHe : s.heap = H at hM ⊢
  have hS : va_S (Ab bs) s.heap H [] := by rw [← hHe]; exact va_S.rf
  clear hHe
  refine lv_aload_n hx hb dX12_walks_0 rfl (lv_at hl 0 rfl) ?_
  refine lv_iload_n hx hb dX12_walks_1 rfl (lv_at hl 1 rfl) ?_
  refine lv_iconst (v := 3) hx hb dX12_walks_2 (by decide) ?_
  refine m_ci (m_runV E hM hS cs_X12_241 ho.1 (by decide) rfl rfl (c_X12_told ho hw) rfl rfl ⟨Nat.le_of_ble_eq_true rfl, Nat.le_of_ble_eq_true rfl⟩ rfl hl.1 rfl (Nat.le_of_ble_eq_true rfl) dX12_walks_3 ⟨Nat.le_of_ble_eq_true rfl, Nat.le_of_ble_eq_true rfl⟩) hS (fun r1 u H locs hp hM hS => ?_)
  obtain ⟨rfl, hw⟩ := hp
  refine lv_iconst (v := (-1)) hx hb dX12_walks_6 (by decide) ?_
  refine lv_icmp_eq (tgt := 19) hx hb dX12_walks_7 (by decide) (fun cq => ?_) (fun cq => ?_)
  · have hw := hw.1 cq
    exact m_retv hx hb hr hlk hM hS ⟨_, rfl, hw⟩ dX12_walks_19
  · have hw := hw.2 cq
    refine lv_iload_n hx hb dX12_walks_10 rfl (lv_at hl 2 rfl) ?_
    refine lv_aload_n hx hb dX12_walks_11 rfl (lv_at hl 0 rfl) ?_
    refine lv_iload_n hx hb dX12_walks_12 rfl (lv_at hl 1 rfl) ?_
    refine m_ci (m_runV E hM hS cs_X12_278 ho.1 (by decide) rfl rfl (c_X12_minuteOf ho hw) rfl rfl ⟨Nat.le_of_ble_eq_true rfl, Nat.le_of_ble_eq_true rfl⟩ rfl hl.1 rfl (Nat.le_of_ble_eq_true rfl) dX12_walks_13 ⟨Nat.le_of_ble_eq_true rfl, Nat.le_of_ble_eq_true rfl⟩) hS (fun r2 u H locs hp hM hS => ?_)
    obtain ⟨rfl, hw⟩ := hp
    refine lv_icmp_ge (tgt := 20) hx hb dX12_walks_16 (by decide) (fun cq => ?_) (fun cq => ?_)
    · have hw := hw.1 cq
      refine lv_iload_n hx hb dX12_walks_20 rfl (lv_at hl 2 rfl) ?_
      refine lv_aload_n hx hb dX12_walks_21 rfl (lv_at hl 0 rfl) ?_
      refine lv_iload_n hx hb dX12_walks_22 rfl (lv_at hl 1 rfl) ?_
      refine m_ci (m_runV E hM hS cs_X12_278 ho.1 (by decide) rfl rfl (c_X12_minuteOf ho hw) rfl rfl ⟨Nat.le_of_ble_eq_true rfl, Nat.le_of_ble_eq_true rfl⟩ rfl hl.1 rfl (Nat.le_of_ble_eq_true rfl) dX12_walks_23 ⟨Nat.le_of_ble_eq_true rfl, Nat.le_of_ble_eq_true rfl⟩) hS (fun r3 u H locs hp hM hS => ?_)
      obtain ⟨rfl, hw⟩ := hp
      refine lv_icmp_ne (tgt := 54) hx hb dX12_walks_26 (by decide) (fun cq => ?_) (fun cq => ?_)
      · have hw := hw.1 cq
        exact s_X12_walks_54 E hr hlk ho (fun I H locs ls  hw hM hS hl => s_X12_walks_105 E hr hlk ho  hw hM hS hl)  hw hM hS (lv_sub hl [0, 1, 2] rfl)
      · have hw := hw.2 cq
        refine lv_aload_n hx hb dX12_walks_29 rfl (lv_at hl 0 rfl) ?_
        refine m_getr E hM fs_X12_50 ho.1 (isO_at ho 13 rfl).1 dX12_walks_30 ?_
        refine lv_iload_n hx hb dX12_walks_33 rfl (lv_at hl 1 rfl) ?_
        refine lv_aload_n hx hb dX12_walks_34 rfl (lv_at hl 0 rfl) ?_
        refine lv_iload_n hx hb dX12_walks_35 rfl (lv_at hl 1 rfl) ?_
        refine lv_iconst (v := 4) hx hb dX12_walks_36 (by decide) ?_
        refine m_ci (m_runV E hM hS cs_X12_241 ho.1 (by decide) rfl rfl (c_X12_told ho hw) rfl rfl ⟨Nat.le_of_ble_eq_true rfl, Nat.le_of_ble_eq_true rfl⟩ rfl hl.1 rfl (Nat.le_of_ble_eq_true rfl) dX12_walks_37 ⟨Nat.le_of_ble_eq_true rfl, Nat.le_of_ble_eq_true rfl⟩) hS (fun r4 u H locs hp hM hS => ?_)
        obtain ⟨rfl, hw⟩ := hp
        obtain ⟨hv, hw⟩ := hw
        refine m_iast E hM hS (isO_at ho 13 rfl).2 hv dX12_walks_40 (fun I5 H locs eI5 hM hS => ?_)
        have hw := hw I5 eI5
        refine lv_aload_n hx hb dX12_walks_41 rfl (lv_at hl 0 rfl) ?_
        refine lv_iload_n hx hb dX12_walks_42 rfl (lv_at hl 1 rfl) ?_
        refine lv_aload_n hx hb dX12_walks_43 rfl (lv_at hl 0 rfl) ?_
        refine m_getr E hM fs_X12_50 ho.1 (isO_at ho 13 rfl).1 dX12_walks_44 ?_
        refine lv_iload_n hx hb dX12_walks_47 rfl (lv_at hl 1 rfl) ?_
        obtain ⟨hv, hw⟩ := hw
        refine m_iald E hM (isO_at ho 13 rfl).2 hv dX12_walks_48 ?_
        refine lv_iload_n hx hb dX12_walks_49 rfl (lv_at hl 2 rfl) ?_
        refine m_cv (m_runV E hM hS cs_X12_281 ho.1 (by decide) rfl rfl (c_X12_treads ho hw) rfl rfl ⟨Nat.le_of_ble_eq_true rfl, Nat.le_of_ble_eq_true rfl⟩ rfl hl.1 rfl (Nat.le_of_ble_eq_true rfl) dX12_walks_50 ⟨Nat.le_of_ble_eq_true rfl, Nat.le_of_ble_eq_true rfl⟩) hS (fun u H locs hp hM hS => ?_)
        obtain ⟨I6, rfl, hw⟩ := hp
        exact m_retv hx hb hr hlk hM hS ⟨_, rfl, hw⟩ dX12_walks_53
    · have hw := hw.2 cq
      exact m_retv hx hb hr hlk hM hS ⟨_, rfl, hw⟩ dX12_walks_19
theorem dX12_below_0 : decode cX12_below 0 = .ok (.aload_n 0, 1) := by decide +kernel
theorem dX12_below_1 : decode cX12_below 1 = .ok (.aload_n 0, 1) := by decide +kernel
theorem dX12_below_2 : decode cX12_below 2 = .ok (.getfield 287, 3) := by decide +kernel
theorem dX12_below_5 : decode cX12_below 5 = .ok (.ldc_w 290, 3) := by decide +kernel
theorem dX12_below_8 : decode cX12_below 8 = .ok (.imul, 1) := by decide +kernel
theorem dX12_below_9 : decode cX12_below 9 = .ok (.sipush 12345, 3) := by decide +kernel
theorem dX12_below_12 : decode cX12_below 12 = .ok (.iadd, 1) := by decide +kernel
theorem dX12_below_13 : decode cX12_below 13 = .ok (.putfield 287, 3) := by decide +kernel
theorem dX12_below_16 : decode cX12_below 16 = .ok (.aload_n 0, 1) := by decide +kernel
theorem dX12_below_17 : decode cX12_below 17 = .ok (.getfield 287, 3) := by decide +kernel
theorem dX12_below_20 : decode cX12_below 20 = .ok (.bipush 16, 2) := by decide +kernel
theorem dX12_below_22 : decode cX12_below 22 = .ok (.iushr, 1) := by decide +kernel
theorem dX12_below_23 : decode cX12_below 23 = .ok (.iload_n 1, 1) := by decide +kernel
theorem dX12_below_24 : decode cX12_below 24 = .ok (.irem, 1) := by decide +kernel
theorem dX12_below_25 : decode cX12_below 25 = .ok (.ireturn, 1) := by decide +kernel
def w_X12_below (I : mI) (o : Nat) (a1 : Int32) (post : Int32 → mI → Prop) : Prop := ∀ I1, I1 = up2 I o 23 (((I o 23) * 1103515245) + 12345) → ¬ a1 = 0 ∧ post (irem (iushr (I1 o 23) 16) a1) I1
set_option maxRecDepth 100000 in
set_option maxHeartbeats 4000000 in
theorem c_X12_below {l : Launch} {D : va_G} {cA : Nat → ClassId} {Z : mZ} {bs : Ad} {n : Nat} {K : mK} {R : mR} {I : mI} {L : mL} {o : Nat} {a1 : Int32} {post : Int32 → mI → Prop} (ho : isX12 K R o) (hw : w_X12_below I o a1 post) : Met l yX12_below (.code yX12_below cX12_below 2 (some .int) :: gw) ({ frames := 0, cells := 0, slots := 0, locals := 0 } : Room) (PreM D cA Z bs (n, K, R, I, L) [.ref (ad bs o), .int a1]) (QI D cA bs (fun r u => ∃ I', u = (n, K, R, I', L) ∧ post r I')) 0 0 (Ab bs) := by
  refine m_met (by decide) (Nat.le_of_ble_eq_true rfl) (fun p e s m below meth c ls E hr hlk hM hS hl => ?_)
  have E : Ev p s m _ c cX12_below 2 RX12 D cA Z bs := E
  have hl : lv_has ls 2 [(0, .ref (ad bs o)), (1, .int a1)] := hl
  have hx := E.1.1
  have hb := E.1.2.1
  generalize hHe : s.heap = H at hM ⊢
  have hS : va_S (Ab bs) s.heap H [] := by rw [← hHe]; exact va_S.rf
  clear hHe
  refine lv_aload_n hx hb dX12_below_0 rfl (lv_at hl 0 rfl) ?_
  refine lv_aload_n hx hb dX12_below_1 rfl (lv_at hl 0 rfl) ?_
  refine m_geti E hM fs_X12_287 ho.1 dX12_below_2 ?_
  refine lv_ldcw (v := 1103515245) hx hb E.1.2.2.2.1 (E.1.2.2.2.2 _ (gw_of 1622 (by decide +kernel) (by decide +kernel))) dX12_below_5 ?_
  refine lv_imul hx hb dX12_below_8 ?_
  refine lv_sipush (v := 12345) hx hb dX12_below_9 (by decide) ?_
  refine lv_iadd hx hb dX12_below_12 ?_
  refine m_puti E hM hS fp_X12_287 ho.1 rfl rfl dX12_below_13 (fun I1 H locs eI1 hM hS => ?_)
  have hw := hw I1 eI1
  refine lv_aload_n hx hb dX12_below_16 rfl (lv_at hl 0 rfl) ?_
  refine m_geti E hM fs_X12_287 ho.1 dX12_below_17 ?_
  refine lv_bipush (v := 16) hx hb dX12_below_20 (by decide) ?_
  refine lv_iushr hx hb dX12_below_22 rfl ?_
  refine lv_iload_n hx hb dX12_below_23 rfl (lv_at hl 1 rfl) ?_
  obtain ⟨hd, hw⟩ := hw
  refine lv_irem hx hb dX12_below_24 hd ?_
  exact m_reti hx hb hr hlk hM hS ⟨_, rfl, hw⟩ dX12_below_25
theorem dX12_strays_0 : decode cX12_strays 0 = .ok (.iload_n 2, 1) := by decide +kernel
theorem dX12_strays_1 : decode cX12_strays 1 = .ok (.bipush 59, 2) := by decide +kernel
theorem dX12_strays_3 : decode cX12_strays 3 = .ok (.if_icmp .gt 16, 3) := by decide +kernel
theorem dX12_strays_6 : decode cX12_strays 6 = .ok (.aload_n 0, 1) := by decide +kernel
theorem dX12_strays_7 : decode cX12_strays 7 = .ok (.bipush 100, 2) := by decide +kernel
theorem dX12_strays_9 : decode cX12_strays 9 = .ok (.invokevirtual 291, 3) := by decide +kernel
theorem dX12_strays_12 : decode cX12_strays 12 = .ok (.aload_n 0, 1) := by decide +kernel
theorem dX12_strays_13 : decode cX12_strays 13 = .ok (.getfield 294, 3) := by decide +kernel
theorem dX12_strays_16 : decode cX12_strays 16 = .ok (.if_icmp .lt 4, 3) := by decide +kernel
theorem dX12_strays_19 : decode cX12_strays 19 = .ok (.return_, 1) := by decide +kernel
theorem dX12_strays_20 : decode cX12_strays 20 = .ok (.aload_n 0, 1) := by decide +kernel
theorem dX12_strays_21 : decode cX12_strays 21 = .ok (.iconst 2, 1) := by decide +kernel
theorem dX12_strays_22 : decode cX12_strays 22 = .ok (.invokevirtual 291, 3) := by decide +kernel
theorem dX12_strays_25 : decode cX12_strays 25 = .ok (.ifCond .ne 28, 3) := by decide +kernel
theorem dX12_strays_28 : decode cX12_strays 28 = .ok (.aload_n 0, 1) := by decide +kernel
theorem dX12_strays_29 : decode cX12_strays 29 = .ok (.getfield 50, 3) := by decide +kernel
theorem dX12_strays_32 : decode cX12_strays 32 = .ok (.iload_n 1, 1) := by decide +kernel
theorem dX12_strays_33 : decode cX12_strays 33 = .ok (.iaload, 1) := by decide +kernel
theorem dX12_strays_34 : decode cX12_strays 34 = .ok (.aload_n 0, 1) := by decide +kernel
theorem dX12_strays_35 : decode cX12_strays 35 = .ok (.iconst 0, 1) := by decide +kernel
theorem dX12_strays_36 : decode cX12_strays 36 = .ok (.invokevirtual 205, 3) := by decide +kernel
theorem dX12_strays_39 : decode cX12_strays 39 = .ok (.iconst 1, 1) := by decide +kernel
theorem dX12_strays_40 : decode cX12_strays 40 = .ok (.isub, 1) := by decide +kernel
theorem dX12_strays_41 : decode cX12_strays 41 = .ok (.aload_n 0, 1) := by decide +kernel
theorem dX12_strays_42 : decode cX12_strays 42 = .ok (.iload_n 1, 1) := by decide +kernel
theorem dX12_strays_43 : decode cX12_strays 43 = .ok (.iconst 2, 1) := by decide +kernel
theorem dX12_strays_44 : decode cX12_strays 44 = .ok (.invokevirtual 241, 3) := by decide +kernel
theorem dX12_strays_47 : decode cX12_strays 47 = .ok (.invokestatic 284, 3) := by decide +kernel
theorem dX12_strays_50 : decode cX12_strays 50 = .ok (.goto 19, 3) := by decide +kernel
theorem dX12_strays_53 : decode cX12_strays 53 = .ok (.aload_n 0, 1) := by decide +kernel
theorem dX12_strays_54 : decode cX12_strays 54 = .ok (.getfield 50, 3) := by decide +kernel
theorem dX12_strays_57 : decode cX12_strays 57 = .ok (.iload_n 1, 1) := by decide +kernel
theorem dX12_strays_58 : decode cX12_strays 58 = .ok (.iaload, 1) := by decide +kernel
theorem dX12_strays_59 : decode cX12_strays 59 = .ok (.iconst 0, 1) := by decide +kernel
theorem dX12_strays_60 : decode cX12_strays 60 = .ok (.aload_n 0, 1) := by decide +kernel
theorem dX12_strays_61 : decode cX12_strays 61 = .ok (.iload_n 1, 1) := by decide +kernel
theorem dX12_strays_62 : decode cX12_strays 62 = .ok (.iconst 2, 1) := by decide +kernel
theorem dX12_strays_63 : decode cX12_strays 63 = .ok (.invokevirtual 241, 3) := by decide +kernel
theorem dX12_strays_66 : decode cX12_strays 66 = .ok (.invokestatic 284, 3) := by decide +kernel
theorem dX12_strays_69 : decode cX12_strays 69 = .ok (.istore_n 3, 1) := by decide +kernel
theorem dX12_strays_70 : decode cX12_strays 70 = .ok (.iload_n 3, 1) := by decide +kernel
theorem dX12_strays_71 : decode cX12_strays 71 = .ok (.aload_n 0, 1) := by decide +kernel
theorem dX12_strays_72 : decode cX12_strays 72 = .ok (.getfield 50, 3) := by decide +kernel
theorem dX12_strays_75 : decode cX12_strays 75 = .ok (.iload_n 1, 1) := by decide +kernel
theorem dX12_strays_76 : decode cX12_strays 76 = .ok (.iaload, 1) := by decide +kernel
theorem dX12_strays_77 : decode cX12_strays 77 = .ok (.if_icmp .ne 4, 3) := by decide +kernel
theorem dX12_strays_80 : decode cX12_strays 80 = .ok (.return_, 1) := by decide +kernel
theorem dX12_strays_81 : decode cX12_strays 81 = .ok (.aload_n 0, 1) := by decide +kernel
theorem dX12_strays_82 : decode cX12_strays 82 = .ok (.getfield 50, 3) := by decide +kernel
theorem dX12_strays_85 : decode cX12_strays 85 = .ok (.iload_n 1, 1) := by decide +kernel
theorem dX12_strays_86 : decode cX12_strays 86 = .ok (.iload_n 3, 1) := by decide +kernel
theorem dX12_strays_87 : decode cX12_strays 87 = .ok (.iastore, 1) := by decide +kernel
theorem dX12_strays_88 : decode cX12_strays 88 = .ok (.aload_n 0, 1) := by decide +kernel
theorem dX12_strays_89 : decode cX12_strays 89 = .ok (.iload_n 1, 1) := by decide +kernel
theorem dX12_strays_90 : decode cX12_strays 90 = .ok (.iload_n 3, 1) := by decide +kernel
theorem dX12_strays_91 : decode cX12_strays 91 = .ok (.iload_n 2, 1) := by decide +kernel
theorem dX12_strays_92 : decode cX12_strays 92 = .ok (.invokevirtual 281, 3) := by decide +kernel
theorem dX12_strays_95 : decode cX12_strays 95 = .ok (.return_, 1) := by decide +kernel
def w_X12_strays_69 (o : Nat) (a1 : Int32) (a2 : Int32) (post : mI → Prop) (I : mI) (s0 : Int32) : Prop := vp_in a1 6 ∧ (¬ s0 = (I (o + 14) a1.toNatClampNeg) → vp_in a1 6 ∧ ∀ I10, I10 = up2 I (o + 14) a1.toNatClampNeg s0 → w_X12_treads I10 o a1 s0 a2 (fun I11 => post I11)) ∧ (s0 = (I (o + 14) a1.toNatClampNeg) → post I)
set_option maxRecDepth 100000 in
set_option maxHeartbeats 4000000 in
theorem s_X12_strays_69 {p : Program} {l : Launch} {e : Env} {s : State} {m : MethodId} {args : Array Value} {below : List Frame} {meth : Method} {c : Code} {D : va_G} {cA : Nat → ClassId} {Z : mZ} {bs : Ad} {n : Nat} {K : mK} {R : mR} {L : mL} (E : Ev p s m args c cX12_strays 4 RX12 D cA Z bs) (hr : meth.sig.returnType = none) (hlk : meth.locks = false) {o : Nat} {a1 : Int32} {a2 : Int32} (ho : isX12 K R o) {post : mI → Prop} {I : mI} {s0 : Int32} {H : Heap} {locs : List Loc} {ls : Array Slot} (hw : w_X12_strays_69 o a1 a2 post I s0) (hM : mm D cA bs (n, K, R, I, L) H) (hS : va_S (Ab bs) s.heap H locs) (hl : lv_has ls 4 [(0, .ref (ad bs o)), (1, .int a1), (2, .int a2)]) : W p l e ({ frames := 5, cells := 0, slots := 0, locals := 114 } : Room) s m args below meth c H locs 0 0 (MQ below (QV D cA bs (fun u => ∃ I', u = (n, K, R, I', L) ∧ post I')) args s 0 0 (Ab bs)) (F0 m 69 ls [.int s0]) := by
  have hx := E.1.1
  have hb := E.1.2.1
  refine lv_istore_n (lv' := [(3, .int s0), (0, .ref (ad bs o)), (1, .int a1), (2, .int a2)]) hx hb dX12_strays_69 rfl hl (by decide) rfl (fun ls hl => ?_)
  refine lv_iload_n hx hb dX12_strays_70 rfl (lv_at hl 0 rfl) ?_
  refine lv_aload_n hx hb dX12_strays_71 rfl (lv_at hl 1 rfl) ?_
  refine m_getr E hM fs_X12_50 ho.1 (isO_at ho 13 rfl).1 dX12_strays_72 ?_
  refine lv_iload_n hx hb dX12_strays_75 rfl (lv_at hl 2 rfl) ?_
  obtain ⟨hv, hw⟩ := hw
  refine m_iald E hM (isO_at ho 13 rfl).2 hv dX12_strays_76 ?_
  refine lv_icmp_ne (tgt := 81) hx hb dX12_strays_77 (by decide) (fun cq => ?_) (fun cq => ?_)
  · have hw := hw.1 cq
    refine lv_aload_n hx hb dX12_strays_81 rfl (lv_at hl 1 rfl) ?_
    refine m_getr E hM fs_X12_50 ho.1 (isO_at ho 13 rfl).1 dX12_strays_82 ?_
    refine lv_iload_n hx hb dX12_strays_85 rfl (lv_at hl 2 rfl) ?_
    refine lv_iload_n hx hb dX12_strays_86 rfl (lv_at hl 0 rfl) ?_
    obtain ⟨hv, hw⟩ := hw
    refine m_iast E hM hS (isO_at ho 13 rfl).2 hv dX12_strays_87 (fun I10 H locs eI10 hM hS => ?_)
    have hw := hw I10 eI10
    refine lv_aload_n hx hb dX12_strays_88 rfl (lv_at hl 1 rfl) ?_
    refine lv_iload_n hx hb dX12_strays_89 rfl (lv_at hl 2 rfl) ?_
    refine lv_iload_n hx hb dX12_strays_90 rfl (lv_at hl 0 rfl) ?_
    refine lv_iload_n hx hb dX12_strays_91 rfl (lv_at hl 3 rfl) ?_
    refine m_cv (m_runV E hM hS cs_X12_281 ho.1 (by decide) rfl rfl (c_X12_treads ho hw) rfl rfl ⟨Nat.le_of_ble_eq_true rfl, Nat.le_of_ble_eq_true rfl⟩ rfl hl.1 rfl (Nat.le_of_ble_eq_true rfl) dX12_strays_92 ⟨Nat.le_of_ble_eq_true rfl, Nat.le_of_ble_eq_true rfl⟩) hS (fun u H locs hp hM hS => ?_)
    obtain ⟨I11, rfl, hw⟩ := hp
    exact m_retv hx hb hr hlk hM hS ⟨_, rfl, hw⟩ dX12_strays_95
  · have hw := hw.2 cq
    exact m_retv hx hb hr hlk hM hS ⟨_, rfl, hw⟩ dX12_strays_80
def w_X12_strays (I : mI) (o : Nat) (a1 : Int32) (a2 : Int32) (post : mI → Prop) : Prop := (59 < a2 → post I) ∧ (¬ 59 < a2 → w_X12_below I o 100 (fun r1 I2 => (r1 < (I2 o 24) → w_X12_below I2 o 2 (fun r3 I4 => (¬ r3 = 0 → vp_in a1 6 ∧ w_X12_told I4 o a1 2 (fun r5 => w_X12_towards (I4 (o + 14) a1.toNatClampNeg) 0 r5 (fun r6 => (w_X12_strays_69 o a1 a2 post) I4 r6))) ∧ (r3 = 0 → vp_in a1 6 ∧ w_X12_of I4 o 0 (fun r7 => w_X12_told I4 o a1 2 (fun r8 => w_X12_towards (I4 (o + 14) a1.toNatClampNeg) (r7 - 1) r8 (fun r9 => (w_X12_strays_69 o a1 a2 post) I4 r9)))))) ∧ (¬ r1 < (I2 o 24) → post I2)))
set_option maxRecDepth 100000 in
set_option maxHeartbeats 4000000 in
theorem c_X12_strays {l : Launch} {D : va_G} {cA : Nat → ClassId} {Z : mZ} {bs : Ad} {n : Nat} {K : mK} {R : mR} {I : mI} {L : mL} {o : Nat} {a1 : Int32} {a2 : Int32} {post : mI → Prop} (ho : isX12 K R o) (hw : w_X12_strays I o a1 a2 post) : Met l yX12_strays (.code yX12_strays cX12_strays 4 none :: gw) ({ frames := 5, cells := 0, slots := 0, locals := 114 } : Room) (PreM D cA Z bs (n, K, R, I, L) [.ref (ad bs o), .int a1, .int a2]) (QV D cA bs (fun u => ∃ I', u = (n, K, R, I', L) ∧ post I')) 0 0 (Ab bs) := by
  refine m_met (by decide) (Nat.le_of_ble_eq_true rfl) (fun p e s m below meth c ls E hr hlk hM hS hl => ?_)
  have E : Ev p s m _ c cX12_strays 4 RX12 D cA Z bs := E
  have hl : lv_has ls 4 [(0, .ref (ad bs o)), (1, .int a1), (2, .int a2)] := hl
  have hx := E.1.1
  have hb := E.1.2.1
  generalize hHe : s.heap = H at hM ⊢
  have hS : va_S (Ab bs) s.heap H [] := by rw [← hHe]; exact va_S.rf
  clear hHe
  refine lv_iload_n hx hb dX12_strays_0 rfl (lv_at hl 2 rfl) ?_
  refine lv_bipush (v := 59) hx hb dX12_strays_1 (by decide) ?_
  refine lv_icmp_gt (tgt := 19) hx hb dX12_strays_3 (by decide) (fun cq => ?_) (fun cq => ?_)
  · have hw := hw.1 cq
    exact m_retv hx hb hr hlk hM hS ⟨_, rfl, hw⟩ dX12_strays_19
  · have hw := hw.2 cq
    refine lv_aload_n hx hb dX12_strays_6 rfl (lv_at hl 0 rfl) ?_
    refine lv_bipush (v := 100) hx hb dX12_strays_7 (by decide) ?_
    refine m_ci (m_runV E hM hS cs_X12_291 ho.1 (by decide) rfl rfl (c_X12_below ho hw) rfl rfl ⟨Nat.le_of_ble_eq_true rfl, Nat.le_of_ble_eq_true rfl⟩ rfl hl.1 rfl (Nat.le_of_ble_eq_true rfl) dX12_strays_9 ⟨Nat.le_of_ble_eq_true rfl, Nat.le_of_ble_eq_true rfl⟩) hS (fun r1 u H locs hp hM hS => ?_)
    obtain ⟨I2, rfl, hw⟩ := hp
    refine lv_aload_n hx hb dX12_strays_12 rfl (lv_at hl 0 rfl) ?_
    refine m_geti E hM fs_X12_294 ho.1 dX12_strays_13 ?_
    refine lv_icmp_lt (tgt := 20) hx hb dX12_strays_16 (by decide) (fun cq => ?_) (fun cq => ?_)
    · have hw := hw.1 cq
      refine lv_aload_n hx hb dX12_strays_20 rfl (lv_at hl 0 rfl) ?_
      refine lv_iconst (v := 2) hx hb dX12_strays_21 (by decide) ?_
      refine m_ci (m_runV E hM hS cs_X12_291 ho.1 (by decide) rfl rfl (c_X12_below ho hw) rfl rfl ⟨Nat.le_of_ble_eq_true rfl, Nat.le_of_ble_eq_true rfl⟩ rfl hl.1 rfl (Nat.le_of_ble_eq_true rfl) dX12_strays_22 ⟨Nat.le_of_ble_eq_true rfl, Nat.le_of_ble_eq_true rfl⟩) hS (fun r3 u H locs hp hM hS => ?_)
      obtain ⟨I4, rfl, hw⟩ := hp
      refine lv_if_ne (tgt := 53) hx hb dX12_strays_25 (by decide) (fun cq => ?_) (fun cq => ?_)
      · have hw := hw.1 cq
        refine lv_aload_n hx hb dX12_strays_53 rfl (lv_at hl 0 rfl) ?_
        refine m_getr E hM fs_X12_50 ho.1 (isO_at ho 13 rfl).1 dX12_strays_54 ?_
        refine lv_iload_n hx hb dX12_strays_57 rfl (lv_at hl 1 rfl) ?_
        obtain ⟨hv, hw⟩ := hw
        refine m_iald E hM (isO_at ho 13 rfl).2 hv dX12_strays_58 ?_
        refine lv_iconst (v := 0) hx hb dX12_strays_59 (by decide) ?_
        refine lv_aload_n hx hb dX12_strays_60 rfl (lv_at hl 0 rfl) ?_
        refine lv_iload_n hx hb dX12_strays_61 rfl (lv_at hl 1 rfl) ?_
        refine lv_iconst (v := 2) hx hb dX12_strays_62 (by decide) ?_
        refine m_ci (m_runV E hM hS cs_X12_241 ho.1 (by decide) rfl rfl (c_X12_told ho hw) rfl rfl ⟨Nat.le_of_ble_eq_true rfl, Nat.le_of_ble_eq_true rfl⟩ rfl hl.1 rfl (Nat.le_of_ble_eq_true rfl) dX12_strays_63 ⟨Nat.le_of_ble_eq_true rfl, Nat.le_of_ble_eq_true rfl⟩) hS (fun r5 u H locs hp hM hS => ?_)
        obtain ⟨rfl, hw⟩ := hp
        refine m_ci (m_runS E hM hS cs_X12_284 (c_X12_towards  hw) rfl rfl ⟨Nat.le_of_ble_eq_true rfl, Nat.le_of_ble_eq_true rfl⟩ rfl hl.1 rfl (Nat.le_of_ble_eq_true rfl) dX12_strays_66 ⟨Nat.le_of_ble_eq_true rfl, Nat.le_of_ble_eq_true rfl⟩) hS (fun r6 u H locs hp hM hS => ?_)
        obtain ⟨rfl, hw⟩ := hp
        exact s_X12_strays_69 E hr hlk ho  hw hM hS (lv_sub hl [0, 1, 2] rfl)
      · have hw := hw.2 cq
        refine lv_aload_n hx hb dX12_strays_28 rfl (lv_at hl 0 rfl) ?_
        refine m_getr E hM fs_X12_50 ho.1 (isO_at ho 13 rfl).1 dX12_strays_29 ?_
        refine lv_iload_n hx hb dX12_strays_32 rfl (lv_at hl 1 rfl) ?_
        obtain ⟨hv, hw⟩ := hw
        refine m_iald E hM (isO_at ho 13 rfl).2 hv dX12_strays_33 ?_
        refine lv_aload_n hx hb dX12_strays_34 rfl (lv_at hl 0 rfl) ?_
        refine lv_iconst (v := 0) hx hb dX12_strays_35 (by decide) ?_
        refine m_ci (m_runV E hM hS cs_X12_205 ho.1 (by decide) rfl rfl (c_X12_of ho hw) rfl rfl ⟨Nat.le_of_ble_eq_true rfl, Nat.le_of_ble_eq_true rfl⟩ rfl hl.1 rfl (Nat.le_of_ble_eq_true rfl) dX12_strays_36 ⟨Nat.le_of_ble_eq_true rfl, Nat.le_of_ble_eq_true rfl⟩) hS (fun r7 u H locs hp hM hS => ?_)
        obtain ⟨rfl, hw⟩ := hp
        refine lv_iconst (v := 1) hx hb dX12_strays_39 (by decide) ?_
        refine lv_isub hx hb dX12_strays_40 ?_
        refine lv_aload_n hx hb dX12_strays_41 rfl (lv_at hl 0 rfl) ?_
        refine lv_iload_n hx hb dX12_strays_42 rfl (lv_at hl 1 rfl) ?_
        refine lv_iconst (v := 2) hx hb dX12_strays_43 (by decide) ?_
        refine m_ci (m_runV E hM hS cs_X12_241 ho.1 (by decide) rfl rfl (c_X12_told ho hw) rfl rfl ⟨Nat.le_of_ble_eq_true rfl, Nat.le_of_ble_eq_true rfl⟩ rfl hl.1 rfl (Nat.le_of_ble_eq_true rfl) dX12_strays_44 ⟨Nat.le_of_ble_eq_true rfl, Nat.le_of_ble_eq_true rfl⟩) hS (fun r8 u H locs hp hM hS => ?_)
        obtain ⟨rfl, hw⟩ := hp
        refine m_ci (m_runS E hM hS cs_X12_284 (c_X12_towards  hw) rfl rfl ⟨Nat.le_of_ble_eq_true rfl, Nat.le_of_ble_eq_true rfl⟩ rfl hl.1 rfl (Nat.le_of_ble_eq_true rfl) dX12_strays_47 ⟨Nat.le_of_ble_eq_true rfl, Nat.le_of_ble_eq_true rfl⟩) hS (fun r9 u H locs hp hM hS => ?_)
        obtain ⟨rfl, hw⟩ := hp
        refine lv_goto (tgt := 69) hx hb dX12_strays_50 (by decide) ?_
        exact s_X12_strays_69 E hr hlk ho  hw hM hS (lv_sub hl [0, 1, 2] rfl)
    · have hw := hw.2 cq
      exact m_retv hx hb hr hlk hM hS ⟨_, rfl, hw⟩ dX12_strays_19
theorem dX12_runs_0 : decode cX12_runs 0 = .ok (.aload_n 0, 1) := by decide +kernel
theorem dX12_runs_1 : decode cX12_runs 1 = .ok (.iconst 0, 1) := by decide +kernel
theorem dX12_runs_2 : decode cX12_runs 2 = .ok (.putfield 262, 3) := by decide +kernel
theorem dX12_runs_5 : decode cX12_runs 5 = .ok (.iconst 0, 1) := by decide +kernel
theorem dX12_runs_6 : decode cX12_runs 6 = .ok (.istore_n 1, 1) := by decide +kernel
theorem dX12_runs_7 : decode cX12_runs 7 = .ok (.iload_n 1, 1) := by decide +kernel
theorem dX12_runs_8 : decode cX12_runs 8 = .ok (.aload_n 0, 1) := by decide +kernel
theorem dX12_runs_9 : decode cX12_runs 9 = .ok (.invokevirtual 208, 3) := by decide +kernel
theorem dX12_runs_12 : decode cX12_runs 12 = .ok (.if_icmp .ge 41, 3) := by decide +kernel
theorem dX12_runs_15 : decode cX12_runs 15 = .ok (.aload_n 0, 1) := by decide +kernel
theorem dX12_runs_16 : decode cX12_runs 16 = .ok (.getfield 47, 3) := by decide +kernel
theorem dX12_runs_19 : decode cX12_runs 19 = .ok (.iload_n 1, 1) := by decide +kernel
theorem dX12_runs_20 : decode cX12_runs 20 = .ok (.iconst 0, 1) := by decide +kernel
theorem dX12_runs_21 : decode cX12_runs 21 = .ok (.iastore, 1) := by decide +kernel
theorem dX12_runs_22 : decode cX12_runs 22 = .ok (.aload_n 0, 1) := by decide +kernel
theorem dX12_runs_23 : decode cX12_runs 23 = .ok (.getfield 50, 3) := by decide +kernel
theorem dX12_runs_26 : decode cX12_runs 26 = .ok (.iload_n 1, 1) := by decide +kernel
theorem dX12_runs_27 : decode cX12_runs 27 = .ok (.aload_n 0, 1) := by decide +kernel
theorem dX12_runs_28 : decode cX12_runs 28 = .ok (.getfield 235, 3) := by decide +kernel
theorem dX12_runs_31 : decode cX12_runs 31 = .ok (.ifCond .eq 7, 3) := by decide +kernel
theorem dX12_runs_34 : decode cX12_runs 34 = .ok (.iconst 0, 1) := by decide +kernel
theorem dX12_runs_35 : decode cX12_runs 35 = .ok (.goto 4, 3) := by decide +kernel
theorem dX12_runs_38 : decode cX12_runs 38 = .ok (.iconst (-1), 1) := by decide +kernel
theorem dX12_runs_39 : decode cX12_runs 39 = .ok (.iastore, 1) := by decide +kernel
theorem dX12_runs_40 : decode cX12_runs 40 = .ok (.aload_n 0, 1) := by decide +kernel
theorem dX12_runs_41 : decode cX12_runs 41 = .ok (.getfield 53, 3) := by decide +kernel
theorem dX12_runs_44 : decode cX12_runs 44 = .ok (.iload_n 1, 1) := by decide +kernel
theorem dX12_runs_45 : decode cX12_runs 45 = .ok (.iconst (-1), 1) := by decide +kernel
theorem dX12_runs_46 : decode cX12_runs 46 = .ok (.iastore, 1) := by decide +kernel
theorem dX12_runs_47 : decode cX12_runs 47 = .ok (.iinc 1 1, 3) := by decide +kernel
theorem dX12_runs_50 : decode cX12_runs 50 = .ok (.goto (-43), 3) := by decide +kernel
theorem dX12_runs_53 : decode cX12_runs 53 = .ok (.iconst 0, 1) := by decide +kernel
theorem dX12_runs_54 : decode cX12_runs 54 = .ok (.istore_n 1, 1) := by decide +kernel
theorem dX12_runs_55 : decode cX12_runs 55 = .ok (.iload_n 1, 1) := by decide +kernel
theorem dX12_runs_56 : decode cX12_runs 56 = .ok (.bipush 100, 2) := by decide +kernel
theorem dX12_runs_58 : decode cX12_runs 58 = .ok (.if_icmp .ge 72, 3) := by decide +kernel
theorem dX12_runs_61 : decode cX12_runs 61 = .ok (.iconst 0, 1) := by decide +kernel
theorem dX12_runs_62 : decode cX12_runs 62 = .ok (.istore_n 2, 1) := by decide +kernel
theorem dX12_runs_63 : decode cX12_runs 63 = .ok (.iload_n 2, 1) := by decide +kernel
theorem dX12_runs_64 : decode cX12_runs 64 = .ok (.aload_n 0, 1) := by decide +kernel
theorem dX12_runs_65 : decode cX12_runs 65 = .ok (.invokevirtual 208, 3) := by decide +kernel
theorem dX12_runs_68 : decode cX12_runs 68 = .ok (.if_icmp .ge 56, 3) := by decide +kernel
theorem dX12_runs_71 : decode cX12_runs 71 = .ok (.aload_n 0, 1) := by decide +kernel
theorem dX12_runs_72 : decode cX12_runs 72 = .ok (.getfield 235, 3) := by decide +kernel
theorem dX12_runs_75 : decode cX12_runs 75 = .ok (.ifCond .eq 12, 3) := by decide +kernel
theorem dX12_runs_78 : decode cX12_runs 78 = .ok (.aload_n 0, 1) := by decide +kernel
theorem dX12_runs_79 : decode cX12_runs 79 = .ok (.iload_n 2, 1) := by decide +kernel
theorem dX12_runs_80 : decode cX12_runs 80 = .ok (.iload_n 1, 1) := by decide +kernel
theorem dX12_runs_81 : decode cX12_runs 81 = .ok (.invokevirtual 297, 3) := by decide +kernel
theorem dX12_runs_84 : decode cX12_runs 84 = .ok (.goto 17, 3) := by decide +kernel
theorem dX12_runs_87 : decode cX12_runs 87 = .ok (.iload_n 2, 1) := by decide +kernel
theorem dX12_runs_88 : decode cX12_runs 88 = .ok (.aload_n 0, 1) := by decide +kernel
theorem dX12_runs_89 : decode cX12_runs 89 = .ok (.getfield 226, 3) := by decide +kernel
theorem dX12_runs_92 : decode cX12_runs 92 = .ok (.if_icmp .eq 9, 3) := by decide +kernel
theorem dX12_runs_95 : decode cX12_runs 95 = .ok (.aload_n 0, 1) := by decide +kernel
theorem dX12_runs_96 : decode cX12_runs 96 = .ok (.iload_n 2, 1) := by decide +kernel
theorem dX12_runs_97 : decode cX12_runs 97 = .ok (.iload_n 1, 1) := by decide +kernel
theorem dX12_runs_98 : decode cX12_runs 98 = .ok (.invokevirtual 300, 3) := by decide +kernel
theorem dX12_runs_101 : decode cX12_runs 101 = .ok (.aload_n 0, 1) := by decide +kernel
theorem dX12_runs_102 : decode cX12_runs 102 = .ok (.getfield 44, 3) := by decide +kernel
theorem dX12_runs_105 : decode cX12_runs 105 = .ok (.bipush 100, 2) := by decide +kernel
theorem dX12_runs_107 : decode cX12_runs 107 = .ok (.iload_n 2, 1) := by decide +kernel
theorem dX12_runs_108 : decode cX12_runs 108 = .ok (.imul, 1) := by decide +kernel
theorem dX12_runs_109 : decode cX12_runs 109 = .ok (.iload_n 1, 1) := by decide +kernel
theorem dX12_runs_110 : decode cX12_runs 110 = .ok (.iadd, 1) := by decide +kernel
theorem dX12_runs_111 : decode cX12_runs 111 = .ok (.aload_n 0, 1) := by decide +kernel
theorem dX12_runs_112 : decode cX12_runs 112 = .ok (.getfield 50, 3) := by decide +kernel
theorem dX12_runs_115 : decode cX12_runs 115 = .ok (.iload_n 2, 1) := by decide +kernel
theorem dX12_runs_116 : decode cX12_runs 116 = .ok (.iaload, 1) := by decide +kernel
theorem dX12_runs_117 : decode cX12_runs 117 = .ok (.iastore, 1) := by decide +kernel
theorem dX12_runs_118 : decode cX12_runs 118 = .ok (.iinc 2 1, 3) := by decide +kernel
theorem dX12_runs_121 : decode cX12_runs 121 = .ok (.goto (-58), 3) := by decide +kernel
theorem dX12_runs_124 : decode cX12_runs 124 = .ok (.iinc 1 1, 3) := by decide +kernel
theorem dX12_runs_127 : decode cX12_runs 127 = .ok (.goto (-72), 3) := by decide +kernel
theorem dX12_runs_130 : decode cX12_runs 130 = .ok (.return_, 1) := by decide +kernel
def w_X12_runs_39 (o : Nat) (post : mI → Prop) (k7 : mI → Int32 → Prop) (I : mI) (v1 : Int32) (s1 : Int32) (s2 : Int32) : Prop := vp_in s1 6 ∧ ∀ I4, I4 = up2 I (o + 14) s1.toNatClampNeg s2 → vp_in v1 6 ∧ ∀ I5, I5 = up2 I4 (o + 15) v1.toNatClampNeg (-1) → ∀ x6, x6 = v1 + 1 → k7 I5 x6
set_option maxRecDepth 100000 in
set_option maxHeartbeats 4000000 in
theorem s_X12_runs_39 {p : Program} {l : Launch} {e : Env} {s : State} {m : MethodId} {args : Array Value} {below : List Frame} {meth : Method} {c : Code} {D : va_G} {cA : Nat → ClassId} {Z : mZ} {bs : Ad} {n : Nat} {K : mK} {R : mR} {L : mL} (E : Ev p s m args c cX12_runs 3 RX12 D cA Z bs) (hr : meth.sig.returnType = none) (hlk : meth.locks = false) {o : Nat} (ho : isX12 K R o) {post : mI → Prop} {k7 : mI → Int32 → Prop} (hk7 : ∀ (I : mI) (v1 : Int32) (H : Heap) (locs : List Loc) (ls : Array Slot), k7 I v1 → mm D cA bs (n, K, R, I, L) H → va_S (Ab bs) s.heap H locs → lv_has ls 3 [(0, .ref (ad bs o)), (1, .int v1)] → W p l e ({ frames := 6, cells := 0, slots := 0, locals := 137 } : Room) s m args below meth c H locs 0 0 (MQ below (QV D cA bs (fun u => ∃ I', u = (n, K, R, I', L) ∧ post I')) args s 0 0 (Ab bs)) (F0 m 7 ls [])) {I : mI} {v1 : Int32} {s1 : Int32} {s2 : Int32} {H : Heap} {locs : List Loc} {ls : Array Slot} (hw : w_X12_runs_39 o post k7 I v1 s1 s2) (hM : mm D cA bs (n, K, R, I, L) H) (hS : va_S (Ab bs) s.heap H locs) (hl : lv_has ls 3 [(0, .ref (ad bs o)), (1, .int v1)]) : W p l e ({ frames := 6, cells := 0, slots := 0, locals := 137 } : Room) s m args below meth c H locs 0 0 (MQ below (QV D cA bs (fun u => ∃ I', u = (n, K, R, I', L) ∧ post I')) args s 0 0 (Ab bs)) (F0 m 39 ls [.int s2, .int s1, .ref (ad bs (o + 14))]) := by
  have hx := E.1.1
  have hb := E.1.2.1
  obtain ⟨hv, hw⟩ := hw
  refine m_iast E hM hS (isO_at ho 13 rfl).2 hv dX12_runs_39 (fun I4 H locs eI4 hM hS => ?_)
  have hw := hw I4 eI4
  refine lv_aload_n hx hb dX12_runs_40 rfl (lv_at hl 0 rfl) ?_
  refine m_getr E hM fs_X12_53 ho.1 (isO_at ho 14 rfl).1 dX12_runs_41 ?_
  refine lv_iload_n hx hb dX12_runs_44 rfl (lv_at hl 1 rfl) ?_
  refine lv_iconst (v := (-1)) hx hb dX12_runs_45 (by decide) ?_
  obtain ⟨hv, hw⟩ := hw
  refine m_iast E hM hS (isO_at ho 14 rfl).2 hv dX12_runs_46 (fun I5 H locs eI5 hM hS => ?_)
  have hw := hw I5 eI5
  obtain ⟨x6, ex6⟩ : ∃ y : Int32, y = v1 + 1 := ⟨_, rfl⟩
  have hw := hw x6 ex6
  refine lv_iinc (v := x6) (lv' := [(1, .int x6), (0, .ref (ad bs o))]) hx hb dX12_runs_47 hl (k := 1) rfl (by rw [ex6]; rfl) (by decide) rfl (fun ls hl => ?_)
  refine lv_goto (tgt := 7) hx hb dX12_runs_50 (by decide) ?_
  exact hk7 _ _ H locs ls  hw hM hS (lv_sub hl [1, 0] rfl)
def w_X12_runs_7 (o : Nat) (post : mI → Prop) (k55 : mI → Int32 → Prop) (I : mI) (v1 : Int32) : Prop := ∀ ZZ : (mI → Int32 → Prop), (∀ (I : mI) (v1 : Int32), (w_X12_people I o (fun r2 => (r2 ≤ v1 → k55 I 0) ∧ (¬ r2 ≤ v1 → vp_in v1 6 ∧ ∀ I3, I3 = up2 I (o + 13) v1.toNatClampNeg 0 → ((I3 o 22) = 0 → (w_X12_runs_39 o post ZZ) I3 v1 v1 (-1)) ∧ (¬ (I3 o 22) = 0 → (w_X12_runs_39 o post ZZ) I3 v1 v1 0)))) → ZZ I v1) → ZZ I v1
set_option maxRecDepth 100000 in
set_option maxHeartbeats 4000000 in
theorem s_X12_runs_7 {p : Program} {l : Launch} {e : Env} {s : State} {m : MethodId} {args : Array Value} {below : List Frame} {meth : Method} {c : Code} {D : va_G} {cA : Nat → ClassId} {Z : mZ} {bs : Ad} {n : Nat} {K : mK} {R : mR} {L : mL} (E : Ev p s m args c cX12_runs 3 RX12 D cA Z bs) (hr : meth.sig.returnType = none) (hlk : meth.locks = false) {o : Nat} (ho : isX12 K R o) {post : mI → Prop} {k55 : mI → Int32 → Prop} (hk55 : ∀ (I : mI) (v1 : Int32) (H : Heap) (locs : List Loc) (ls : Array Slot), k55 I v1 → mm D cA bs (n, K, R, I, L) H → va_S (Ab bs) s.heap H locs → lv_has ls 3 [(0, .ref (ad bs o)), (1, .int v1)] → W p l e ({ frames := 6, cells := 0, slots := 0, locals := 137 } : Room) s m args below meth c H locs 0 0 (MQ below (QV D cA bs (fun u => ∃ I', u = (n, K, R, I', L) ∧ post I')) args s 0 0 (Ab bs)) (F0 m 55 ls [])) {I : mI} {v1 : Int32} {H : Heap} {locs : List Loc} {ls : Array Slot} (hw : w_X12_runs_7 o post k55 I v1) (hM : mm D cA bs (n, K, R, I, L) H) (hS : va_S (Ab bs) s.heap H locs) (hl : lv_has ls 3 [(0, .ref (ad bs o)), (1, .int v1)]) : W p l e ({ frames := 6, cells := 0, slots := 0, locals := 137 } : Room) s m args below meth c H locs 0 0 (MQ below (QV D cA bs (fun u => ∃ I', u = (n, K, R, I', L) ∧ post I')) args s 0 0 (Ab bs)) (F0 m 7 ls []) := by
  have hx := E.1.1
  have hb := E.1.2.1
  refine hw (fun I v1 => ∀ (H : Heap) (locs : List Loc) (ls : Array Slot), mm D cA bs (n, K, R, I, L) H → va_S (Ab bs) s.heap H locs → lv_has ls 3 [(0, .ref (ad bs o)), (1, .int v1)] → W p l e ({ frames := 6, cells := 0, slots := 0, locals := 137 } : Room) s m args below meth c H locs 0 0 (MQ below (QV D cA bs (fun u => ∃ I', u = (n, K, R, I', L) ∧ post I')) args s 0 0 (Ab bs)) (F0 m 7 ls [])) ?_ H locs ls hM hS hl
  clear hw hM hS hl
  intro I v1 hw H locs ls hM hS hl
  refine lv_iload_n hx hb dX12_runs_7 rfl (lv_at hl 1 rfl) ?_
  refine lv_aload_n hx hb dX12_runs_8 rfl (lv_at hl 0 rfl) ?_
  refine m_ci (m_runV E hM hS cs_X12_208 ho.1 (by decide) rfl rfl (c_X12_people ho hw) rfl rfl ⟨Nat.le_of_ble_eq_true rfl, Nat.le_of_ble_eq_true rfl⟩ rfl hl.1 rfl (Nat.le_of_ble_eq_true rfl) dX12_runs_9 ⟨Nat.le_of_ble_eq_true rfl, Nat.le_of_ble_eq_true rfl⟩) hS (fun r2 u H locs hp hM hS => ?_)
  obtain ⟨rfl, hw⟩ := hp
  refine lv_icmp_ge (tgt := 53) hx hb dX12_runs_12 (by decide) (fun cq => ?_) (fun cq => ?_)
  · have hw := hw.1 cq
    refine lv_iconst (v := 0) hx hb dX12_runs_53 (by decide) ?_
    refine lv_istore_n (lv' := [(1, .int 0), (0, .ref (ad bs o))]) hx hb dX12_runs_54 rfl hl (by decide) rfl (fun ls hl => ?_)
    exact hk55 _ _ H locs ls  hw hM hS (lv_sub hl [1, 0] rfl)
  · have hw := hw.2 cq
    refine lv_aload_n hx hb dX12_runs_15 rfl (lv_at hl 0 rfl) ?_
    refine m_getr E hM fs_X12_47 ho.1 (isO_at ho 12 rfl).1 dX12_runs_16 ?_
    refine lv_iload_n hx hb dX12_runs_19 rfl (lv_at hl 1 rfl) ?_
    refine lv_iconst (v := 0) hx hb dX12_runs_20 (by decide) ?_
    obtain ⟨hv, hw⟩ := hw
    refine m_iast E hM hS (isO_at ho 12 rfl).2 hv dX12_runs_21 (fun I3 H locs eI3 hM hS => ?_)
    have hw := hw I3 eI3
    refine lv_aload_n hx hb dX12_runs_22 rfl (lv_at hl 0 rfl) ?_
    refine m_getr E hM fs_X12_50 ho.1 (isO_at ho 13 rfl).1 dX12_runs_23 ?_
    refine lv_iload_n hx hb dX12_runs_26 rfl (lv_at hl 1 rfl) ?_
    refine lv_aload_n hx hb dX12_runs_27 rfl (lv_at hl 0 rfl) ?_
    refine m_geti E hM fs_X12_235 ho.1 dX12_runs_28 ?_
    refine lv_if_eq (tgt := 38) hx hb dX12_runs_31 (by decide) (fun cq => ?_) (fun cq => ?_)
    · have hw := hw.1 cq
      refine lv_iconst (v := (-1)) hx hb dX12_runs_38 (by decide) ?_
      exact s_X12_runs_39 E hr hlk ho (fun I v1 H locs ls  hw hM hS hl => hw H locs ls  hM hS hl)  hw hM hS (lv_sub hl [0, 1] rfl)
    · have hw := hw.2 cq
      refine lv_iconst (v := 0) hx hb dX12_runs_34 (by decide) ?_
      refine lv_goto (tgt := 39) hx hb dX12_runs_35 (by decide) ?_
      exact s_X12_runs_39 E hr hlk ho (fun I v1 H locs ls  hw hM hS hl => hw H locs ls  hM hS hl)  hw hM hS (lv_sub hl [0, 1] rfl)
def w_X12_runs_101 (o : Nat) (post : mI → Prop) (k63 : mI → Int32 → Int32 → Prop) (I : mI) (v1 : Int32) (v2 : Int32) : Prop := vp_in v2 6 ∧ vp_in ((100 * v2) + v1) 600 ∧ ∀ I11, I11 = up2 I (o + 12) (((100 * v2) + v1).toNatClampNeg) (I (o + 14) v2.toNatClampNeg) → ∀ x12, x12 = v2 + 1 → k63 I11 v1 x12
set_option maxRecDepth 100000 in
set_option maxHeartbeats 4000000 in
theorem s_X12_runs_101 {p : Program} {l : Launch} {e : Env} {s : State} {m : MethodId} {args : Array Value} {below : List Frame} {meth : Method} {c : Code} {D : va_G} {cA : Nat → ClassId} {Z : mZ} {bs : Ad} {n : Nat} {K : mK} {R : mR} {L : mL} (E : Ev p s m args c cX12_runs 3 RX12 D cA Z bs) (hr : meth.sig.returnType = none) (hlk : meth.locks = false) {o : Nat} (ho : isX12 K R o) {post : mI → Prop} {k63 : mI → Int32 → Int32 → Prop} (hk63 : ∀ (I : mI) (v1 : Int32) (v2 : Int32) (H : Heap) (locs : List Loc) (ls : Array Slot), k63 I v1 v2 → mm D cA bs (n, K, R, I, L) H → va_S (Ab bs) s.heap H locs → lv_has ls 3 [(0, .ref (ad bs o)), (1, .int v1), (2, .int v2)] → W p l e ({ frames := 6, cells := 0, slots := 0, locals := 137 } : Room) s m args below meth c H locs 0 0 (MQ below (QV D cA bs (fun u => ∃ I', u = (n, K, R, I', L) ∧ post I')) args s 0 0 (Ab bs)) (F0 m 63 ls [])) {I : mI} {v1 : Int32} {v2 : Int32} {H : Heap} {locs : List Loc} {ls : Array Slot} (hw : w_X12_runs_101 o post k63 I v1 v2) (hM : mm D cA bs (n, K, R, I, L) H) (hS : va_S (Ab bs) s.heap H locs) (hl : lv_has ls 3 [(0, .ref (ad bs o)), (1, .int v1), (2, .int v2)]) : W p l e ({ frames := 6, cells := 0, slots := 0, locals := 137 } : Room) s m args below meth c H locs 0 0 (MQ below (QV D cA bs (fun u => ∃ I', u = (n, K, R, I', L) ∧ post I')) args s 0 0 (Ab bs)) (F0 m 101 ls []) := by
  have hx := E.1.1
  have hb := E.1.2.1
  refine lv_aload_n hx hb dX12_runs_101 rfl (lv_at hl 0 rfl) ?_
  refine m_getr E hM fs_X12_44 ho.1 (isO_at ho 11 rfl).1 dX12_runs_102 ?_
  refine lv_bipush (v := 100) hx hb dX12_runs_105 (by decide) ?_
  refine lv_iload_n hx hb dX12_runs_107 rfl (lv_at hl 2 rfl) ?_
  refine lv_imul hx hb dX12_runs_108 ?_
  refine lv_iload_n hx hb dX12_runs_109 rfl (lv_at hl 1 rfl) ?_
  refine lv_iadd hx hb dX12_runs_110 ?_
  refine lv_aload_n hx hb dX12_runs_111 rfl (lv_at hl 0 rfl) ?_
  refine m_getr E hM fs_X12_50 ho.1 (isO_at ho 13 rfl).1 dX12_runs_112 ?_
  refine lv_iload_n hx hb dX12_runs_115 rfl (lv_at hl 2 rfl) ?_
  obtain ⟨hv, hw⟩ := hw
  refine m_iald E hM (isO_at ho 13 rfl).2 hv dX12_runs_116 ?_
  obtain ⟨hv, hw⟩ := hw
  refine m_iast E hM hS (isO_at ho 11 rfl).2 hv dX12_runs_117 (fun I11 H locs eI11 hM hS => ?_)
  have hw := hw I11 eI11
  obtain ⟨x12, ex12⟩ : ∃ y : Int32, y = v2 + 1 := ⟨_, rfl⟩
  have hw := hw x12 ex12
  refine lv_iinc (v := x12) (lv' := [(2, .int x12), (0, .ref (ad bs o)), (1, .int v1)]) hx hb dX12_runs_118 hl (k := 2) rfl (by rw [ex12]; rfl) (by decide) rfl (fun ls hl => ?_)
  refine lv_goto (tgt := 63) hx hb dX12_runs_121 (by decide) ?_
  exact hk63 _ _ _ H locs ls  hw hM hS (lv_sub hl [1, 2, 0] rfl)
def w_X12_runs_63 (o : Nat) (post : mI → Prop) (k55 : mI → Int32 → Prop) (I : mI) (v1 : Int32) (v2 : Int32) : Prop := ∀ ZZ : (mI → Int32 → Int32 → Prop), (∀ (I : mI) (v1 : Int32) (v2 : Int32), (w_X12_people I o (fun r7 => (r7 ≤ v2 → ∀ x8, x8 = v1 + 1 → k55 I x8) ∧ (¬ r7 ≤ v2 → ((I o 22) = 0 → (v2 = (I o 17) → (w_X12_runs_101 o post ZZ) I v1 v2) ∧ (¬ v2 = (I o 17) → w_X12_walks I o v2 v1 (fun I9 => (w_X12_runs_101 o post ZZ) I9 v1 v2))) ∧ (¬ (I o 22) = 0 → w_X12_strays I o v2 v1 (fun I10 => (w_X12_runs_101 o post ZZ) I10 v1 v2))))) → ZZ I v1 v2) → ZZ I v1 v2
set_option maxRecDepth 100000 in
set_option maxHeartbeats 4000000 in
theorem s_X12_runs_63 {p : Program} {l : Launch} {e : Env} {s : State} {m : MethodId} {args : Array Value} {below : List Frame} {meth : Method} {c : Code} {D : va_G} {cA : Nat → ClassId} {Z : mZ} {bs : Ad} {n : Nat} {K : mK} {R : mR} {L : mL} (E : Ev p s m args c cX12_runs 3 RX12 D cA Z bs) (hr : meth.sig.returnType = none) (hlk : meth.locks = false) {o : Nat} (ho : isX12 K R o) {post : mI → Prop} {k55 : mI → Int32 → Prop} (hk55 : ∀ (I : mI) (v1 : Int32) (H : Heap) (locs : List Loc) (ls : Array Slot), k55 I v1 → mm D cA bs (n, K, R, I, L) H → va_S (Ab bs) s.heap H locs → lv_has ls 3 [(0, .ref (ad bs o)), (1, .int v1)] → W p l e ({ frames := 6, cells := 0, slots := 0, locals := 137 } : Room) s m args below meth c H locs 0 0 (MQ below (QV D cA bs (fun u => ∃ I', u = (n, K, R, I', L) ∧ post I')) args s 0 0 (Ab bs)) (F0 m 55 ls [])) {I : mI} {v1 : Int32} {v2 : Int32} {H : Heap} {locs : List Loc} {ls : Array Slot} (hw : w_X12_runs_63 o post k55 I v1 v2) (hM : mm D cA bs (n, K, R, I, L) H) (hS : va_S (Ab bs) s.heap H locs) (hl : lv_has ls 3 [(0, .ref (ad bs o)), (1, .int v1), (2, .int v2)]) : W p l e ({ frames := 6, cells := 0, slots := 0, locals := 137 } : Room) s m args below meth c H locs 0 0 (MQ below (QV D cA bs (fun u => ∃ I', u = (n, K, R, I', L) ∧ post I')) args s 0 0 (Ab bs)) (F0 m 63 ls []) := by
  have hx := E.1.1
  have hb := E.1.2.1
  refine hw (fun I v1 v2 => ∀ (H : Heap) (locs : List Loc) (ls : Array Slot), mm D cA bs (n, K, R, I, L) H → va_S (Ab bs) s.heap H locs → lv_has ls 3 [(0, .ref (ad bs o)), (1, .int v1), (2, .int v2)] → W p l e ({ frames := 6, cells := 0, slots := 0, locals := 137 } : Room) s m args below meth c H locs 0 0 (MQ below (QV D cA bs (fun u => ∃ I', u = (n, K, R, I', L) ∧ post I')) args s 0 0 (Ab bs)) (F0 m 63 ls [])) ?_ H locs ls hM hS hl
  clear hw hM hS hl
  intro I v1 v2 hw H locs ls hM hS hl
  refine lv_iload_n hx hb dX12_runs_63 rfl (lv_at hl 2 rfl) ?_
  refine lv_aload_n hx hb dX12_runs_64 rfl (lv_at hl 0 rfl) ?_
  refine m_ci (m_runV E hM hS cs_X12_208 ho.1 (by decide) rfl rfl (c_X12_people ho hw) rfl rfl ⟨Nat.le_of_ble_eq_true rfl, Nat.le_of_ble_eq_true rfl⟩ rfl hl.1 rfl (Nat.le_of_ble_eq_true rfl) dX12_runs_65 ⟨Nat.le_of_ble_eq_true rfl, Nat.le_of_ble_eq_true rfl⟩) hS (fun r7 u H locs hp hM hS => ?_)
  obtain ⟨rfl, hw⟩ := hp
  refine lv_icmp_ge (tgt := 124) hx hb dX12_runs_68 (by decide) (fun cq => ?_) (fun cq => ?_)
  · have hw := hw.1 cq
    obtain ⟨x8, ex8⟩ : ∃ y : Int32, y = v1 + 1 := ⟨_, rfl⟩
    have hw := hw x8 ex8
    refine lv_iinc (v := x8) (lv' := [(1, .int x8), (0, .ref (ad bs o)), (2, .int v2)]) hx hb dX12_runs_124 hl (k := 1) rfl (by rw [ex8]; rfl) (by decide) rfl (fun ls hl => ?_)
    refine lv_goto (tgt := 55) hx hb dX12_runs_127 (by decide) ?_
    exact hk55 _ _ H locs ls  hw hM hS (lv_sub hl [1, 0] rfl)
  · have hw := hw.2 cq
    refine lv_aload_n hx hb dX12_runs_71 rfl (lv_at hl 0 rfl) ?_
    refine m_geti E hM fs_X12_235 ho.1 dX12_runs_72 ?_
    refine lv_if_eq (tgt := 87) hx hb dX12_runs_75 (by decide) (fun cq => ?_) (fun cq => ?_)
    · have hw := hw.1 cq
      refine lv_iload_n hx hb dX12_runs_87 rfl (lv_at hl 2 rfl) ?_
      refine lv_aload_n hx hb dX12_runs_88 rfl (lv_at hl 0 rfl) ?_
      refine m_geti E hM fs_X12_226 ho.1 dX12_runs_89 ?_
      refine lv_icmp_eq (tgt := 101) hx hb dX12_runs_92 (by decide) (fun cq => ?_) (fun cq => ?_)
      · have hw := hw.1 cq
        exact s_X12_runs_101 E hr hlk ho (fun I v1 v2 H locs ls  hw hM hS hl => hw H locs ls  hM hS hl)  hw hM hS (lv_sub hl [0, 1, 2] rfl)
      · have hw := hw.2 cq
        refine lv_aload_n hx hb dX12_runs_95 rfl (lv_at hl 0 rfl) ?_
        refine lv_iload_n hx hb dX12_runs_96 rfl (lv_at hl 2 rfl) ?_
        refine lv_iload_n hx hb dX12_runs_97 rfl (lv_at hl 1 rfl) ?_
        refine m_cv (m_runV E hM hS cs_X12_300 ho.1 (by decide) rfl rfl (c_X12_walks ho hw) rfl rfl ⟨Nat.le_of_ble_eq_true rfl, Nat.le_of_ble_eq_true rfl⟩ rfl hl.1 rfl (Nat.le_of_ble_eq_true rfl) dX12_runs_98 ⟨Nat.le_of_ble_eq_true rfl, Nat.le_of_ble_eq_true rfl⟩) hS (fun u H locs hp hM hS => ?_)
        obtain ⟨I9, rfl, hw⟩ := hp
        exact s_X12_runs_101 E hr hlk ho (fun I v1 v2 H locs ls  hw hM hS hl => hw H locs ls  hM hS hl)  hw hM hS (lv_sub hl [0, 1, 2] rfl)
    · have hw := hw.2 cq
      refine lv_aload_n hx hb dX12_runs_78 rfl (lv_at hl 0 rfl) ?_
      refine lv_iload_n hx hb dX12_runs_79 rfl (lv_at hl 2 rfl) ?_
      refine lv_iload_n hx hb dX12_runs_80 rfl (lv_at hl 1 rfl) ?_
      refine m_cv (m_runV E hM hS cs_X12_297 ho.1 (by decide) rfl rfl (c_X12_strays ho hw) rfl rfl ⟨Nat.le_of_ble_eq_true rfl, Nat.le_of_ble_eq_true rfl⟩ rfl hl.1 rfl (Nat.le_of_ble_eq_true rfl) dX12_runs_81 ⟨Nat.le_of_ble_eq_true rfl, Nat.le_of_ble_eq_true rfl⟩) hS (fun u H locs hp hM hS => ?_)
      obtain ⟨I10, rfl, hw⟩ := hp
      refine lv_goto (tgt := 101) hx hb dX12_runs_84 (by decide) ?_
      exact s_X12_runs_101 E hr hlk ho (fun I v1 v2 H locs ls  hw hM hS hl => hw H locs ls  hM hS hl)  hw hM hS (lv_sub hl [0, 1, 2] rfl)
def w_X12_runs_55 (o : Nat) (post : mI → Prop) (I : mI) (v1 : Int32) : Prop := ∀ ZZ : (mI → Int32 → Prop), (∀ (I : mI) (v1 : Int32), ((100 ≤ v1 → post I) ∧ (¬ 100 ≤ v1 → (w_X12_runs_63 o post ZZ) I v1 0)) → ZZ I v1) → ZZ I v1
set_option maxRecDepth 100000 in
set_option maxHeartbeats 4000000 in
theorem s_X12_runs_55 {p : Program} {l : Launch} {e : Env} {s : State} {m : MethodId} {args : Array Value} {below : List Frame} {meth : Method} {c : Code} {D : va_G} {cA : Nat → ClassId} {Z : mZ} {bs : Ad} {n : Nat} {K : mK} {R : mR} {L : mL} (E : Ev p s m args c cX12_runs 3 RX12 D cA Z bs) (hr : meth.sig.returnType = none) (hlk : meth.locks = false) {o : Nat} (ho : isX12 K R o) {post : mI → Prop} {I : mI} {v1 : Int32} {H : Heap} {locs : List Loc} {ls : Array Slot} (hw : w_X12_runs_55 o post I v1) (hM : mm D cA bs (n, K, R, I, L) H) (hS : va_S (Ab bs) s.heap H locs) (hl : lv_has ls 3 [(0, .ref (ad bs o)), (1, .int v1)]) : W p l e ({ frames := 6, cells := 0, slots := 0, locals := 137 } : Room) s m args below meth c H locs 0 0 (MQ below (QV D cA bs (fun u => ∃ I', u = (n, K, R, I', L) ∧ post I')) args s 0 0 (Ab bs)) (F0 m 55 ls []) := by
  have hx := E.1.1
  have hb := E.1.2.1
  refine hw (fun I v1 => ∀ (H : Heap) (locs : List Loc) (ls : Array Slot), mm D cA bs (n, K, R, I, L) H → va_S (Ab bs) s.heap H locs → lv_has ls 3 [(0, .ref (ad bs o)), (1, .int v1)] → W p l e ({ frames := 6, cells := 0, slots := 0, locals := 137 } : Room) s m args below meth c H locs 0 0 (MQ below (QV D cA bs (fun u => ∃ I', u = (n, K, R, I', L) ∧ post I')) args s 0 0 (Ab bs)) (F0 m 55 ls [])) ?_ H locs ls hM hS hl
  clear hw hM hS hl
  intro I v1 hw H locs ls hM hS hl
  refine lv_iload_n hx hb dX12_runs_55 rfl (lv_at hl 1 rfl) ?_
  refine lv_bipush (v := 100) hx hb dX12_runs_56 (by decide) ?_
  refine lv_icmp_ge (tgt := 130) hx hb dX12_runs_58 (by decide) (fun cq => ?_) (fun cq => ?_)
  · have hw := hw.1 cq
    exact m_retv hx hb hr hlk hM hS ⟨_, rfl, hw⟩ dX12_runs_130
  · have hw := hw.2 cq
    refine lv_iconst (v := 0) hx hb dX12_runs_61 (by decide) ?_
    refine lv_istore_n (lv' := [(2, .int 0), (0, .ref (ad bs o)), (1, .int v1)]) hx hb dX12_runs_62 rfl hl (by decide) rfl (fun ls hl => ?_)
    exact s_X12_runs_63 E hr hlk ho (fun I v1 H locs ls  hw hM hS hl => hw H locs ls  hM hS hl)  hw hM hS (lv_sub hl [1, 2, 0] rfl)
def w_X12_runs (I : mI) (o : Nat) (post : mI → Prop) : Prop := ∀ I1, I1 = up2 I o 25 0 → (w_X12_runs_7 o post (w_X12_runs_55 o post)) I1 0
set_option maxRecDepth 100000 in
set_option maxHeartbeats 4000000 in
theorem c_X12_runs {l : Launch} {D : va_G} {cA : Nat → ClassId} {Z : mZ} {bs : Ad} {n : Nat} {K : mK} {R : mR} {I : mI} {L : mL} {o : Nat} {post : mI → Prop} (ho : isX12 K R o) (hw : w_X12_runs I o post) : Met l yX12_runs (.code yX12_runs cX12_runs 3 none :: gw) ({ frames := 6, cells := 0, slots := 0, locals := 137 } : Room) (PreM D cA Z bs (n, K, R, I, L) [.ref (ad bs o)]) (QV D cA bs (fun u => ∃ I', u = (n, K, R, I', L) ∧ post I')) 0 0 (Ab bs) := by
  refine m_met (by decide) (Nat.le_of_ble_eq_true rfl) (fun p e s m below meth c ls E hr hlk hM hS hl => ?_)
  have E : Ev p s m _ c cX12_runs 3 RX12 D cA Z bs := E
  have hl : lv_has ls 3 [(0, .ref (ad bs o))] := hl
  have hx := E.1.1
  have hb := E.1.2.1
  generalize hHe : s.heap = H at hM ⊢
  have hS : va_S (Ab bs) s.heap H [] := by rw [← hHe]; exact va_S.rf
  clear hHe
  refine lv_aload_n hx hb dX12_runs_0 rfl (lv_at hl 0 rfl) ?_
  refine lv_iconst (v := 0) hx hb dX12_runs_1 (by decide) ?_
  refine m_puti E hM hS fp_X12_262 ho.1 rfl rfl dX12_runs_2 (fun I1 H locs eI1 hM hS => ?_)
  have hw := hw I1 eI1
  refine lv_iconst (v := 0) hx hb dX12_runs_5 (by decide) ?_
  refine lv_istore_n (lv' := [(1, .int 0), (0, .ref (ad bs o))]) hx hb dX12_runs_6 rfl hl (by decide) rfl (fun ls hl => ?_)
  exact s_X12_runs_7 E hr hlk ho (fun I v1 H locs ls  hw hM hS hl => s_X12_runs_55 E hr hlk ho  hw hM hS hl)  hw hM hS (lv_sub hl [1, 0] rfl)
theorem dX12_goalsEnd_0 : decode cX12_goalsEnd 0 = .ok (.aload_n 0, 1) := by decide +kernel
theorem dX12_goalsEnd_1 : decode cX12_goalsEnd 1 = .ok (.getfield 44, 3) := by decide +kernel
theorem dX12_goalsEnd_4 : decode cX12_goalsEnd 4 = .ok (.bipush 100, 2) := by decide +kernel
theorem dX12_goalsEnd_6 : decode cX12_goalsEnd 6 = .ok (.iload_n 1, 1) := by decide +kernel
theorem dX12_goalsEnd_7 : decode cX12_goalsEnd 7 = .ok (.imul, 1) := by decide +kernel
theorem dX12_goalsEnd_8 : decode cX12_goalsEnd 8 = .ok (.bipush 99, 2) := by decide +kernel
theorem dX12_goalsEnd_10 : decode cX12_goalsEnd 10 = .ok (.iadd, 1) := by decide +kernel
theorem dX12_goalsEnd_11 : decode cX12_goalsEnd 11 = .ok (.iaload, 1) := by decide +kernel
theorem dX12_goalsEnd_12 : decode cX12_goalsEnd 12 = .ok (.ireturn, 1) := by decide +kernel
def w_X12_goalsEnd (I : mI) (o : Nat) (a1 : Int32) (post : Int32 → Prop) : Prop := vp_in ((100 * a1) + 99) 600 ∧ post (I (o + 12) ((100 * a1) + 99).toNatClampNeg)
set_option maxRecDepth 100000 in
set_option maxHeartbeats 4000000 in
theorem c_X12_goalsEnd {l : Launch} {D : va_G} {cA : Nat → ClassId} {Z : mZ} {bs : Ad} {n : Nat} {K : mK} {R : mR} {I : mI} {L : mL} {o : Nat} {a1 : Int32} {post : Int32 → Prop} (ho : isX12 K R o) (hw : w_X12_goalsEnd I o a1 post) : Met l yX12_goalsEnd (.code yX12_goalsEnd cX12_goalsEnd 2 (some .int) :: gw) ({ frames := 0, cells := 0, slots := 0, locals := 0 } : Room) (PreM D cA Z bs (n, K, R, I, L) [.ref (ad bs o), .int a1]) (QI D cA bs (fun r u => u = (n, K, R, I, L) ∧ post r)) 0 0 (Ab bs) := by
  refine m_met (by decide) (Nat.le_of_ble_eq_true rfl) (fun p e s m below meth c ls E hr hlk hM hS hl => ?_)
  have E : Ev p s m _ c cX12_goalsEnd 2 RX12 D cA Z bs := E
  have hl : lv_has ls 2 [(0, .ref (ad bs o)), (1, .int a1)] := hl
  have hx := E.1.1
  have hb := E.1.2.1
  generalize hHe : s.heap = H at hM ⊢
  have hS : va_S (Ab bs) s.heap H [] := by rw [← hHe]; exact va_S.rf
  clear hHe
  refine lv_aload_n hx hb dX12_goalsEnd_0 rfl (lv_at hl 0 rfl) ?_
  refine m_getr E hM fs_X12_44 ho.1 (isO_at ho 11 rfl).1 dX12_goalsEnd_1 ?_
  refine lv_bipush (v := 100) hx hb dX12_goalsEnd_4 (by decide) ?_
  refine lv_iload_n hx hb dX12_goalsEnd_6 rfl (lv_at hl 1 rfl) ?_
  refine lv_imul hx hb dX12_goalsEnd_7 ?_
  refine lv_bipush (v := 99) hx hb dX12_goalsEnd_8 (by decide) ?_
  refine lv_iadd hx hb dX12_goalsEnd_10 ?_
  obtain ⟨hv, hw⟩ := hw
  refine m_iald E hM (isO_at ho 11 rfl).2 hv dX12_goalsEnd_11 ?_
  exact m_reti hx hb hr hlk hM hS ⟨rfl, hw⟩ dX12_goalsEnd_12
theorem dX12_person_0 : decode cX12_person 0 = .ok (.aload_n 0, 1) := by decide +kernel
theorem dX12_person_1 : decode cX12_person 1 = .ok (.iload_n 1, 1) := by decide +kernel
theorem dX12_person_2 : decode cX12_person 2 = .ok (.invokevirtual 214, 3) := by decide +kernel
theorem dX12_person_5 : decode cX12_person 5 = .ok (.ifCond .eq 11, 3) := by decide +kernel
theorem dX12_person_8 : decode cX12_person 8 = .ok (.aload_n 0, 1) := by decide +kernel
theorem dX12_person_9 : decode cX12_person 9 = .ok (.iload_n 2, 1) := by decide +kernel
theorem dX12_person_10 : decode cX12_person 10 = .ok (.invokevirtual 303, 3) := by decide +kernel
theorem dX12_person_13 : decode cX12_person 13 = .ok (.ifCond .ne 6, 3) := by decide +kernel
theorem dX12_person_16 : decode cX12_person 16 = .ok (.bipush (-2), 2) := by decide +kernel
theorem dX12_person_18 : decode cX12_person 18 = .ok (.ireturn, 1) := by decide +kernel
theorem dX12_person_19 : decode cX12_person 19 = .ok (.iload_n 3, 1) := by decide +kernel
theorem dX12_person_20 : decode cX12_person 20 = .ok (.iconst 0, 1) := by decide +kernel
theorem dX12_person_21 : decode cX12_person 21 = .ok (.iconst 5, 1) := by decide +kernel
theorem dX12_person_22 : decode cX12_person 22 = .ok (.invokestatic 133, 3) := by decide +kernel
theorem dX12_person_25 : decode cX12_person 25 = .ok (.ifCond .eq 10, 3) := by decide +kernel
theorem dX12_person_28 : decode cX12_person 28 = .ok (.aload_n 0, 1) := by decide +kernel
theorem dX12_person_29 : decode cX12_person 29 = .ok (.iload_n 2, 1) := by decide +kernel
theorem dX12_person_30 : decode cX12_person 30 = .ok (.iload_n 3, 1) := by decide +kernel
theorem dX12_person_31 : decode cX12_person 31 = .ok (.invokevirtual 241, 3) := by decide +kernel
theorem dX12_person_34 : decode cX12_person 34 = .ok (.ireturn, 1) := by decide +kernel
theorem dX12_person_35 : decode cX12_person 35 = .ok (.iload_n 3, 1) := by decide +kernel
theorem dX12_person_36 : decode cX12_person 36 = .ok (.bipush 10, 2) := by decide +kernel
theorem dX12_person_38 : decode cX12_person 38 = .ok (.bipush 9, 2) := by decide +kernel
theorem dX12_person_40 : decode cX12_person 40 = .ok (.aload_n 0, 1) := by decide +kernel
theorem dX12_person_41 : decode cX12_person 41 = .ok (.iload_n 2, 1) := by decide +kernel
theorem dX12_person_42 : decode cX12_person 42 = .ok (.iconst 5, 1) := by decide +kernel
theorem dX12_person_43 : decode cX12_person 43 = .ok (.invokevirtual 241, 3) := by decide +kernel
theorem dX12_person_46 : decode cX12_person 46 = .ok (.iadd, 1) := by decide +kernel
theorem dX12_person_47 : decode cX12_person 47 = .ok (.invokestatic 133, 3) := by decide +kernel
theorem dX12_person_50 : decode cX12_person 50 = .ok (.ifCond .eq 16, 3) := by decide +kernel
theorem dX12_person_53 : decode cX12_person 53 = .ok (.aload_n 0, 1) := by decide +kernel
theorem dX12_person_54 : decode cX12_person 54 = .ok (.iload_n 2, 1) := by decide +kernel
theorem dX12_person_55 : decode cX12_person 55 = .ok (.bipush 6, 2) := by decide +kernel
theorem dX12_person_57 : decode cX12_person 57 = .ok (.iload_n 3, 1) := by decide +kernel
theorem dX12_person_58 : decode cX12_person 58 = .ok (.iadd, 1) := by decide +kernel
theorem dX12_person_59 : decode cX12_person 59 = .ok (.bipush 10, 2) := by decide +kernel
theorem dX12_person_61 : decode cX12_person 61 = .ok (.isub, 1) := by decide +kernel
theorem dX12_person_62 : decode cX12_person 62 = .ok (.invokevirtual 241, 3) := by decide +kernel
theorem dX12_person_65 : decode cX12_person 65 = .ok (.ireturn, 1) := by decide +kernel
theorem dX12_person_66 : decode cX12_person 66 = .ok (.iload_n 3, 1) := by decide +kernel
theorem dX12_person_67 : decode cX12_person 67 = .ok (.bipush 100, 2) := by decide +kernel
theorem dX12_person_69 : decode cX12_person 69 = .ok (.sipush 199, 3) := by decide +kernel
theorem dX12_person_72 : decode cX12_person 72 = .ok (.invokestatic 133, 3) := by decide +kernel
theorem dX12_person_75 : decode cX12_person 75 = .ok (.ifCond .eq 13, 3) := by decide +kernel
theorem dX12_person_78 : decode cX12_person 78 = .ok (.aload_n 0, 1) := by decide +kernel
theorem dX12_person_79 : decode cX12_person 79 = .ok (.iload_n 2, 1) := by decide +kernel
theorem dX12_person_80 : decode cX12_person 80 = .ok (.iload_n 3, 1) := by decide +kernel
theorem dX12_person_81 : decode cX12_person 81 = .ok (.bipush 100, 2) := by decide +kernel
theorem dX12_person_83 : decode cX12_person 83 = .ok (.isub, 1) := by decide +kernel
theorem dX12_person_84 : decode cX12_person 84 = .ok (.invokevirtual 268, 3) := by decide +kernel
theorem dX12_person_87 : decode cX12_person 87 = .ok (.ireturn, 1) := by decide +kernel
theorem dX12_person_88 : decode cX12_person 88 = .ok (.iload_n 3, 1) := by decide +kernel
theorem dX12_person_89 : decode cX12_person 89 = .ok (.bipush 6, 2) := by decide +kernel
theorem dX12_person_91 : decode cX12_person 91 = .ok (.if_icmp .eq 12, 3) := by decide +kernel
theorem dX12_person_94 : decode cX12_person 94 = .ok (.iload_n 3, 1) := by decide +kernel
theorem dX12_person_95 : decode cX12_person 95 = .ok (.bipush 7, 2) := by decide +kernel
theorem dX12_person_97 : decode cX12_person 97 = .ok (.if_icmp .eq 6, 3) := by decide +kernel
theorem dX12_person_100 : decode cX12_person 100 = .ok (.bipush (-2), 2) := by decide +kernel
theorem dX12_person_102 : decode cX12_person 102 = .ok (.ireturn, 1) := by decide +kernel
theorem dX12_person_103 : decode cX12_person 103 = .ok (.aload_n 0, 1) := by decide +kernel
theorem dX12_person_104 : decode cX12_person 104 = .ok (.invokevirtual 306, 3) := by decide +kernel
theorem dX12_person_107 : decode cX12_person 107 = .ok (.iload_n 3, 1) := by decide +kernel
theorem dX12_person_108 : decode cX12_person 108 = .ok (.bipush 6, 2) := by decide +kernel
theorem dX12_person_110 : decode cX12_person 110 = .ok (.if_icmp .ne 12, 3) := by decide +kernel
theorem dX12_person_113 : decode cX12_person 113 = .ok (.aload_n 0, 1) := by decide +kernel
theorem dX12_person_114 : decode cX12_person 114 = .ok (.getfield 53, 3) := by decide +kernel
theorem dX12_person_117 : decode cX12_person 117 = .ok (.iload_n 2, 1) := by decide +kernel
theorem dX12_person_118 : decode cX12_person 118 = .ok (.iaload, 1) := by decide +kernel
theorem dX12_person_119 : decode cX12_person 119 = .ok (.goto 8, 3) := by decide +kernel
theorem dX12_person_122 : decode cX12_person 122 = .ok (.aload_n 0, 1) := by decide +kernel
theorem dX12_person_123 : decode cX12_person 123 = .ok (.iload_n 2, 1) := by decide +kernel
theorem dX12_person_124 : decode cX12_person 124 = .ok (.invokevirtual 309, 3) := by decide +kernel
theorem dX12_person_127 : decode cX12_person 127 = .ok (.ireturn, 1) := by decide +kernel
def w_X12_person_103 (o : Nat) (a1 : Int32) (a2 : Int32) (a3 : Int32) (post : Int32 → mI → Prop) (I : mI) : Prop := w_X12_runs I o (fun I11 => (¬ a3 = 6 → w_X12_goalsEnd I11 o a2 (fun r12 => post r12 I11)) ∧ (a3 = 6 → vp_in a2 6 ∧ post (I11 (o + 15) a2.toNatClampNeg) I11))
set_option maxRecDepth 100000 in
set_option maxHeartbeats 4000000 in
theorem s_X12_person_103 {p : Program} {l : Launch} {e : Env} {s : State} {m : MethodId} {args : Array Value} {below : List Frame} {meth : Method} {c : Code} {D : va_G} {cA : Nat → ClassId} {Z : mZ} {bs : Ad} {n : Nat} {K : mK} {R : mR} {L : mL} (E : Ev p s m args c cX12_person 4 RX12 D cA Z bs) (hr : meth.sig.returnType = (some .int)) (hlk : meth.locks = false) {o : Nat} {a1 : Int32} {a2 : Int32} {a3 : Int32} (ho : isX12 K R o) {post : Int32 → mI → Prop} {I : mI} {H : Heap} {locs : List Loc} {ls : Array Slot} (hw : w_X12_person_103 o a1 a2 a3 post I) (hM : mm D cA bs (n, K, R, I, L) H) (hS : va_S (Ab bs) s.heap H locs) (hl : lv_has ls 4 [(0, .ref (ad bs o)), (2, .int a2), (3, .int a3)]) : W p l e ({ frames := 7, cells := 0, slots := 0, locals := 159 } : Room) s m args below meth c H locs 0 0 (MQ below (QI D cA bs (fun r u => ∃ I', u = (n, K, R, I', L) ∧ post r I')) args s 0 0 (Ab bs)) (F0 m 103 ls []) := by
  have hx := E.1.1
  have hb := E.1.2.1
  refine lv_aload_n hx hb dX12_person_103 rfl (lv_at hl 0 rfl) ?_
  refine m_cv (m_runV E hM hS cs_X12_306 ho.1 (by decide) rfl rfl (c_X12_runs ho hw) rfl rfl ⟨Nat.le_of_ble_eq_true rfl, Nat.le_of_ble_eq_true rfl⟩ rfl hl.1 rfl (Nat.le_of_ble_eq_true rfl) dX12_person_104 ⟨Nat.le_of_ble_eq_true rfl, Nat.le_of_ble_eq_true rfl⟩) hS (fun u H locs hp hM hS => ?_)
  obtain ⟨I11, rfl, hw⟩ := hp
  refine lv_iload_n hx hb dX12_person_107 rfl (lv_at hl 2 rfl) ?_
  refine lv_bipush (v := 6) hx hb dX12_person_108 (by decide) ?_
  refine lv_icmp_ne (tgt := 122) hx hb dX12_person_110 (by decide) (fun cq => ?_) (fun cq => ?_)
  · have hw := hw.1 cq
    refine lv_aload_n hx hb dX12_person_122 rfl (lv_at hl 0 rfl) ?_
    refine lv_iload_n hx hb dX12_person_123 rfl (lv_at hl 1 rfl) ?_
    refine m_ci (m_runV E hM hS cs_X12_309 ho.1 (by decide) rfl rfl (c_X12_goalsEnd ho hw) rfl rfl ⟨Nat.le_of_ble_eq_true rfl, Nat.le_of_ble_eq_true rfl⟩ rfl hl.1 rfl (Nat.le_of_ble_eq_true rfl) dX12_person_124 ⟨Nat.le_of_ble_eq_true rfl, Nat.le_of_ble_eq_true rfl⟩) hS (fun r12 u H locs hp hM hS => ?_)
    obtain ⟨rfl, hw⟩ := hp
    exact m_reti hx hb hr hlk hM hS ⟨_, rfl, hw⟩ dX12_person_127
  · have hw := hw.2 cq
    refine lv_aload_n hx hb dX12_person_113 rfl (lv_at hl 0 rfl) ?_
    refine m_getr E hM fs_X12_53 ho.1 (isO_at ho 14 rfl).1 dX12_person_114 ?_
    refine lv_iload_n hx hb dX12_person_117 rfl (lv_at hl 1 rfl) ?_
    obtain ⟨hv, hw⟩ := hw
    refine m_iald E hM (isO_at ho 14 rfl).2 hv dX12_person_118 ?_
    refine lv_goto (tgt := 127) hx hb dX12_person_119 (by decide) ?_
    exact m_reti hx hb hr hlk hM hS ⟨_, rfl, hw⟩ dX12_person_127
def w_X12_person (I : mI) (o : Nat) (a1 : Int32) (a2 : Int32) (a3 : Int32) (post : Int32 → mI → Prop) : Prop := w_X12_isHouse I o a1 (fun b1 I2 => (b1 = false → post (-2) I2) ∧ (b1 = true → w_X12_isPerson I2 o a2 (fun b3 => (b3 = true → w_X12_isIn a3 0 5 (fun b4 => (b4 = false → w_X12_told I2 o a2 5 (fun r5 => w_X12_isIn a3 10 (9 + r5) (fun b6 => (b6 = false → w_X12_isIn a3 100 199 (fun b7 => (b7 = false → (a3 = 6 → (w_X12_person_103 o a1 a2 a3 post) I2) ∧ (¬ a3 = 6 → (a3 = 7 → (w_X12_person_103 o a1 a2 a3 post) I2) ∧ (¬ a3 = 7 → post (-2) I2))) ∧ (b7 = true → w_X12_shoeOf I2 o a2 (a3 - 100) (fun r8 => post r8 I2)))) ∧ (b6 = true → w_X12_told I2 o a2 ((6 + a3) - 10) (fun r9 => post r9 I2))))) ∧ (b4 = true → w_X12_told I2 o a2 a3 (fun r10 => post r10 I2)))) ∧ (b3 = false → post (-2) I2))))
set_option maxRecDepth 100000 in
set_option maxHeartbeats 4000000 in
theorem c_X12_person {l : Launch} {D : va_G} {cA : Nat → ClassId} {Z : mZ} {bs : Ad} {n : Nat} {K : mK} {R : mR} {I : mI} {L : mL} {o : Nat} {a1 : Int32} {a2 : Int32} {a3 : Int32} {post : Int32 → mI → Prop} (ho : isX12 K R o) (hw : w_X12_person I o a1 a2 a3 post) : Met l yX12_person (.code yX12_person cX12_person 4 (some .int) :: gw) ({ frames := 7, cells := 0, slots := 0, locals := 159 } : Room) (PreM D cA Z bs (n, K, R, I, L) [.ref (ad bs o), .int a1, .int a2, .int a3]) (QI D cA bs (fun r u => ∃ I', u = (n, K, R, I', L) ∧ post r I')) 0 0 (Ab bs) := by
  refine m_met (by decide) (Nat.le_of_ble_eq_true rfl) (fun p e s m below meth c ls E hr hlk hM hS hl => ?_)
  have E : Ev p s m _ c cX12_person 4 RX12 D cA Z bs := E
  have hl : lv_has ls 4 [(0, .ref (ad bs o)), (1, .int a1), (2, .int a2), (3, .int a3)] := hl
  have hx := E.1.1
  have hb := E.1.2.1
  generalize hHe : s.heap = H at hM ⊢
  have hS : va_S (Ab bs) s.heap H [] := by rw [← hHe]; exact va_S.rf
  clear hHe
  refine lv_aload_n hx hb dX12_person_0 rfl (lv_at hl 0 rfl) ?_
  refine lv_iload_n hx hb dX12_person_1 rfl (lv_at hl 1 rfl) ?_
  refine m_ci (m_runV E hM hS cs_X12_214 ho.1 (by decide) rfl rfl (c_X12_isHouse ho hw) rfl rfl ⟨Nat.le_of_ble_eq_true rfl, Nat.le_of_ble_eq_true rfl⟩ rfl hl.1 rfl (Nat.le_of_ble_eq_true rfl) dX12_person_2 ⟨Nat.le_of_ble_eq_true rfl, Nat.le_of_ble_eq_true rfl⟩) hS (fun r9 u H locs hp hM hS => ?_)
  obtain ⟨b1, rfl, I2, rfl, hw⟩ := hp
  refine lv_if_eq (tgt := 16) hx hb dX12_person_5 (by decide) (fun cq => ?_) (fun cq => ?_)
  · have hw := hw.1 (bI_f cq)
    refine lv_bipush (v := (-2)) hx hb dX12_person_16 (by decide) ?_
    exact m_reti hx hb hr hlk hM hS ⟨_, rfl, hw⟩ dX12_person_18
  · have hw := hw.2 (bI_t cq)
    refine lv_aload_n hx hb dX12_person_8 rfl (lv_at hl 0 rfl) ?_
    refine lv_iload_n hx hb dX12_person_9 rfl (lv_at hl 2 rfl) ?_
    refine m_ci (m_runV E hM hS cs_X12_303 ho.1 (by decide) rfl rfl (c_X12_isPerson ho hw) rfl rfl ⟨Nat.le_of_ble_eq_true rfl, Nat.le_of_ble_eq_true rfl⟩ rfl hl.1 rfl (Nat.le_of_ble_eq_true rfl) dX12_person_10 ⟨Nat.le_of_ble_eq_true rfl, Nat.le_of_ble_eq_true rfl⟩) hS (fun r9 u H locs hp hM hS => ?_)
    obtain ⟨b3, rfl, rfl, hw⟩ := hp
    refine lv_if_ne (tgt := 19) hx hb dX12_person_13 (by decide) (fun cq => ?_) (fun cq => ?_)
    · have hw := hw.1 (bI_t cq)
      refine lv_iload_n hx hb dX12_person_19 rfl (lv_at hl 3 rfl) ?_
      refine lv_iconst (v := 0) hx hb dX12_person_20 (by decide) ?_
      refine lv_iconst (v := 5) hx hb dX12_person_21 (by decide) ?_
      refine m_ci (m_runS E hM hS cs_X12_133 (c_X12_isIn  hw) rfl rfl ⟨Nat.le_of_ble_eq_true rfl, Nat.le_of_ble_eq_true rfl⟩ rfl hl.1 rfl (Nat.le_of_ble_eq_true rfl) dX12_person_22 ⟨Nat.le_of_ble_eq_true rfl, Nat.le_of_ble_eq_true rfl⟩) hS (fun r9 u H locs hp hM hS => ?_)
      obtain ⟨b4, rfl, rfl, hw⟩ := hp
      refine lv_if_eq (tgt := 35) hx hb dX12_person_25 (by decide) (fun cq => ?_) (fun cq => ?_)
      · have hw := hw.1 (bI_f cq)
        refine lv_iload_n hx hb dX12_person_35 rfl (lv_at hl 3 rfl) ?_
        refine lv_bipush (v := 10) hx hb dX12_person_36 (by decide) ?_
        refine lv_bipush (v := 9) hx hb dX12_person_38 (by decide) ?_
        refine lv_aload_n hx hb dX12_person_40 rfl (lv_at hl 0 rfl) ?_
        refine lv_iload_n hx hb dX12_person_41 rfl (lv_at hl 2 rfl) ?_
        refine lv_iconst (v := 5) hx hb dX12_person_42 (by decide) ?_
        refine m_ci (m_runV E hM hS cs_X12_241 ho.1 (by decide) rfl rfl (c_X12_told ho hw) rfl rfl ⟨Nat.le_of_ble_eq_true rfl, Nat.le_of_ble_eq_true rfl⟩ rfl hl.1 rfl (Nat.le_of_ble_eq_true rfl) dX12_person_43 ⟨Nat.le_of_ble_eq_true rfl, Nat.le_of_ble_eq_true rfl⟩) hS (fun r5 u H locs hp hM hS => ?_)
        obtain ⟨rfl, hw⟩ := hp
        refine lv_iadd hx hb dX12_person_46 ?_
        refine m_ci (m_runS E hM hS cs_X12_133 (c_X12_isIn  hw) rfl rfl ⟨Nat.le_of_ble_eq_true rfl, Nat.le_of_ble_eq_true rfl⟩ rfl hl.1 rfl (Nat.le_of_ble_eq_true rfl) dX12_person_47 ⟨Nat.le_of_ble_eq_true rfl, Nat.le_of_ble_eq_true rfl⟩) hS (fun r9 u H locs hp hM hS => ?_)
        obtain ⟨b6, rfl, rfl, hw⟩ := hp
        refine lv_if_eq (tgt := 66) hx hb dX12_person_50 (by decide) (fun cq => ?_) (fun cq => ?_)
        · have hw := hw.1 (bI_f cq)
          refine lv_iload_n hx hb dX12_person_66 rfl (lv_at hl 3 rfl) ?_
          refine lv_bipush (v := 100) hx hb dX12_person_67 (by decide) ?_
          refine lv_sipush (v := 199) hx hb dX12_person_69 (by decide) ?_
          refine m_ci (m_runS E hM hS cs_X12_133 (c_X12_isIn  hw) rfl rfl ⟨Nat.le_of_ble_eq_true rfl, Nat.le_of_ble_eq_true rfl⟩ rfl hl.1 rfl (Nat.le_of_ble_eq_true rfl) dX12_person_72 ⟨Nat.le_of_ble_eq_true rfl, Nat.le_of_ble_eq_true rfl⟩) hS (fun r9 u H locs hp hM hS => ?_)
          obtain ⟨b7, rfl, rfl, hw⟩ := hp
          refine lv_if_eq (tgt := 88) hx hb dX12_person_75 (by decide) (fun cq => ?_) (fun cq => ?_)
          · have hw := hw.1 (bI_f cq)
            refine lv_iload_n hx hb dX12_person_88 rfl (lv_at hl 3 rfl) ?_
            refine lv_bipush (v := 6) hx hb dX12_person_89 (by decide) ?_
            refine lv_icmp_eq (tgt := 103) hx hb dX12_person_91 (by decide) (fun cq => ?_) (fun cq => ?_)
            · have hw := hw.1 cq
              exact s_X12_person_103 E hr hlk ho  hw hM hS (lv_sub hl [0, 2, 3] rfl)
            · have hw := hw.2 cq
              refine lv_iload_n hx hb dX12_person_94 rfl (lv_at hl 3 rfl) ?_
              refine lv_bipush (v := 7) hx hb dX12_person_95 (by decide) ?_
              refine lv_icmp_eq (tgt := 103) hx hb dX12_person_97 (by decide) (fun cq => ?_) (fun cq => ?_)
              · have hw := hw.1 cq
                exact s_X12_person_103 E hr hlk ho  hw hM hS (lv_sub hl [0, 2, 3] rfl)
              · have hw := hw.2 cq
                refine lv_bipush (v := (-2)) hx hb dX12_person_100 (by decide) ?_
                exact m_reti hx hb hr hlk hM hS ⟨_, rfl, hw⟩ dX12_person_102
          · have hw := hw.2 (bI_t cq)
            refine lv_aload_n hx hb dX12_person_78 rfl (lv_at hl 0 rfl) ?_
            refine lv_iload_n hx hb dX12_person_79 rfl (lv_at hl 2 rfl) ?_
            refine lv_iload_n hx hb dX12_person_80 rfl (lv_at hl 3 rfl) ?_
            refine lv_bipush (v := 100) hx hb dX12_person_81 (by decide) ?_
            refine lv_isub hx hb dX12_person_83 ?_
            refine m_ci (m_runV E hM hS cs_X12_268 ho.1 (by decide) rfl rfl (c_X12_shoeOf ho hw) rfl rfl ⟨Nat.le_of_ble_eq_true rfl, Nat.le_of_ble_eq_true rfl⟩ rfl hl.1 rfl (Nat.le_of_ble_eq_true rfl) dX12_person_84 ⟨Nat.le_of_ble_eq_true rfl, Nat.le_of_ble_eq_true rfl⟩) hS (fun r8 u H locs hp hM hS => ?_)
            obtain ⟨rfl, hw⟩ := hp
            exact m_reti hx hb hr hlk hM hS ⟨_, rfl, hw⟩ dX12_person_87
        · have hw := hw.2 (bI_t cq)
          refine lv_aload_n hx hb dX12_person_53 rfl (lv_at hl 0 rfl) ?_
          refine lv_iload_n hx hb dX12_person_54 rfl (lv_at hl 2 rfl) ?_
          refine lv_bipush (v := 6) hx hb dX12_person_55 (by decide) ?_
          refine lv_iload_n hx hb dX12_person_57 rfl (lv_at hl 3 rfl) ?_
          refine lv_iadd hx hb dX12_person_58 ?_
          refine lv_bipush (v := 10) hx hb dX12_person_59 (by decide) ?_
          refine lv_isub hx hb dX12_person_61 ?_
          refine m_ci (m_runV E hM hS cs_X12_241 ho.1 (by decide) rfl rfl (c_X12_told ho hw) rfl rfl ⟨Nat.le_of_ble_eq_true rfl, Nat.le_of_ble_eq_true rfl⟩ rfl hl.1 rfl (Nat.le_of_ble_eq_true rfl) dX12_person_62 ⟨Nat.le_of_ble_eq_true rfl, Nat.le_of_ble_eq_true rfl⟩) hS (fun r9 u H locs hp hM hS => ?_)
          obtain ⟨rfl, hw⟩ := hp
          exact m_reti hx hb hr hlk hM hS ⟨_, rfl, hw⟩ dX12_person_65
      · have hw := hw.2 (bI_t cq)
        refine lv_aload_n hx hb dX12_person_28 rfl (lv_at hl 0 rfl) ?_
        refine lv_iload_n hx hb dX12_person_29 rfl (lv_at hl 2 rfl) ?_
        refine lv_iload_n hx hb dX12_person_30 rfl (lv_at hl 3 rfl) ?_
        refine m_ci (m_runV E hM hS cs_X12_241 ho.1 (by decide) rfl rfl (c_X12_told ho hw) rfl rfl ⟨Nat.le_of_ble_eq_true rfl, Nat.le_of_ble_eq_true rfl⟩ rfl hl.1 rfl (Nat.le_of_ble_eq_true rfl) dX12_person_31 ⟨Nat.le_of_ble_eq_true rfl, Nat.le_of_ble_eq_true rfl⟩) hS (fun r10 u H locs hp hM hS => ?_)
        obtain ⟨rfl, hw⟩ := hp
        exact m_reti hx hb hr hlk hM hS ⟨_, rfl, hw⟩ dX12_person_34
    · have hw := hw.2 (bI_f cq)
      refine lv_bipush (v := (-2)) hx hb dX12_person_16 (by decide) ?_
      exact m_reti hx hb hr hlk hM hS ⟨_, rfl, hw⟩ dX12_person_18
theorem dX12_tread_0 : decode cX12_tread 0 = .ok (.aload_n 0, 1) := by decide +kernel
theorem dX12_tread_1 : decode cX12_tread 1 = .ok (.iload_n 1, 1) := by decide +kernel
theorem dX12_tread_2 : decode cX12_tread 2 = .ok (.invokevirtual 214, 3) := by decide +kernel
theorem dX12_tread_5 : decode cX12_tread 5 = .ok (.ifCond .ne 6, 3) := by decide +kernel
theorem dX12_tread_8 : decode cX12_tread 8 = .ok (.bipush (-2), 2) := by decide +kernel
theorem dX12_tread_10 : decode cX12_tread 10 = .ok (.ireturn, 1) := by decide +kernel
theorem dX12_tread_11 : decode cX12_tread 11 = .ok (.aload_n 0, 1) := by decide +kernel
theorem dX12_tread_12 : decode cX12_tread 12 = .ok (.invokevirtual 306, 3) := by decide +kernel
theorem dX12_tread_15 : decode cX12_tread 15 = .ok (.iload_n 2, 1) := by decide +kernel
theorem dX12_tread_16 : decode cX12_tread 16 = .ok (.iconst (-1), 1) := by decide +kernel
theorem dX12_tread_17 : decode cX12_tread 17 = .ok (.if_icmp .ne 17, 3) := by decide +kernel
theorem dX12_tread_20 : decode cX12_tread 20 = .ok (.iload_n 3, 1) := by decide +kernel
theorem dX12_tread_21 : decode cX12_tread 21 = .ok (.ifCond .ne 10, 3) := by decide +kernel
theorem dX12_tread_24 : decode cX12_tread 24 = .ok (.aload_n 0, 1) := by decide +kernel
theorem dX12_tread_25 : decode cX12_tread 25 = .ok (.getfield 262, 3) := by decide +kernel
theorem dX12_tread_28 : decode cX12_tread 28 = .ok (.goto 5, 3) := by decide +kernel
theorem dX12_tread_31 : decode cX12_tread 31 = .ok (.bipush (-2), 2) := by decide +kernel
theorem dX12_tread_33 : decode cX12_tread 33 = .ok (.ireturn, 1) := by decide +kernel
theorem dX12_tread_34 : decode cX12_tread 34 = .ok (.iload_n 2, 1) := by decide +kernel
theorem dX12_tread_35 : decode cX12_tread 35 = .ok (.iconst 0, 1) := by decide +kernel
theorem dX12_tread_36 : decode cX12_tread 36 = .ok (.aload_n 0, 1) := by decide +kernel
theorem dX12_tread_37 : decode cX12_tread 37 = .ok (.getfield 262, 3) := by decide +kernel
theorem dX12_tread_40 : decode cX12_tread 40 = .ok (.iconst 1, 1) := by decide +kernel
theorem dX12_tread_41 : decode cX12_tread 41 = .ok (.isub, 1) := by decide +kernel
theorem dX12_tread_42 : decode cX12_tread 42 = .ok (.invokestatic 133, 3) := by decide +kernel
theorem dX12_tread_45 : decode cX12_tread 45 = .ok (.ifCond .ne 6, 3) := by decide +kernel
theorem dX12_tread_48 : decode cX12_tread 48 = .ok (.bipush (-2), 2) := by decide +kernel
theorem dX12_tread_50 : decode cX12_tread 50 = .ok (.ireturn, 1) := by decide +kernel
theorem dX12_tread_51 : decode cX12_tread 51 = .ok (.iload_n 3, 1) := by decide +kernel
theorem dX12_tread_52 : decode cX12_tread 52 = .ok (.tableswitch 104 0 7 #[48, 55, 62, 69, 76, 83, 90, 97], 48) := by decide +kernel
theorem dX12_tread_100 : decode cX12_tread 100 = .ok (.aload_n 0, 1) := by decide +kernel
theorem dX12_tread_101 : decode cX12_tread 101 = .ok (.getfield 20, 3) := by decide +kernel
theorem dX12_tread_104 : decode cX12_tread 104 = .ok (.iload_n 2, 1) := by decide +kernel
theorem dX12_tread_105 : decode cX12_tread 105 = .ok (.iaload, 1) := by decide +kernel
theorem dX12_tread_106 : decode cX12_tread 106 = .ok (.ireturn, 1) := by decide +kernel
theorem dX12_tread_107 : decode cX12_tread 107 = .ok (.aload_n 0, 1) := by decide +kernel
theorem dX12_tread_108 : decode cX12_tread 108 = .ok (.getfield 23, 3) := by decide +kernel
theorem dX12_tread_111 : decode cX12_tread 111 = .ok (.iload_n 2, 1) := by decide +kernel
theorem dX12_tread_112 : decode cX12_tread 112 = .ok (.iaload, 1) := by decide +kernel
theorem dX12_tread_113 : decode cX12_tread 113 = .ok (.ireturn, 1) := by decide +kernel
theorem dX12_tread_114 : decode cX12_tread 114 = .ok (.aload_n 0, 1) := by decide +kernel
theorem dX12_tread_115 : decode cX12_tread 115 = .ok (.getfield 26, 3) := by decide +kernel
theorem dX12_tread_118 : decode cX12_tread 118 = .ok (.iload_n 2, 1) := by decide +kernel
theorem dX12_tread_119 : decode cX12_tread 119 = .ok (.iaload, 1) := by decide +kernel
theorem dX12_tread_120 : decode cX12_tread 120 = .ok (.ireturn, 1) := by decide +kernel
theorem dX12_tread_121 : decode cX12_tread 121 = .ok (.aload_n 0, 1) := by decide +kernel
theorem dX12_tread_122 : decode cX12_tread 122 = .ok (.getfield 29, 3) := by decide +kernel
theorem dX12_tread_125 : decode cX12_tread 125 = .ok (.iload_n 2, 1) := by decide +kernel
theorem dX12_tread_126 : decode cX12_tread 126 = .ok (.iaload, 1) := by decide +kernel
theorem dX12_tread_127 : decode cX12_tread 127 = .ok (.ireturn, 1) := by decide +kernel
theorem dX12_tread_128 : decode cX12_tread 128 = .ok (.aload_n 0, 1) := by decide +kernel
theorem dX12_tread_129 : decode cX12_tread 129 = .ok (.getfield 32, 3) := by decide +kernel
theorem dX12_tread_132 : decode cX12_tread 132 = .ok (.iload_n 2, 1) := by decide +kernel
theorem dX12_tread_133 : decode cX12_tread 133 = .ok (.iaload, 1) := by decide +kernel
theorem dX12_tread_134 : decode cX12_tread 134 = .ok (.ireturn, 1) := by decide +kernel
theorem dX12_tread_135 : decode cX12_tread 135 = .ok (.aload_n 0, 1) := by decide +kernel
theorem dX12_tread_136 : decode cX12_tread 136 = .ok (.getfield 35, 3) := by decide +kernel
theorem dX12_tread_139 : decode cX12_tread 139 = .ok (.iload_n 2, 1) := by decide +kernel
theorem dX12_tread_140 : decode cX12_tread 140 = .ok (.iaload, 1) := by decide +kernel
theorem dX12_tread_141 : decode cX12_tread 141 = .ok (.ireturn, 1) := by decide +kernel
theorem dX12_tread_142 : decode cX12_tread 142 = .ok (.aload_n 0, 1) := by decide +kernel
theorem dX12_tread_143 : decode cX12_tread 143 = .ok (.getfield 38, 3) := by decide +kernel
theorem dX12_tread_146 : decode cX12_tread 146 = .ok (.iload_n 2, 1) := by decide +kernel
theorem dX12_tread_147 : decode cX12_tread 147 = .ok (.iaload, 1) := by decide +kernel
theorem dX12_tread_148 : decode cX12_tread 148 = .ok (.ireturn, 1) := by decide +kernel
theorem dX12_tread_149 : decode cX12_tread 149 = .ok (.aload_n 0, 1) := by decide +kernel
theorem dX12_tread_150 : decode cX12_tread 150 = .ok (.getfield 41, 3) := by decide +kernel
theorem dX12_tread_153 : decode cX12_tread 153 = .ok (.iload_n 2, 1) := by decide +kernel
theorem dX12_tread_154 : decode cX12_tread 154 = .ok (.iaload, 1) := by decide +kernel
theorem dX12_tread_155 : decode cX12_tread 155 = .ok (.ireturn, 1) := by decide +kernel
theorem dX12_tread_156 : decode cX12_tread 156 = .ok (.bipush (-2), 2) := by decide +kernel
theorem dX12_tread_158 : decode cX12_tread 158 = .ok (.ireturn, 1) := by decide +kernel
def w_X12_tread (I : mI) (o : Nat) (a1 : Int32) (a2 : Int32) (a3 : Int32) (post : Int32 → mI → Prop) : Prop := w_X12_isHouse I o a1 (fun b1 I2 => (b1 = true → w_X12_runs I2 o (fun I3 => (¬ a2 = (-1) → w_X12_isIn a2 0 ((I3 o 25) - 1) (fun b4 => (b4 = true → (a3 = 0 → vp_in a2 640 ∧ post (I3 (o + 4) a2.toNatClampNeg) I3) ∧ (a3 = 1 → vp_in a2 640 ∧ post (I3 (o + 5) a2.toNatClampNeg) I3) ∧ (a3 = 2 → vp_in a2 640 ∧ post (I3 (o + 6) a2.toNatClampNeg) I3) ∧ (a3 = 3 → vp_in a2 640 ∧ post (I3 (o + 7) a2.toNatClampNeg) I3) ∧ (a3 = 4 → vp_in a2 640 ∧ post (I3 (o + 8) a2.toNatClampNeg) I3) ∧ (a3 = 5 → vp_in a2 640 ∧ post (I3 (o + 9) a2.toNatClampNeg) I3) ∧ (a3 = 6 → vp_in a2 640 ∧ post (I3 (o + 10) a2.toNatClampNeg) I3) ∧ (a3 = 7 → vp_in a2 640 ∧ post (I3 (o + 11) a2.toNatClampNeg) I3) ∧ (¬ a3 = 0 → ¬ a3 = 1 → ¬ a3 = 2 → ¬ a3 = 3 → ¬ a3 = 4 → ¬ a3 = 5 → ¬ a3 = 6 → ¬ a3 = 7 → post (-2) I3)) ∧ (b4 = false → post (-2) I3))) ∧ (a2 = (-1) → (¬ a3 = 0 → post (-2) I3) ∧ (a3 = 0 → post (I3 o 25) I3)))) ∧ (b1 = false → post (-2) I2))
set_option maxRecDepth 100000 in
set_option maxHeartbeats 4000000 in
theorem c_X12_tread {l : Launch} {D : va_G} {cA : Nat → ClassId} {Z : mZ} {bs : Ad} {n : Nat} {K : mK} {R : mR} {I : mI} {L : mL} {o : Nat} {a1 : Int32} {a2 : Int32} {a3 : Int32} {post : Int32 → mI → Prop} (ho : isX12 K R o) (hw : w_X12_tread I o a1 a2 a3 post) : Met l yX12_tread (.code yX12_tread cX12_tread 4 (some .int) :: gw) ({ frames := 7, cells := 0, slots := 0, locals := 159 } : Room) (PreM D cA Z bs (n, K, R, I, L) [.ref (ad bs o), .int a1, .int a2, .int a3]) (QI D cA bs (fun r u => ∃ I', u = (n, K, R, I', L) ∧ post r I')) 0 0 (Ab bs) := by
  refine m_met (by decide) (Nat.le_of_ble_eq_true rfl) (fun p e s m below meth c ls E hr hlk hM hS hl => ?_)
  have E : Ev p s m _ c cX12_tread 4 RX12 D cA Z bs := E
  have hl : lv_has ls 4 [(0, .ref (ad bs o)), (1, .int a1), (2, .int a2), (3, .int a3)] := hl
  have hx := E.1.1
  have hb := E.1.2.1
  generalize hHe : s.heap = H at hM ⊢
  have hS : va_S (Ab bs) s.heap H [] := by rw [← hHe]; exact va_S.rf
  clear hHe
  refine lv_aload_n hx hb dX12_tread_0 rfl (lv_at hl 0 rfl) ?_
  refine lv_iload_n hx hb dX12_tread_1 rfl (lv_at hl 1 rfl) ?_
  refine m_ci (m_runV E hM hS cs_X12_214 ho.1 (by decide) rfl rfl (c_X12_isHouse ho hw) rfl rfl ⟨Nat.le_of_ble_eq_true rfl, Nat.le_of_ble_eq_true rfl⟩ rfl hl.1 rfl (Nat.le_of_ble_eq_true rfl) dX12_tread_2 ⟨Nat.le_of_ble_eq_true rfl, Nat.le_of_ble_eq_true rfl⟩) hS (fun r9 u H locs hp hM hS => ?_)
  obtain ⟨b1, rfl, I2, rfl, hw⟩ := hp
  refine lv_if_ne (tgt := 11) hx hb dX12_tread_5 (by decide) (fun cq => ?_) (fun cq => ?_)
  · have hw := hw.1 (bI_t cq)
    refine lv_aload_n hx hb dX12_tread_11 rfl (lv_at hl 0 rfl) ?_
    refine m_cv (m_runV E hM hS cs_X12_306 ho.1 (by decide) rfl rfl (c_X12_runs ho hw) rfl rfl ⟨Nat.le_of_ble_eq_true rfl, Nat.le_of_ble_eq_true rfl⟩ rfl hl.1 rfl (Nat.le_of_ble_eq_true rfl) dX12_tread_12 ⟨Nat.le_of_ble_eq_true rfl, Nat.le_of_ble_eq_true rfl⟩) hS (fun u H locs hp hM hS => ?_)
    obtain ⟨I3, rfl, hw⟩ := hp
    refine lv_iload_n hx hb dX12_tread_15 rfl (lv_at hl 2 rfl) ?_
    refine lv_iconst (v := (-1)) hx hb dX12_tread_16 (by decide) ?_
    refine lv_icmp_ne (tgt := 34) hx hb dX12_tread_17 (by decide) (fun cq => ?_) (fun cq => ?_)
    · have hw := hw.1 cq
      refine lv_iload_n hx hb dX12_tread_34 rfl (lv_at hl 2 rfl) ?_
      refine lv_iconst (v := 0) hx hb dX12_tread_35 (by decide) ?_
      refine lv_aload_n hx hb dX12_tread_36 rfl (lv_at hl 0 rfl) ?_
      refine m_geti E hM fs_X12_262 ho.1 dX12_tread_37 ?_
      refine lv_iconst (v := 1) hx hb dX12_tread_40 (by decide) ?_
      refine lv_isub hx hb dX12_tread_41 ?_
      refine m_ci (m_runS E hM hS cs_X12_133 (c_X12_isIn  hw) rfl rfl ⟨Nat.le_of_ble_eq_true rfl, Nat.le_of_ble_eq_true rfl⟩ rfl hl.1 rfl (Nat.le_of_ble_eq_true rfl) dX12_tread_42 ⟨Nat.le_of_ble_eq_true rfl, Nat.le_of_ble_eq_true rfl⟩) hS (fun r9 u H locs hp hM hS => ?_)
      obtain ⟨b4, rfl, rfl, hw⟩ := hp
      refine lv_if_ne (tgt := 51) hx hb dX12_tread_45 (by decide) (fun cq => ?_) (fun cq => ?_)
      · have hw := hw.1 (bI_t cq)
        refine lv_iload_n hx hb dX12_tread_51 rfl (lv_at hl 3 rfl) ?_
        by_cases cq0 : a3 = 0
        · have hw := hw.1 cq0
          refine lv_tableIn (tgt := 100) hx hb dX12_tread_52 (by rw [cq0]; decide) (by rw [cq0]; decide) (by rw [cq0]; rfl) (by decide) ?_
          refine lv_aload_n hx hb dX12_tread_100 rfl (lv_at hl 0 rfl) ?_
          refine m_getr E hM fs_X12_20 ho.1 (isO_at ho 3 rfl).1 dX12_tread_101 ?_
          refine lv_iload_n hx hb dX12_tread_104 rfl (lv_at hl 2 rfl) ?_
          obtain ⟨hv, hw⟩ := hw
          refine m_iald E hM (isO_at ho 3 rfl).2 hv dX12_tread_105 ?_
          exact m_reti hx hb hr hlk hM hS ⟨_, rfl, hw⟩ dX12_tread_106
        by_cases cq1 : a3 = 1
        · have hw := hw.2.1 cq1
          refine lv_tableIn (tgt := 107) hx hb dX12_tread_52 (by rw [cq1]; decide) (by rw [cq1]; decide) (by rw [cq1]; rfl) (by decide) ?_
          refine lv_aload_n hx hb dX12_tread_107 rfl (lv_at hl 0 rfl) ?_
          refine m_getr E hM fs_X12_23 ho.1 (isO_at ho 4 rfl).1 dX12_tread_108 ?_
          refine lv_iload_n hx hb dX12_tread_111 rfl (lv_at hl 2 rfl) ?_
          obtain ⟨hv, hw⟩ := hw
          refine m_iald E hM (isO_at ho 4 rfl).2 hv dX12_tread_112 ?_
          exact m_reti hx hb hr hlk hM hS ⟨_, rfl, hw⟩ dX12_tread_113
        by_cases cq2 : a3 = 2
        · have hw := hw.2.2.1 cq2
          refine lv_tableIn (tgt := 114) hx hb dX12_tread_52 (by rw [cq2]; decide) (by rw [cq2]; decide) (by rw [cq2]; rfl) (by decide) ?_
          refine lv_aload_n hx hb dX12_tread_114 rfl (lv_at hl 0 rfl) ?_
          refine m_getr E hM fs_X12_26 ho.1 (isO_at ho 5 rfl).1 dX12_tread_115 ?_
          refine lv_iload_n hx hb dX12_tread_118 rfl (lv_at hl 2 rfl) ?_
          obtain ⟨hv, hw⟩ := hw
          refine m_iald E hM (isO_at ho 5 rfl).2 hv dX12_tread_119 ?_
          exact m_reti hx hb hr hlk hM hS ⟨_, rfl, hw⟩ dX12_tread_120
        by_cases cq3 : a3 = 3
        · have hw := hw.2.2.2.1 cq3
          refine lv_tableIn (tgt := 121) hx hb dX12_tread_52 (by rw [cq3]; decide) (by rw [cq3]; decide) (by rw [cq3]; rfl) (by decide) ?_
          refine lv_aload_n hx hb dX12_tread_121 rfl (lv_at hl 0 rfl) ?_
          refine m_getr E hM fs_X12_29 ho.1 (isO_at ho 6 rfl).1 dX12_tread_122 ?_
          refine lv_iload_n hx hb dX12_tread_125 rfl (lv_at hl 2 rfl) ?_
          obtain ⟨hv, hw⟩ := hw
          refine m_iald E hM (isO_at ho 6 rfl).2 hv dX12_tread_126 ?_
          exact m_reti hx hb hr hlk hM hS ⟨_, rfl, hw⟩ dX12_tread_127
        by_cases cq4 : a3 = 4
        · have hw := hw.2.2.2.2.1 cq4
          refine lv_tableIn (tgt := 128) hx hb dX12_tread_52 (by rw [cq4]; decide) (by rw [cq4]; decide) (by rw [cq4]; rfl) (by decide) ?_
          refine lv_aload_n hx hb dX12_tread_128 rfl (lv_at hl 0 rfl) ?_
          refine m_getr E hM fs_X12_32 ho.1 (isO_at ho 7 rfl).1 dX12_tread_129 ?_
          refine lv_iload_n hx hb dX12_tread_132 rfl (lv_at hl 2 rfl) ?_
          obtain ⟨hv, hw⟩ := hw
          refine m_iald E hM (isO_at ho 7 rfl).2 hv dX12_tread_133 ?_
          exact m_reti hx hb hr hlk hM hS ⟨_, rfl, hw⟩ dX12_tread_134
        by_cases cq5 : a3 = 5
        · have hw := hw.2.2.2.2.2.1 cq5
          refine lv_tableIn (tgt := 135) hx hb dX12_tread_52 (by rw [cq5]; decide) (by rw [cq5]; decide) (by rw [cq5]; rfl) (by decide) ?_
          refine lv_aload_n hx hb dX12_tread_135 rfl (lv_at hl 0 rfl) ?_
          refine m_getr E hM fs_X12_35 ho.1 (isO_at ho 8 rfl).1 dX12_tread_136 ?_
          refine lv_iload_n hx hb dX12_tread_139 rfl (lv_at hl 2 rfl) ?_
          obtain ⟨hv, hw⟩ := hw
          refine m_iald E hM (isO_at ho 8 rfl).2 hv dX12_tread_140 ?_
          exact m_reti hx hb hr hlk hM hS ⟨_, rfl, hw⟩ dX12_tread_141
        by_cases cq6 : a3 = 6
        · have hw := hw.2.2.2.2.2.2.1 cq6
          refine lv_tableIn (tgt := 142) hx hb dX12_tread_52 (by rw [cq6]; decide) (by rw [cq6]; decide) (by rw [cq6]; rfl) (by decide) ?_
          refine lv_aload_n hx hb dX12_tread_142 rfl (lv_at hl 0 rfl) ?_
          refine m_getr E hM fs_X12_38 ho.1 (isO_at ho 9 rfl).1 dX12_tread_143 ?_
          refine lv_iload_n hx hb dX12_tread_146 rfl (lv_at hl 2 rfl) ?_
          obtain ⟨hv, hw⟩ := hw
          refine m_iald E hM (isO_at ho 9 rfl).2 hv dX12_tread_147 ?_
          exact m_reti hx hb hr hlk hM hS ⟨_, rfl, hw⟩ dX12_tread_148
        by_cases cq7 : a3 = 7
        · have hw := hw.2.2.2.2.2.2.2.1 cq7
          refine lv_tableIn (tgt := 149) hx hb dX12_tread_52 (by rw [cq7]; decide) (by rw [cq7]; decide) (by rw [cq7]; rfl) (by decide) ?_
          refine lv_aload_n hx hb dX12_tread_149 rfl (lv_at hl 0 rfl) ?_
          refine m_getr E hM fs_X12_41 ho.1 (isO_at ho 10 rfl).1 dX12_tread_150 ?_
          refine lv_iload_n hx hb dX12_tread_153 rfl (lv_at hl 2 rfl) ?_
          obtain ⟨hv, hw⟩ := hw
          refine m_iald E hM (isO_at ho 10 rfl).2 hv dX12_tread_154 ?_
          exact m_reti hx hb hr hlk hM hS ⟨_, rfl, hw⟩ dX12_tread_155
        have hw := hw.2.2.2.2.2.2.2.2 cq0 cq1 cq2 cq3 cq4 cq5 cq6 cq7
        refine lv_tableOut (tgt := 156) hx hb dX12_tread_52 (by have hn0 := lv_neT cq0 (a := 0) (by decide); have hn1 := lv_neT cq1 (a := 1) (by decide); have hn2 := lv_neT cq2 (a := 2) (by decide); have hn3 := lv_neT cq3 (a := 3) (by decide); have hn4 := lv_neT cq4 (a := 4) (by decide); have hn5 := lv_neT cq5 (a := 5) (by decide); have hn6 := lv_neT cq6 (a := 6) (by decide); have hn7 := lv_neT cq7 (a := 7) (by decide); omega) (by decide) ?_
        refine lv_bipush (v := (-2)) hx hb dX12_tread_156 (by decide) ?_
        exact m_reti hx hb hr hlk hM hS ⟨_, rfl, hw⟩ dX12_tread_158
      · have hw := hw.2 (bI_f cq)
        refine lv_bipush (v := (-2)) hx hb dX12_tread_48 (by decide) ?_
        exact m_reti hx hb hr hlk hM hS ⟨_, rfl, hw⟩ dX12_tread_50
    · have hw := hw.2 cq
      refine lv_iload_n hx hb dX12_tread_20 rfl (lv_at hl 3 rfl) ?_
      refine lv_if_ne (tgt := 31) hx hb dX12_tread_21 (by decide) (fun cq => ?_) (fun cq => ?_)
      · have hw := hw.1 cq
        refine lv_bipush (v := (-2)) hx hb dX12_tread_31 (by decide) ?_
        exact m_reti hx hb hr hlk hM hS ⟨_, rfl, hw⟩ dX12_tread_33
      · have hw := hw.2 cq
        refine lv_aload_n hx hb dX12_tread_24 rfl (lv_at hl 0 rfl) ?_
        refine m_geti E hM fs_X12_262 ho.1 dX12_tread_25 ?_
        refine lv_goto (tgt := 33) hx hb dX12_tread_28 (by decide) ?_
        exact m_reti hx hb hr hlk hM hS ⟨_, rfl, hw⟩ dX12_tread_33
  · have hw := hw.2 (bI_f cq)
    refine lv_bipush (v := (-2)) hx hb dX12_tread_8 (by decide) ?_
    exact m_reti hx hb hr hlk hM hS ⟨_, rfl, hw⟩ dX12_tread_10
theorem dX12_where_0 : decode cX12_where 0 = .ok (.aload_n 0, 1) := by decide +kernel
theorem dX12_where_1 : decode cX12_where 1 = .ok (.iload_n 1, 1) := by decide +kernel
theorem dX12_where_2 : decode cX12_where 2 = .ok (.invokevirtual 214, 3) := by decide +kernel
theorem dX12_where_5 : decode cX12_where 5 = .ok (.ifCond .eq 19, 3) := by decide +kernel
theorem dX12_where_8 : decode cX12_where 8 = .ok (.aload_n 0, 1) := by decide +kernel
theorem dX12_where_9 : decode cX12_where 9 = .ok (.iload_n 2, 1) := by decide +kernel
theorem dX12_where_10 : decode cX12_where 10 = .ok (.invokevirtual 303, 3) := by decide +kernel
theorem dX12_where_13 : decode cX12_where 13 = .ok (.ifCond .eq 11, 3) := by decide +kernel
theorem dX12_where_16 : decode cX12_where 16 = .ok (.aload_n 0, 1) := by decide +kernel
theorem dX12_where_17 : decode cX12_where 17 = .ok (.iload_n 3, 1) := by decide +kernel
theorem dX12_where_18 : decode cX12_where 18 = .ok (.invokevirtual 312, 3) := by decide +kernel
theorem dX12_where_21 : decode cX12_where 21 = .ok (.ifCond .ne 6, 3) := by decide +kernel
theorem dX12_where_24 : decode cX12_where 24 = .ok (.bipush (-2), 2) := by decide +kernel
theorem dX12_where_26 : decode cX12_where 26 = .ok (.ireturn, 1) := by decide +kernel
theorem dX12_where_27 : decode cX12_where 27 = .ok (.aload_n 0, 1) := by decide +kernel
theorem dX12_where_28 : decode cX12_where 28 = .ok (.invokevirtual 306, 3) := by decide +kernel
theorem dX12_where_31 : decode cX12_where 31 = .ok (.aload_n 0, 1) := by decide +kernel
theorem dX12_where_32 : decode cX12_where 32 = .ok (.getfield 44, 3) := by decide +kernel
theorem dX12_where_35 : decode cX12_where 35 = .ok (.bipush 100, 2) := by decide +kernel
theorem dX12_where_37 : decode cX12_where 37 = .ok (.iload_n 2, 1) := by decide +kernel
theorem dX12_where_38 : decode cX12_where 38 = .ok (.imul, 1) := by decide +kernel
theorem dX12_where_39 : decode cX12_where 39 = .ok (.iload_n 3, 1) := by decide +kernel
theorem dX12_where_40 : decode cX12_where 40 = .ok (.iadd, 1) := by decide +kernel
theorem dX12_where_41 : decode cX12_where 41 = .ok (.iaload, 1) := by decide +kernel
theorem dX12_where_42 : decode cX12_where 42 = .ok (.ireturn, 1) := by decide +kernel
def w_X12_where (I : mI) (o : Nat) (a1 : Int32) (a2 : Int32) (a3 : Int32) (post : Int32 → mI → Prop) : Prop := w_X12_isHouse I o a1 (fun b1 I2 => (b1 = false → post (-2) I2) ∧ (b1 = true → w_X12_isPerson I2 o a2 (fun b3 => (b3 = false → post (-2) I2) ∧ (b3 = true → w_X12_isMinute o a3 (fun b4 => (b4 = true → w_X12_runs I2 o (fun I5 => vp_in ((100 * a2) + a3) 600 ∧ post (I5 (o + 12) ((100 * a2) + a3).toNatClampNeg) I5)) ∧ (b4 = false → post (-2) I2))))))
set_option maxRecDepth 100000 in
set_option maxHeartbeats 4000000 in
theorem c_X12_where {l : Launch} {D : va_G} {cA : Nat → ClassId} {Z : mZ} {bs : Ad} {n : Nat} {K : mK} {R : mR} {I : mI} {L : mL} {o : Nat} {a1 : Int32} {a2 : Int32} {a3 : Int32} {post : Int32 → mI → Prop} (ho : isX12 K R o) (hw : w_X12_where I o a1 a2 a3 post) : Met l yX12_where (.code yX12_where cX12_where 4 (some .int) :: gw) ({ frames := 7, cells := 0, slots := 0, locals := 159 } : Room) (PreM D cA Z bs (n, K, R, I, L) [.ref (ad bs o), .int a1, .int a2, .int a3]) (QI D cA bs (fun r u => ∃ I', u = (n, K, R, I', L) ∧ post r I')) 0 0 (Ab bs) := by
  refine m_met (by decide) (Nat.le_of_ble_eq_true rfl) (fun p e s m below meth c ls E hr hlk hM hS hl => ?_)
  have E : Ev p s m _ c cX12_where 4 RX12 D cA Z bs := E
  have hl : lv_has ls 4 [(0, .ref (ad bs o)), (1, .int a1), (2, .int a2), (3, .int a3)] := hl
  have hx := E.1.1
  have hb := E.1.2.1
  generalize hHe : s.heap = H at hM ⊢
  have hS : va_S (Ab bs) s.heap H [] := by rw [← hHe]; exact va_S.rf
  clear hHe
  refine lv_aload_n hx hb dX12_where_0 rfl (lv_at hl 0 rfl) ?_
  refine lv_iload_n hx hb dX12_where_1 rfl (lv_at hl 1 rfl) ?_
  refine m_ci (m_runV E hM hS cs_X12_214 ho.1 (by decide) rfl rfl (c_X12_isHouse ho hw) rfl rfl ⟨Nat.le_of_ble_eq_true rfl, Nat.le_of_ble_eq_true rfl⟩ rfl hl.1 rfl (Nat.le_of_ble_eq_true rfl) dX12_where_2 ⟨Nat.le_of_ble_eq_true rfl, Nat.le_of_ble_eq_true rfl⟩) hS (fun r9 u H locs hp hM hS => ?_)
  obtain ⟨b1, rfl, I2, rfl, hw⟩ := hp
  refine lv_if_eq (tgt := 24) hx hb dX12_where_5 (by decide) (fun cq => ?_) (fun cq => ?_)
  · have hw := hw.1 (bI_f cq)
    refine lv_bipush (v := (-2)) hx hb dX12_where_24 (by decide) ?_
    exact m_reti hx hb hr hlk hM hS ⟨_, rfl, hw⟩ dX12_where_26
  · have hw := hw.2 (bI_t cq)
    refine lv_aload_n hx hb dX12_where_8 rfl (lv_at hl 0 rfl) ?_
    refine lv_iload_n hx hb dX12_where_9 rfl (lv_at hl 2 rfl) ?_
    refine m_ci (m_runV E hM hS cs_X12_303 ho.1 (by decide) rfl rfl (c_X12_isPerson ho hw) rfl rfl ⟨Nat.le_of_ble_eq_true rfl, Nat.le_of_ble_eq_true rfl⟩ rfl hl.1 rfl (Nat.le_of_ble_eq_true rfl) dX12_where_10 ⟨Nat.le_of_ble_eq_true rfl, Nat.le_of_ble_eq_true rfl⟩) hS (fun r9 u H locs hp hM hS => ?_)
    obtain ⟨b3, rfl, rfl, hw⟩ := hp
    refine lv_if_eq (tgt := 24) hx hb dX12_where_13 (by decide) (fun cq => ?_) (fun cq => ?_)
    · have hw := hw.1 (bI_f cq)
      refine lv_bipush (v := (-2)) hx hb dX12_where_24 (by decide) ?_
      exact m_reti hx hb hr hlk hM hS ⟨_, rfl, hw⟩ dX12_where_26
    · have hw := hw.2 (bI_t cq)
      refine lv_aload_n hx hb dX12_where_16 rfl (lv_at hl 0 rfl) ?_
      refine lv_iload_n hx hb dX12_where_17 rfl (lv_at hl 3 rfl) ?_
      refine m_ci (m_runV E hM hS cs_X12_312 ho.1 (by decide) rfl rfl (c_X12_isMinute ho hw) rfl rfl ⟨Nat.le_of_ble_eq_true rfl, Nat.le_of_ble_eq_true rfl⟩ rfl hl.1 rfl (Nat.le_of_ble_eq_true rfl) dX12_where_18 ⟨Nat.le_of_ble_eq_true rfl, Nat.le_of_ble_eq_true rfl⟩) hS (fun r9 u H locs hp hM hS => ?_)
      obtain ⟨b4, rfl, rfl, hw⟩ := hp
      refine lv_if_ne (tgt := 27) hx hb dX12_where_21 (by decide) (fun cq => ?_) (fun cq => ?_)
      · have hw := hw.1 (bI_t cq)
        refine lv_aload_n hx hb dX12_where_27 rfl (lv_at hl 0 rfl) ?_
        refine m_cv (m_runV E hM hS cs_X12_306 ho.1 (by decide) rfl rfl (c_X12_runs ho hw) rfl rfl ⟨Nat.le_of_ble_eq_true rfl, Nat.le_of_ble_eq_true rfl⟩ rfl hl.1 rfl (Nat.le_of_ble_eq_true rfl) dX12_where_28 ⟨Nat.le_of_ble_eq_true rfl, Nat.le_of_ble_eq_true rfl⟩) hS (fun u H locs hp hM hS => ?_)
        obtain ⟨I5, rfl, hw⟩ := hp
        refine lv_aload_n hx hb dX12_where_31 rfl (lv_at hl 0 rfl) ?_
        refine m_getr E hM fs_X12_44 ho.1 (isO_at ho 11 rfl).1 dX12_where_32 ?_
        refine lv_bipush (v := 100) hx hb dX12_where_35 (by decide) ?_
        refine lv_iload_n hx hb dX12_where_37 rfl (lv_at hl 2 rfl) ?_
        refine lv_imul hx hb dX12_where_38 ?_
        refine lv_iload_n hx hb dX12_where_39 rfl (lv_at hl 3 rfl) ?_
        refine lv_iadd hx hb dX12_where_40 ?_
        obtain ⟨hv, hw⟩ := hw
        refine m_iald E hM (isO_at ho 11 rfl).2 hv dX12_where_41 ?_
        exact m_reti hx hb hr hlk hM hS ⟨_, rfl, hw⟩ dX12_where_42
      · have hw := hw.2 (bI_f cq)
        refine lv_bipush (v := (-2)) hx hb dX12_where_24 (by decide) ?_
        exact m_reti hx hb hr hlk hM hS ⟨_, rfl, hw⟩ dX12_where_26
theorem dX12_isNote_0 : decode cX12_isNote 0 = .ok (.aload_n 0, 1) := by decide +kernel
theorem dX12_isNote_1 : decode cX12_isNote 1 = .ok (.getfield 38, 3) := by decide +kernel
theorem dX12_isNote_4 : decode cX12_isNote 4 = .ok (.iload_n 2, 1) := by decide +kernel
theorem dX12_isNote_5 : decode cX12_isNote 5 = .ok (.iaload, 1) := by decide +kernel
theorem dX12_isNote_6 : decode cX12_isNote 6 = .ok (.aload_n 0, 1) := by decide +kernel
theorem dX12_isNote_7 : decode cX12_isNote 7 = .ok (.getfield 41, 3) := by decide +kernel
theorem dX12_isNote_10 : decode cX12_isNote 10 = .ok (.iload_n 2, 1) := by decide +kernel
theorem dX12_isNote_11 : decode cX12_isNote 11 = .ok (.iaload, 1) := by decide +kernel
theorem dX12_isNote_12 : decode cX12_isNote 12 = .ok (.ior, 1) := by decide +kernel
theorem dX12_isNote_13 : decode cX12_isNote 13 = .ok (.iload_n 1, 1) := by decide +kernel
theorem dX12_isNote_14 : decode cX12_isNote 14 = .ok (.ishr, 1) := by decide +kernel
theorem dX12_isNote_15 : decode cX12_isNote 15 = .ok (.iconst 1, 1) := by decide +kernel
theorem dX12_isNote_16 : decode cX12_isNote 16 = .ok (.iand, 1) := by decide +kernel
theorem dX12_isNote_17 : decode cX12_isNote 17 = .ok (.iconst 1, 1) := by decide +kernel
theorem dX12_isNote_18 : decode cX12_isNote 18 = .ok (.if_icmp .ne 7, 3) := by decide +kernel
theorem dX12_isNote_21 : decode cX12_isNote 21 = .ok (.iconst 1, 1) := by decide +kernel
theorem dX12_isNote_22 : decode cX12_isNote 22 = .ok (.goto 4, 3) := by decide +kernel
theorem dX12_isNote_25 : decode cX12_isNote 25 = .ok (.iconst 0, 1) := by decide +kernel
theorem dX12_isNote_26 : decode cX12_isNote 26 = .ok (.ireturn, 1) := by decide +kernel
def w_X12_isNote (I : mI) (o : Nat) (a1 : Int32) (a2 : Int32) (post : Bool → Prop) : Prop := vp_in a2 640 ∧ vp_in a2 640 ∧ (¬ ((((I (o + 10) a2.toNatClampNeg) ||| (I (o + 11) a2.toNatClampNeg)) >>> (a1 &&& 31)) &&& 1) = 1 → post false) ∧ (((((I (o + 10) a2.toNatClampNeg) ||| (I (o + 11) a2.toNatClampNeg)) >>> (a1 &&& 31)) &&& 1) = 1 → post true)
set_option maxRecDepth 100000 in
set_option maxHeartbeats 4000000 in
theorem c_X12_isNote {l : Launch} {D : va_G} {cA : Nat → ClassId} {Z : mZ} {bs : Ad} {n : Nat} {K : mK} {R : mR} {I : mI} {L : mL} {o : Nat} {a1 : Int32} {a2 : Int32} {post : Bool → Prop} (ho : isX12 K R o) (hw : w_X12_isNote I o a1 a2 post) : Met l yX12_isNote (.code yX12_isNote cX12_isNote 3 (some .boolean) :: gw) ({ frames := 0, cells := 0, slots := 0, locals := 0 } : Room) (PreM D cA Z bs (n, K, R, I, L) [.ref (ad bs o), .int a1, .int a2]) (QI D cA bs (fun r u => ∃ b, r = bI b ∧ u = (n, K, R, I, L) ∧ post b)) 0 0 (Ab bs) := by
  refine m_met (by decide) (Nat.le_of_ble_eq_true rfl) (fun p e s m below meth c ls E hr hlk hM hS hl => ?_)
  have E : Ev p s m _ c cX12_isNote 3 RX12 D cA Z bs := E
  have hl : lv_has ls 3 [(0, .ref (ad bs o)), (1, .int a1), (2, .int a2)] := hl
  have hx := E.1.1
  have hb := E.1.2.1
  generalize hHe : s.heap = H at hM ⊢
  have hS : va_S (Ab bs) s.heap H [] := by rw [← hHe]; exact va_S.rf
  clear hHe
  refine lv_aload_n hx hb dX12_isNote_0 rfl (lv_at hl 0 rfl) ?_
  refine m_getr E hM fs_X12_38 ho.1 (isO_at ho 9 rfl).1 dX12_isNote_1 ?_
  refine lv_iload_n hx hb dX12_isNote_4 rfl (lv_at hl 2 rfl) ?_
  obtain ⟨hv, hw⟩ := hw
  refine m_iald E hM (isO_at ho 9 rfl).2 hv dX12_isNote_5 ?_
  refine lv_aload_n hx hb dX12_isNote_6 rfl (lv_at hl 0 rfl) ?_
  refine m_getr E hM fs_X12_41 ho.1 (isO_at ho 10 rfl).1 dX12_isNote_7 ?_
  refine lv_iload_n hx hb dX12_isNote_10 rfl (lv_at hl 2 rfl) ?_
  obtain ⟨hv, hw⟩ := hw
  refine m_iald E hM (isO_at ho 10 rfl).2 hv dX12_isNote_11 ?_
  refine lv_ior hx hb dX12_isNote_12 ?_
  refine lv_iload_n hx hb dX12_isNote_13 rfl (lv_at hl 1 rfl) ?_
  refine lv_ishr hx hb dX12_isNote_14 ?_
  refine lv_iconst (v := 1) hx hb dX12_isNote_15 (by decide) ?_
  refine lv_iand hx hb dX12_isNote_16 ?_
  refine lv_iconst (v := 1) hx hb dX12_isNote_17 (by decide) ?_
  refine lv_icmp_ne (tgt := 25) hx hb dX12_isNote_18 (by decide) (fun cq => ?_) (fun cq => ?_)
  · have hw := hw.1 cq
    refine lv_iconst (v := 0) hx hb dX12_isNote_25 (by decide) ?_
    exact m_retz hx hb hr hlk (Or.inl rfl) hM hS ⟨false, rfl, rfl, hw⟩ dX12_isNote_26
  · have hw := hw.2 cq
    refine lv_iconst (v := 1) hx hb dX12_isNote_21 (by decide) ?_
    refine lv_goto (tgt := 26) hx hb dX12_isNote_22 (by decide) ?_
    exact m_retz hx hb hr hlk (Or.inr rfl) hM hS ⟨true, rfl, rfl, hw⟩ dX12_isNote_26
theorem dX12_isGhost_0 : decode cX12_isGhost 0 = .ok (.aload_n 0, 1) := by decide +kernel
theorem dX12_isGhost_1 : decode cX12_isGhost 1 = .ok (.getfield 41, 3) := by decide +kernel
theorem dX12_isGhost_4 : decode cX12_isGhost 4 = .ok (.iload_n 2, 1) := by decide +kernel
theorem dX12_isGhost_5 : decode cX12_isGhost 5 = .ok (.iaload, 1) := by decide +kernel
theorem dX12_isGhost_6 : decode cX12_isGhost 6 = .ok (.iload_n 1, 1) := by decide +kernel
theorem dX12_isGhost_7 : decode cX12_isGhost 7 = .ok (.ishr, 1) := by decide +kernel
theorem dX12_isGhost_8 : decode cX12_isGhost 8 = .ok (.iconst 1, 1) := by decide +kernel
theorem dX12_isGhost_9 : decode cX12_isGhost 9 = .ok (.iand, 1) := by decide +kernel
theorem dX12_isGhost_10 : decode cX12_isGhost 10 = .ok (.iconst 1, 1) := by decide +kernel
theorem dX12_isGhost_11 : decode cX12_isGhost 11 = .ok (.if_icmp .ne 32, 3) := by decide +kernel
theorem dX12_isGhost_14 : decode cX12_isGhost 14 = .ok (.aload_n 0, 1) := by decide +kernel
theorem dX12_isGhost_15 : decode cX12_isGhost 15 = .ok (.getfield 53, 3) := by decide +kernel
theorem dX12_isGhost_18 : decode cX12_isGhost 18 = .ok (.aload_n 0, 1) := by decide +kernel
theorem dX12_isGhost_19 : decode cX12_isGhost 19 = .ok (.getfield 20, 3) := by decide +kernel
theorem dX12_isGhost_22 : decode cX12_isGhost 22 = .ok (.aload_n 0, 1) := by decide +kernel
theorem dX12_isGhost_23 : decode cX12_isGhost 23 = .ok (.getfield 35, 3) := by decide +kernel
theorem dX12_isGhost_26 : decode cX12_isGhost 26 = .ok (.iload_n 2, 1) := by decide +kernel
theorem dX12_isGhost_27 : decode cX12_isGhost 27 = .ok (.iaload, 1) := by decide +kernel
theorem dX12_isGhost_28 : decode cX12_isGhost 28 = .ok (.iaload, 1) := by decide +kernel
theorem dX12_isGhost_29 : decode cX12_isGhost 29 = .ok (.iaload, 1) := by decide +kernel
theorem dX12_isGhost_30 : decode cX12_isGhost 30 = .ok (.aload_n 0, 1) := by decide +kernel
theorem dX12_isGhost_31 : decode cX12_isGhost 31 = .ok (.getfield 26, 3) := by decide +kernel
theorem dX12_isGhost_34 : decode cX12_isGhost 34 = .ok (.iload_n 2, 1) := by decide +kernel
theorem dX12_isGhost_35 : decode cX12_isGhost 35 = .ok (.iaload, 1) := by decide +kernel
theorem dX12_isGhost_36 : decode cX12_isGhost 36 = .ok (.if_icmp .ge 7, 3) := by decide +kernel
theorem dX12_isGhost_39 : decode cX12_isGhost 39 = .ok (.iconst 1, 1) := by decide +kernel
theorem dX12_isGhost_40 : decode cX12_isGhost 40 = .ok (.goto 4, 3) := by decide +kernel
theorem dX12_isGhost_43 : decode cX12_isGhost 43 = .ok (.iconst 0, 1) := by decide +kernel
theorem dX12_isGhost_44 : decode cX12_isGhost 44 = .ok (.ireturn, 1) := by decide +kernel
def w_X12_isGhost (I : mI) (o : Nat) (a1 : Int32) (a2 : Int32) (post : Bool → Prop) : Prop := vp_in a2 640 ∧ (¬ (((I (o + 11) a2.toNatClampNeg) >>> (a1 &&& 31)) &&& 1) = 1 → post false) ∧ ((((I (o + 11) a2.toNatClampNeg) >>> (a1 &&& 31)) &&& 1) = 1 → vp_in a2 640 ∧ vp_in (I (o + 9) a2.toNatClampNeg) 640 ∧ vp_in (I (o + 4) (I (o + 9) a2.toNatClampNeg).toNatClampNeg) 6 ∧ vp_in a2 640 ∧ ((I (o + 6) a2.toNatClampNeg) ≤ (I (o + 15) (I (o + 4) (I (o + 9) a2.toNatClampNeg).toNatClampNeg).toNatClampNeg) → post false) ∧ (¬ (I (o + 6) a2.toNatClampNeg) ≤ (I (o + 15) (I (o + 4) (I (o + 9) a2.toNatClampNeg).toNatClampNeg).toNatClampNeg) → post true))
set_option maxRecDepth 100000 in
set_option maxHeartbeats 4000000 in
theorem c_X12_isGhost {l : Launch} {D : va_G} {cA : Nat → ClassId} {Z : mZ} {bs : Ad} {n : Nat} {K : mK} {R : mR} {I : mI} {L : mL} {o : Nat} {a1 : Int32} {a2 : Int32} {post : Bool → Prop} (ho : isX12 K R o) (hw : w_X12_isGhost I o a1 a2 post) : Met l yX12_isGhost (.code yX12_isGhost cX12_isGhost 3 (some .boolean) :: gw) ({ frames := 0, cells := 0, slots := 0, locals := 0 } : Room) (PreM D cA Z bs (n, K, R, I, L) [.ref (ad bs o), .int a1, .int a2]) (QI D cA bs (fun r u => ∃ b, r = bI b ∧ u = (n, K, R, I, L) ∧ post b)) 0 0 (Ab bs) := by
  refine m_met (by decide) (Nat.le_of_ble_eq_true rfl) (fun p e s m below meth c ls E hr hlk hM hS hl => ?_)
  have E : Ev p s m _ c cX12_isGhost 3 RX12 D cA Z bs := E
  have hl : lv_has ls 3 [(0, .ref (ad bs o)), (1, .int a1), (2, .int a2)] := hl
  have hx := E.1.1
  have hb := E.1.2.1
  generalize hHe : s.heap = H at hM ⊢
  have hS : va_S (Ab bs) s.heap H [] := by rw [← hHe]; exact va_S.rf
  clear hHe
  refine lv_aload_n hx hb dX12_isGhost_0 rfl (lv_at hl 0 rfl) ?_
  refine m_getr E hM fs_X12_41 ho.1 (isO_at ho 10 rfl).1 dX12_isGhost_1 ?_
  refine lv_iload_n hx hb dX12_isGhost_4 rfl (lv_at hl 2 rfl) ?_
  obtain ⟨hv, hw⟩ := hw
  refine m_iald E hM (isO_at ho 10 rfl).2 hv dX12_isGhost_5 ?_
  refine lv_iload_n hx hb dX12_isGhost_6 rfl (lv_at hl 1 rfl) ?_
  refine lv_ishr hx hb dX12_isGhost_7 ?_
  refine lv_iconst (v := 1) hx hb dX12_isGhost_8 (by decide) ?_
  refine lv_iand hx hb dX12_isGhost_9 ?_
  refine lv_iconst (v := 1) hx hb dX12_isGhost_10 (by decide) ?_
  refine lv_icmp_ne (tgt := 43) hx hb dX12_isGhost_11 (by decide) (fun cq => ?_) (fun cq => ?_)
  · have hw := hw.1 cq
    refine lv_iconst (v := 0) hx hb dX12_isGhost_43 (by decide) ?_
    exact m_retz hx hb hr hlk (Or.inl rfl) hM hS ⟨false, rfl, rfl, hw⟩ dX12_isGhost_44
  · have hw := hw.2 cq
    refine lv_aload_n hx hb dX12_isGhost_14 rfl (lv_at hl 0 rfl) ?_
    refine m_getr E hM fs_X12_53 ho.1 (isO_at ho 14 rfl).1 dX12_isGhost_15 ?_
    refine lv_aload_n hx hb dX12_isGhost_18 rfl (lv_at hl 0 rfl) ?_
    refine m_getr E hM fs_X12_20 ho.1 (isO_at ho 3 rfl).1 dX12_isGhost_19 ?_
    refine lv_aload_n hx hb dX12_isGhost_22 rfl (lv_at hl 0 rfl) ?_
    refine m_getr E hM fs_X12_35 ho.1 (isO_at ho 8 rfl).1 dX12_isGhost_23 ?_
    refine lv_iload_n hx hb dX12_isGhost_26 rfl (lv_at hl 2 rfl) ?_
    obtain ⟨hv, hw⟩ := hw
    refine m_iald E hM (isO_at ho 8 rfl).2 hv dX12_isGhost_27 ?_
    obtain ⟨hv, hw⟩ := hw
    refine m_iald E hM (isO_at ho 3 rfl).2 hv dX12_isGhost_28 ?_
    obtain ⟨hv, hw⟩ := hw
    refine m_iald E hM (isO_at ho 14 rfl).2 hv dX12_isGhost_29 ?_
    refine lv_aload_n hx hb dX12_isGhost_30 rfl (lv_at hl 0 rfl) ?_
    refine m_getr E hM fs_X12_26 ho.1 (isO_at ho 5 rfl).1 dX12_isGhost_31 ?_
    refine lv_iload_n hx hb dX12_isGhost_34 rfl (lv_at hl 2 rfl) ?_
    obtain ⟨hv, hw⟩ := hw
    refine m_iald E hM (isO_at ho 5 rfl).2 hv dX12_isGhost_35 ?_
    refine lv_icmp_ge (tgt := 43) hx hb dX12_isGhost_36 (by decide) (fun cq => ?_) (fun cq => ?_)
    · have hw := hw.1 cq
      refine lv_iconst (v := 0) hx hb dX12_isGhost_43 (by decide) ?_
      exact m_retz hx hb hr hlk (Or.inl rfl) hM hS ⟨false, rfl, rfl, hw⟩ dX12_isGhost_44
    · have hw := hw.2 cq
      refine lv_iconst (v := 1) hx hb dX12_isGhost_39 (by decide) ?_
      refine lv_goto (tgt := 44) hx hb dX12_isGhost_40 (by decide) ?_
      exact m_retz hx hb hr hlk (Or.inr rfl) hM hS ⟨true, rfl, rfl, hw⟩ dX12_isGhost_44
theorem dX12_notesOf_0 : decode cX12_notesOf 0 = .ok (.iconst 0, 1) := by decide +kernel
theorem dX12_notesOf_1 : decode cX12_notesOf 1 = .ok (.istore_n 2, 1) := by decide +kernel
theorem dX12_notesOf_2 : decode cX12_notesOf 2 = .ok (.iconst 0, 1) := by decide +kernel
theorem dX12_notesOf_3 : decode cX12_notesOf 3 = .ok (.istore_n 3, 1) := by decide +kernel
theorem dX12_notesOf_4 : decode cX12_notesOf 4 = .ok (.iload_n 3, 1) := by decide +kernel
theorem dX12_notesOf_5 : decode cX12_notesOf 5 = .ok (.aload_n 0, 1) := by decide +kernel
theorem dX12_notesOf_6 : decode cX12_notesOf 6 = .ok (.getfield 262, 3) := by decide +kernel
theorem dX12_notesOf_9 : decode cX12_notesOf 9 = .ok (.if_icmp .ge 26, 3) := by decide +kernel
theorem dX12_notesOf_12 : decode cX12_notesOf 12 = .ok (.iload_n 2, 1) := by decide +kernel
theorem dX12_notesOf_13 : decode cX12_notesOf 13 = .ok (.aload_n 0, 1) := by decide +kernel
theorem dX12_notesOf_14 : decode cX12_notesOf 14 = .ok (.iload_n 1, 1) := by decide +kernel
theorem dX12_notesOf_15 : decode cX12_notesOf 15 = .ok (.iload_n 3, 1) := by decide +kernel
theorem dX12_notesOf_16 : decode cX12_notesOf 16 = .ok (.invokevirtual 315, 3) := by decide +kernel
theorem dX12_notesOf_19 : decode cX12_notesOf 19 = .ok (.ifCond .eq 7, 3) := by decide +kernel
theorem dX12_notesOf_22 : decode cX12_notesOf 22 = .ok (.iconst 1, 1) := by decide +kernel
theorem dX12_notesOf_23 : decode cX12_notesOf 23 = .ok (.goto 4, 3) := by decide +kernel
theorem dX12_notesOf_26 : decode cX12_notesOf 26 = .ok (.iconst 0, 1) := by decide +kernel
theorem dX12_notesOf_27 : decode cX12_notesOf 27 = .ok (.iadd, 1) := by decide +kernel
theorem dX12_notesOf_28 : decode cX12_notesOf 28 = .ok (.istore_n 2, 1) := by decide +kernel
theorem dX12_notesOf_29 : decode cX12_notesOf 29 = .ok (.iinc 3 1, 3) := by decide +kernel
theorem dX12_notesOf_32 : decode cX12_notesOf 32 = .ok (.goto (-28), 3) := by decide +kernel
theorem dX12_notesOf_35 : decode cX12_notesOf 35 = .ok (.iload_n 2, 1) := by decide +kernel
theorem dX12_notesOf_36 : decode cX12_notesOf 36 = .ok (.ireturn, 1) := by decide +kernel
def w_X12_notesOf_4 (I : mI) (o : Nat) (a1 : Int32) (post : Int32 → Prop) (v2 : Int32) (v3 : Int32) : Prop := ∀ ZZ : (Int32 → Int32 → Prop), (∀ (v2 : Int32) (v3 : Int32), (((I o 25) ≤ v3 → post v2) ∧ (¬ (I o 25) ≤ v3 → w_X12_isNote I o a1 v3 (fun b1 => (b1 = false → ∀ x2, x2 = (v2 + 0) → ∀ x3, x3 = v3 + 1 → ZZ x2 x3) ∧ (b1 = true → ∀ x4, x4 = (v2 + 1) → ∀ x5, x5 = v3 + 1 → ZZ x4 x5)))) → ZZ v2 v3) → ZZ v2 v3
set_option maxRecDepth 100000 in
set_option maxHeartbeats 4000000 in
theorem s_X12_notesOf_4 {p : Program} {l : Launch} {e : Env} {s : State} {m : MethodId} {args : Array Value} {below : List Frame} {meth : Method} {c : Code} {D : va_G} {cA : Nat → ClassId} {Z : mZ} {bs : Ad} {n : Nat} {K : mK} {R : mR} {I : mI} {L : mL} (E : Ev p s m args c cX12_notesOf 4 RX12 D cA Z bs) (hr : meth.sig.returnType = (some .int)) (hlk : meth.locks = false) {o : Nat} {a1 : Int32} (ho : isX12 K R o) {post : Int32 → Prop} {v2 : Int32} {v3 : Int32} {H : Heap} {locs : List Loc} {ls : Array Slot} (hw : w_X12_notesOf_4 I o a1 post v2 v3) (hM : mm D cA bs (n, K, R, I, L) H) (hS : va_S (Ab bs) s.heap H locs) (hl : lv_has ls 4 [(0, .ref (ad bs o)), (1, .int a1), (2, .int v2), (3, .int v3)]) : W p l e ({ frames := 1, cells := 0, slots := 0, locals := 22 } : Room) s m args below meth c H locs 0 0 (MQ below (QI D cA bs (fun r u => u = (n, K, R, I, L) ∧ post r)) args s 0 0 (Ab bs)) (F0 m 4 ls []) := by
  have hx := E.1.1
  have hb := E.1.2.1
  refine hw (fun v2 v3 => ∀ (H : Heap) (locs : List Loc) (ls : Array Slot), mm D cA bs (n, K, R, I, L) H → va_S (Ab bs) s.heap H locs → lv_has ls 4 [(0, .ref (ad bs o)), (1, .int a1), (2, .int v2), (3, .int v3)] → W p l e ({ frames := 1, cells := 0, slots := 0, locals := 22 } : Room) s m args below meth c H locs 0 0 (MQ below (QI D cA bs (fun r u => u = (n, K, R, I, L) ∧ post r)) args s 0 0 (Ab bs)) (F0 m 4 ls [])) ?_ H locs ls hM hS hl
  clear hw hM hS hl
  intro v2 v3 hw H locs ls hM hS hl
  refine lv_iload_n hx hb dX12_notesOf_4 rfl (lv_at hl 3 rfl) ?_
  refine lv_aload_n hx hb dX12_notesOf_5 rfl (lv_at hl 0 rfl) ?_
  refine m_geti E hM fs_X12_262 ho.1 dX12_notesOf_6 ?_
  refine lv_icmp_ge (tgt := 35) hx hb dX12_notesOf_9 (by decide) (fun cq => ?_) (fun cq => ?_)
  · have hw := hw.1 cq
    refine lv_iload_n hx hb dX12_notesOf_35 rfl (lv_at hl 2 rfl) ?_
    exact m_reti hx hb hr hlk hM hS ⟨rfl, hw⟩ dX12_notesOf_36
  · have hw := hw.2 cq
    refine lv_iload_n hx hb dX12_notesOf_12 rfl (lv_at hl 2 rfl) ?_
    refine lv_aload_n hx hb dX12_notesOf_13 rfl (lv_at hl 0 rfl) ?_
    refine lv_iload_n hx hb dX12_notesOf_14 rfl (lv_at hl 1 rfl) ?_
    refine lv_iload_n hx hb dX12_notesOf_15 rfl (lv_at hl 3 rfl) ?_
    refine m_ci (m_runV E hM hS cs_X12_315 ho.1 (by decide) rfl rfl (c_X12_isNote ho hw) rfl rfl ⟨Nat.le_of_ble_eq_true rfl, Nat.le_of_ble_eq_true rfl⟩ rfl hl.1 rfl (Nat.le_of_ble_eq_true rfl) dX12_notesOf_16 ⟨Nat.le_of_ble_eq_true rfl, Nat.le_of_ble_eq_true rfl⟩) hS (fun r9 u H locs hp hM hS => ?_)
    obtain ⟨b1, rfl, rfl, hw⟩ := hp
    refine lv_if_eq (tgt := 26) hx hb dX12_notesOf_19 (by decide) (fun cq => ?_) (fun cq => ?_)
    · have hw := hw.1 (bI_f cq)
      refine lv_iconst (v := 0) hx hb dX12_notesOf_26 (by decide) ?_
      refine lv_iadd hx hb dX12_notesOf_27 ?_
      refine lv_topi (fun x2 ex2 => ?_)
      have hw := hw x2 ex2
      refine lv_istore_n (lv' := [(2, .int x2), (0, .ref (ad bs o)), (1, .int a1), (3, .int v3)]) hx hb dX12_notesOf_28 rfl hl (by decide) rfl (fun ls hl => ?_)
      obtain ⟨x3, ex3⟩ : ∃ y : Int32, y = v3 + 1 := ⟨_, rfl⟩
      have hw := hw x3 ex3
      refine lv_iinc (v := x3) (lv' := [(3, .int x3), (2, .int x2), (0, .ref (ad bs o)), (1, .int a1)]) hx hb dX12_notesOf_29 hl (k := 3) rfl (by rw [ex3]; rfl) (by decide) rfl (fun ls hl => ?_)
      refine lv_goto (tgt := 4) hx hb dX12_notesOf_32 (by decide) ?_
      exact hw H locs ls  hM hS (lv_sub hl [2, 3, 1, 0] rfl)
    · have hw := hw.2 (bI_t cq)
      refine lv_iconst (v := 1) hx hb dX12_notesOf_22 (by decide) ?_
      refine lv_goto (tgt := 27) hx hb dX12_notesOf_23 (by decide) ?_
      refine lv_iadd hx hb dX12_notesOf_27 ?_
      refine lv_topi (fun x4 ex4 => ?_)
      have hw := hw x4 ex4
      refine lv_istore_n (lv' := [(2, .int x4), (0, .ref (ad bs o)), (1, .int a1), (3, .int v3)]) hx hb dX12_notesOf_28 rfl hl (by decide) rfl (fun ls hl => ?_)
      obtain ⟨x5, ex5⟩ : ∃ y : Int32, y = v3 + 1 := ⟨_, rfl⟩
      have hw := hw x5 ex5
      refine lv_iinc (v := x5) (lv' := [(3, .int x5), (2, .int x4), (0, .ref (ad bs o)), (1, .int a1)]) hx hb dX12_notesOf_29 hl (k := 3) rfl (by rw [ex5]; rfl) (by decide) rfl (fun ls hl => ?_)
      refine lv_goto (tgt := 4) hx hb dX12_notesOf_32 (by decide) ?_
      exact hw H locs ls  hM hS (lv_sub hl [2, 3, 1, 0] rfl)
def w_X12_notesOf (I : mI) (o : Nat) (a1 : Int32) (post : Int32 → Prop) : Prop := (w_X12_notesOf_4 I o a1 post) 0 0
set_option maxRecDepth 100000 in
set_option maxHeartbeats 4000000 in
theorem c_X12_notesOf {l : Launch} {D : va_G} {cA : Nat → ClassId} {Z : mZ} {bs : Ad} {n : Nat} {K : mK} {R : mR} {I : mI} {L : mL} {o : Nat} {a1 : Int32} {post : Int32 → Prop} (ho : isX12 K R o) (hw : w_X12_notesOf I o a1 post) : Met l yX12_notesOf (.code yX12_notesOf cX12_notesOf 4 (some .int) :: gw) ({ frames := 1, cells := 0, slots := 0, locals := 22 } : Room) (PreM D cA Z bs (n, K, R, I, L) [.ref (ad bs o), .int a1]) (QI D cA bs (fun r u => u = (n, K, R, I, L) ∧ post r)) 0 0 (Ab bs) := by
  refine m_met (by decide) (Nat.le_of_ble_eq_true rfl) (fun p e s m below meth c ls E hr hlk hM hS hl => ?_)
  have E : Ev p s m _ c cX12_notesOf 4 RX12 D cA Z bs := E
  have hl : lv_has ls 4 [(0, .ref (ad bs o)), (1, .int a1)] := hl
  have hx := E.1.1
  have hb := E.1.2.1
  generalize hHe : s.heap = H at hM ⊢
  have hS : va_S (Ab bs) s.heap H [] := by rw [← hHe]; exact va_S.rf
  clear hHe
  refine lv_iconst (v := 0) hx hb dX12_notesOf_0 (by decide) ?_
  refine lv_istore_n (lv' := [(2, .int 0), (0, .ref (ad bs o)), (1, .int a1)]) hx hb dX12_notesOf_1 rfl hl (by decide) rfl (fun ls hl => ?_)
  refine lv_iconst (v := 0) hx hb dX12_notesOf_2 (by decide) ?_
  refine lv_istore_n (lv' := [(3, .int 0), (2, .int 0), (0, .ref (ad bs o)), (1, .int a1)]) hx hb dX12_notesOf_3 rfl hl (by decide) rfl (fun ls hl => ?_)
  exact s_X12_notesOf_4 E hr hlk ho  hw hM hS (lv_sub hl [2, 3, 1, 0] rfl)
theorem dX12_allNotes_0 : decode cX12_allNotes 0 = .ok (.iconst 0, 1) := by decide +kernel
theorem dX12_allNotes_1 : decode cX12_allNotes 1 = .ok (.istore_n 1, 1) := by decide +kernel
theorem dX12_allNotes_2 : decode cX12_allNotes 2 = .ok (.iconst 0, 1) := by decide +kernel
theorem dX12_allNotes_3 : decode cX12_allNotes 3 = .ok (.istore_n 2, 1) := by decide +kernel
theorem dX12_allNotes_4 : decode cX12_allNotes 4 = .ok (.iload_n 2, 1) := by decide +kernel
theorem dX12_allNotes_5 : decode cX12_allNotes 5 = .ok (.aload_n 0, 1) := by decide +kernel
theorem dX12_allNotes_6 : decode cX12_allNotes 6 = .ok (.invokevirtual 211, 3) := by decide +kernel
theorem dX12_allNotes_9 : decode cX12_allNotes 9 = .ok (.if_icmp .ge 17, 3) := by decide +kernel
theorem dX12_allNotes_12 : decode cX12_allNotes 12 = .ok (.iload_n 1, 1) := by decide +kernel
theorem dX12_allNotes_13 : decode cX12_allNotes 13 = .ok (.aload_n 0, 1) := by decide +kernel
theorem dX12_allNotes_14 : decode cX12_allNotes 14 = .ok (.iload_n 2, 1) := by decide +kernel
theorem dX12_allNotes_15 : decode cX12_allNotes 15 = .ok (.invokevirtual 318, 3) := by decide +kernel
theorem dX12_allNotes_18 : decode cX12_allNotes 18 = .ok (.iadd, 1) := by decide +kernel
theorem dX12_allNotes_19 : decode cX12_allNotes 19 = .ok (.istore_n 1, 1) := by decide +kernel
theorem dX12_allNotes_20 : decode cX12_allNotes 20 = .ok (.iinc 2 1, 3) := by decide +kernel
theorem dX12_allNotes_23 : decode cX12_allNotes 23 = .ok (.goto (-19), 3) := by decide +kernel
theorem dX12_allNotes_26 : decode cX12_allNotes 26 = .ok (.iload_n 1, 1) := by decide +kernel
theorem dX12_allNotes_27 : decode cX12_allNotes 27 = .ok (.ireturn, 1) := by decide +kernel
def w_X12_allNotes_4 (I : mI) (o : Nat) (post : Int32 → Prop) (v1 : Int32) (v2 : Int32) : Prop := ∀ ZZ : (Int32 → Int32 → Prop), (∀ (v1 : Int32) (v2 : Int32), (w_X12_flats I o (fun r1 => (r1 ≤ v2 → post v1) ∧ (¬ r1 ≤ v2 → w_X12_notesOf I o v2 (fun r2 => ∀ x3, x3 = (v1 + r2) → ∀ x4, x4 = v2 + 1 → ZZ x3 x4)))) → ZZ v1 v2) → ZZ v1 v2
set_option maxRecDepth 100000 in
set_option maxHeartbeats 4000000 in
theorem s_X12_allNotes_4 {p : Program} {l : Launch} {e : Env} {s : State} {m : MethodId} {args : Array Value} {below : List Frame} {meth : Method} {c : Code} {D : va_G} {cA : Nat → ClassId} {Z : mZ} {bs : Ad} {n : Nat} {K : mK} {R : mR} {I : mI} {L : mL} (E : Ev p s m args c cX12_allNotes 3 RX12 D cA Z bs) (hr : meth.sig.returnType = (some .int)) (hlk : meth.locks = false) {o : Nat} (ho : isX12 K R o) {post : Int32 → Prop} {v1 : Int32} {v2 : Int32} {H : Heap} {locs : List Loc} {ls : Array Slot} (hw : w_X12_allNotes_4 I o post v1 v2) (hM : mm D cA bs (n, K, R, I, L) H) (hS : va_S (Ab bs) s.heap H locs) (hl : lv_has ls 3 [(0, .ref (ad bs o)), (1, .int v1), (2, .int v2)]) : W p l e ({ frames := 2, cells := 0, slots := 0, locals := 45 } : Room) s m args below meth c H locs 0 0 (MQ below (QI D cA bs (fun r u => u = (n, K, R, I, L) ∧ post r)) args s 0 0 (Ab bs)) (F0 m 4 ls []) := by
  have hx := E.1.1
  have hb := E.1.2.1
  refine hw (fun v1 v2 => ∀ (H : Heap) (locs : List Loc) (ls : Array Slot), mm D cA bs (n, K, R, I, L) H → va_S (Ab bs) s.heap H locs → lv_has ls 3 [(0, .ref (ad bs o)), (1, .int v1), (2, .int v2)] → W p l e ({ frames := 2, cells := 0, slots := 0, locals := 45 } : Room) s m args below meth c H locs 0 0 (MQ below (QI D cA bs (fun r u => u = (n, K, R, I, L) ∧ post r)) args s 0 0 (Ab bs)) (F0 m 4 ls [])) ?_ H locs ls hM hS hl
  clear hw hM hS hl
  intro v1 v2 hw H locs ls hM hS hl
  refine lv_iload_n hx hb dX12_allNotes_4 rfl (lv_at hl 2 rfl) ?_
  refine lv_aload_n hx hb dX12_allNotes_5 rfl (lv_at hl 0 rfl) ?_
  refine m_ci (m_runV E hM hS cs_X12_211 ho.1 (by decide) rfl rfl (c_X12_flats ho hw) rfl rfl ⟨Nat.le_of_ble_eq_true rfl, Nat.le_of_ble_eq_true rfl⟩ rfl hl.1 rfl (Nat.le_of_ble_eq_true rfl) dX12_allNotes_6 ⟨Nat.le_of_ble_eq_true rfl, Nat.le_of_ble_eq_true rfl⟩) hS (fun r1 u H locs hp hM hS => ?_)
  obtain ⟨rfl, hw⟩ := hp
  refine lv_icmp_ge (tgt := 26) hx hb dX12_allNotes_9 (by decide) (fun cq => ?_) (fun cq => ?_)
  · have hw := hw.1 cq
    refine lv_iload_n hx hb dX12_allNotes_26 rfl (lv_at hl 1 rfl) ?_
    exact m_reti hx hb hr hlk hM hS ⟨rfl, hw⟩ dX12_allNotes_27
  · have hw := hw.2 cq
    refine lv_iload_n hx hb dX12_allNotes_12 rfl (lv_at hl 1 rfl) ?_
    refine lv_aload_n hx hb dX12_allNotes_13 rfl (lv_at hl 0 rfl) ?_
    refine lv_iload_n hx hb dX12_allNotes_14 rfl (lv_at hl 2 rfl) ?_
    refine m_ci (m_runV E hM hS cs_X12_318 ho.1 (by decide) rfl rfl (c_X12_notesOf ho hw) rfl rfl ⟨Nat.le_of_ble_eq_true rfl, Nat.le_of_ble_eq_true rfl⟩ rfl hl.1 rfl (Nat.le_of_ble_eq_true rfl) dX12_allNotes_15 ⟨Nat.le_of_ble_eq_true rfl, Nat.le_of_ble_eq_true rfl⟩) hS (fun r2 u H locs hp hM hS => ?_)
    obtain ⟨rfl, hw⟩ := hp
    refine lv_iadd hx hb dX12_allNotes_18 ?_
    refine lv_topi (fun x3 ex3 => ?_)
    have hw := hw x3 ex3
    refine lv_istore_n (lv' := [(1, .int x3), (0, .ref (ad bs o)), (2, .int v2)]) hx hb dX12_allNotes_19 rfl hl (by decide) rfl (fun ls hl => ?_)
    obtain ⟨x4, ex4⟩ : ∃ y : Int32, y = v2 + 1 := ⟨_, rfl⟩
    have hw := hw x4 ex4
    refine lv_iinc (v := x4) (lv' := [(2, .int x4), (1, .int x3), (0, .ref (ad bs o))]) hx hb dX12_allNotes_20 hl (k := 2) rfl (by rw [ex4]; rfl) (by decide) rfl (fun ls hl => ?_)
    refine lv_goto (tgt := 4) hx hb dX12_allNotes_23 (by decide) ?_
    exact hw H locs ls  hM hS (lv_sub hl [2, 1, 0] rfl)
def w_X12_allNotes (I : mI) (o : Nat) (post : Int32 → Prop) : Prop := (w_X12_allNotes_4 I o post) 0 0
set_option maxRecDepth 100000 in
set_option maxHeartbeats 4000000 in
theorem c_X12_allNotes {l : Launch} {D : va_G} {cA : Nat → ClassId} {Z : mZ} {bs : Ad} {n : Nat} {K : mK} {R : mR} {I : mI} {L : mL} {o : Nat} {post : Int32 → Prop} (ho : isX12 K R o) (hw : w_X12_allNotes I o post) : Met l yX12_allNotes (.code yX12_allNotes cX12_allNotes 3 (some .int) :: gw) ({ frames := 2, cells := 0, slots := 0, locals := 45 } : Room) (PreM D cA Z bs (n, K, R, I, L) [.ref (ad bs o)]) (QI D cA bs (fun r u => u = (n, K, R, I, L) ∧ post r)) 0 0 (Ab bs) := by
  refine m_met (by decide) (Nat.le_of_ble_eq_true rfl) (fun p e s m below meth c ls E hr hlk hM hS hl => ?_)
  have E : Ev p s m _ c cX12_allNotes 3 RX12 D cA Z bs := E
  have hl : lv_has ls 3 [(0, .ref (ad bs o))] := hl
  have hx := E.1.1
  have hb := E.1.2.1
  generalize hHe : s.heap = H at hM ⊢
  have hS : va_S (Ab bs) s.heap H [] := by rw [← hHe]; exact va_S.rf
  clear hHe
  refine lv_iconst (v := 0) hx hb dX12_allNotes_0 (by decide) ?_
  refine lv_istore_n (lv' := [(1, .int 0), (0, .ref (ad bs o))]) hx hb dX12_allNotes_1 rfl hl (by decide) rfl (fun ls hl => ?_)
  refine lv_iconst (v := 0) hx hb dX12_allNotes_2 (by decide) ?_
  refine lv_istore_n (lv' := [(2, .int 0), (1, .int 0), (0, .ref (ad bs o))]) hx hb dX12_allNotes_3 rfl hl (by decide) rfl (fun ls hl => ?_)
  exact s_X12_allNotes_4 E hr hlk ho  hw hM hS (lv_sub hl [2, 1, 0] rfl)
theorem dX12_ghostsOf_0 : decode cX12_ghostsOf 0 = .ok (.iconst 0, 1) := by decide +kernel
theorem dX12_ghostsOf_1 : decode cX12_ghostsOf 1 = .ok (.istore_n 2, 1) := by decide +kernel
theorem dX12_ghostsOf_2 : decode cX12_ghostsOf 2 = .ok (.iconst 0, 1) := by decide +kernel
theorem dX12_ghostsOf_3 : decode cX12_ghostsOf 3 = .ok (.istore_n 3, 1) := by decide +kernel
theorem dX12_ghostsOf_4 : decode cX12_ghostsOf 4 = .ok (.iload_n 3, 1) := by decide +kernel
theorem dX12_ghostsOf_5 : decode cX12_ghostsOf 5 = .ok (.aload_n 0, 1) := by decide +kernel
theorem dX12_ghostsOf_6 : decode cX12_ghostsOf 6 = .ok (.getfield 262, 3) := by decide +kernel
theorem dX12_ghostsOf_9 : decode cX12_ghostsOf 9 = .ok (.if_icmp .ge 26, 3) := by decide +kernel
theorem dX12_ghostsOf_12 : decode cX12_ghostsOf 12 = .ok (.iload_n 2, 1) := by decide +kernel
theorem dX12_ghostsOf_13 : decode cX12_ghostsOf 13 = .ok (.aload_n 0, 1) := by decide +kernel
theorem dX12_ghostsOf_14 : decode cX12_ghostsOf 14 = .ok (.iload_n 1, 1) := by decide +kernel
theorem dX12_ghostsOf_15 : decode cX12_ghostsOf 15 = .ok (.iload_n 3, 1) := by decide +kernel
theorem dX12_ghostsOf_16 : decode cX12_ghostsOf 16 = .ok (.invokevirtual 321, 3) := by decide +kernel
theorem dX12_ghostsOf_19 : decode cX12_ghostsOf 19 = .ok (.ifCond .eq 7, 3) := by decide +kernel
theorem dX12_ghostsOf_22 : decode cX12_ghostsOf 22 = .ok (.iconst 1, 1) := by decide +kernel
theorem dX12_ghostsOf_23 : decode cX12_ghostsOf 23 = .ok (.goto 4, 3) := by decide +kernel
theorem dX12_ghostsOf_26 : decode cX12_ghostsOf 26 = .ok (.iconst 0, 1) := by decide +kernel
theorem dX12_ghostsOf_27 : decode cX12_ghostsOf 27 = .ok (.iadd, 1) := by decide +kernel
theorem dX12_ghostsOf_28 : decode cX12_ghostsOf 28 = .ok (.istore_n 2, 1) := by decide +kernel
theorem dX12_ghostsOf_29 : decode cX12_ghostsOf 29 = .ok (.iinc 3 1, 3) := by decide +kernel
theorem dX12_ghostsOf_32 : decode cX12_ghostsOf 32 = .ok (.goto (-28), 3) := by decide +kernel
theorem dX12_ghostsOf_35 : decode cX12_ghostsOf 35 = .ok (.iload_n 2, 1) := by decide +kernel
theorem dX12_ghostsOf_36 : decode cX12_ghostsOf 36 = .ok (.ireturn, 1) := by decide +kernel
def w_X12_ghostsOf_4 (I : mI) (o : Nat) (a1 : Int32) (post : Int32 → Prop) (v2 : Int32) (v3 : Int32) : Prop := ∀ ZZ : (Int32 → Int32 → Prop), (∀ (v2 : Int32) (v3 : Int32), (((I o 25) ≤ v3 → post v2) ∧ (¬ (I o 25) ≤ v3 → w_X12_isGhost I o a1 v3 (fun b1 => (b1 = false → ∀ x2, x2 = (v2 + 0) → ∀ x3, x3 = v3 + 1 → ZZ x2 x3) ∧ (b1 = true → ∀ x4, x4 = (v2 + 1) → ∀ x5, x5 = v3 + 1 → ZZ x4 x5)))) → ZZ v2 v3) → ZZ v2 v3
set_option maxRecDepth 100000 in
set_option maxHeartbeats 4000000 in
theorem s_X12_ghostsOf_4 {p : Program} {l : Launch} {e : Env} {s : State} {m : MethodId} {args : Array Value} {below : List Frame} {meth : Method} {c : Code} {D : va_G} {cA : Nat → ClassId} {Z : mZ} {bs : Ad} {n : Nat} {K : mK} {R : mR} {I : mI} {L : mL} (E : Ev p s m args c cX12_ghostsOf 4 RX12 D cA Z bs) (hr : meth.sig.returnType = (some .int)) (hlk : meth.locks = false) {o : Nat} {a1 : Int32} (ho : isX12 K R o) {post : Int32 → Prop} {v2 : Int32} {v3 : Int32} {H : Heap} {locs : List Loc} {ls : Array Slot} (hw : w_X12_ghostsOf_4 I o a1 post v2 v3) (hM : mm D cA bs (n, K, R, I, L) H) (hS : va_S (Ab bs) s.heap H locs) (hl : lv_has ls 4 [(0, .ref (ad bs o)), (1, .int a1), (2, .int v2), (3, .int v3)]) : W p l e ({ frames := 1, cells := 0, slots := 0, locals := 22 } : Room) s m args below meth c H locs 0 0 (MQ below (QI D cA bs (fun r u => u = (n, K, R, I, L) ∧ post r)) args s 0 0 (Ab bs)) (F0 m 4 ls []) := by
  have hx := E.1.1
  have hb := E.1.2.1
  refine hw (fun v2 v3 => ∀ (H : Heap) (locs : List Loc) (ls : Array Slot), mm D cA bs (n, K, R, I, L) H → va_S (Ab bs) s.heap H locs → lv_has ls 4 [(0, .ref (ad bs o)), (1, .int a1), (2, .int v2), (3, .int v3)] → W p l e ({ frames := 1, cells := 0, slots := 0, locals := 22 } : Room) s m args below meth c H locs 0 0 (MQ below (QI D cA bs (fun r u => u = (n, K, R, I, L) ∧ post r)) args s 0 0 (Ab bs)) (F0 m 4 ls [])) ?_ H locs ls hM hS hl
  clear hw hM hS hl
  intro v2 v3 hw H locs ls hM hS hl
  refine lv_iload_n hx hb dX12_ghostsOf_4 rfl (lv_at hl 3 rfl) ?_
  refine lv_aload_n hx hb dX12_ghostsOf_5 rfl (lv_at hl 0 rfl) ?_
  refine m_geti E hM fs_X12_262 ho.1 dX12_ghostsOf_6 ?_
  refine lv_icmp_ge (tgt := 35) hx hb dX12_ghostsOf_9 (by decide) (fun cq => ?_) (fun cq => ?_)
  · have hw := hw.1 cq
    refine lv_iload_n hx hb dX12_ghostsOf_35 rfl (lv_at hl 2 rfl) ?_
    exact m_reti hx hb hr hlk hM hS ⟨rfl, hw⟩ dX12_ghostsOf_36
  · have hw := hw.2 cq
    refine lv_iload_n hx hb dX12_ghostsOf_12 rfl (lv_at hl 2 rfl) ?_
    refine lv_aload_n hx hb dX12_ghostsOf_13 rfl (lv_at hl 0 rfl) ?_
    refine lv_iload_n hx hb dX12_ghostsOf_14 rfl (lv_at hl 1 rfl) ?_
    refine lv_iload_n hx hb dX12_ghostsOf_15 rfl (lv_at hl 3 rfl) ?_
    refine m_ci (m_runV E hM hS cs_X12_321 ho.1 (by decide) rfl rfl (c_X12_isGhost ho hw) rfl rfl ⟨Nat.le_of_ble_eq_true rfl, Nat.le_of_ble_eq_true rfl⟩ rfl hl.1 rfl (Nat.le_of_ble_eq_true rfl) dX12_ghostsOf_16 ⟨Nat.le_of_ble_eq_true rfl, Nat.le_of_ble_eq_true rfl⟩) hS (fun r9 u H locs hp hM hS => ?_)
    obtain ⟨b1, rfl, rfl, hw⟩ := hp
    refine lv_if_eq (tgt := 26) hx hb dX12_ghostsOf_19 (by decide) (fun cq => ?_) (fun cq => ?_)
    · have hw := hw.1 (bI_f cq)
      refine lv_iconst (v := 0) hx hb dX12_ghostsOf_26 (by decide) ?_
      refine lv_iadd hx hb dX12_ghostsOf_27 ?_
      refine lv_topi (fun x2 ex2 => ?_)
      have hw := hw x2 ex2
      refine lv_istore_n (lv' := [(2, .int x2), (0, .ref (ad bs o)), (1, .int a1), (3, .int v3)]) hx hb dX12_ghostsOf_28 rfl hl (by decide) rfl (fun ls hl => ?_)
      obtain ⟨x3, ex3⟩ : ∃ y : Int32, y = v3 + 1 := ⟨_, rfl⟩
      have hw := hw x3 ex3
      refine lv_iinc (v := x3) (lv' := [(3, .int x3), (2, .int x2), (0, .ref (ad bs o)), (1, .int a1)]) hx hb dX12_ghostsOf_29 hl (k := 3) rfl (by rw [ex3]; rfl) (by decide) rfl (fun ls hl => ?_)
      refine lv_goto (tgt := 4) hx hb dX12_ghostsOf_32 (by decide) ?_
      exact hw H locs ls  hM hS (lv_sub hl [2, 3, 1, 0] rfl)
    · have hw := hw.2 (bI_t cq)
      refine lv_iconst (v := 1) hx hb dX12_ghostsOf_22 (by decide) ?_
      refine lv_goto (tgt := 27) hx hb dX12_ghostsOf_23 (by decide) ?_
      refine lv_iadd hx hb dX12_ghostsOf_27 ?_
      refine lv_topi (fun x4 ex4 => ?_)
      have hw := hw x4 ex4
      refine lv_istore_n (lv' := [(2, .int x4), (0, .ref (ad bs o)), (1, .int a1), (3, .int v3)]) hx hb dX12_ghostsOf_28 rfl hl (by decide) rfl (fun ls hl => ?_)
      obtain ⟨x5, ex5⟩ : ∃ y : Int32, y = v3 + 1 := ⟨_, rfl⟩
      have hw := hw x5 ex5
      refine lv_iinc (v := x5) (lv' := [(3, .int x5), (2, .int x4), (0, .ref (ad bs o)), (1, .int a1)]) hx hb dX12_ghostsOf_29 hl (k := 3) rfl (by rw [ex5]; rfl) (by decide) rfl (fun ls hl => ?_)
      refine lv_goto (tgt := 4) hx hb dX12_ghostsOf_32 (by decide) ?_
      exact hw H locs ls  hM hS (lv_sub hl [2, 3, 1, 0] rfl)
def w_X12_ghostsOf (I : mI) (o : Nat) (a1 : Int32) (post : Int32 → Prop) : Prop := (w_X12_ghostsOf_4 I o a1 post) 0 0
set_option maxRecDepth 100000 in
set_option maxHeartbeats 4000000 in
theorem c_X12_ghostsOf {l : Launch} {D : va_G} {cA : Nat → ClassId} {Z : mZ} {bs : Ad} {n : Nat} {K : mK} {R : mR} {I : mI} {L : mL} {o : Nat} {a1 : Int32} {post : Int32 → Prop} (ho : isX12 K R o) (hw : w_X12_ghostsOf I o a1 post) : Met l yX12_ghostsOf (.code yX12_ghostsOf cX12_ghostsOf 4 (some .int) :: gw) ({ frames := 1, cells := 0, slots := 0, locals := 22 } : Room) (PreM D cA Z bs (n, K, R, I, L) [.ref (ad bs o), .int a1]) (QI D cA bs (fun r u => u = (n, K, R, I, L) ∧ post r)) 0 0 (Ab bs) := by
  refine m_met (by decide) (Nat.le_of_ble_eq_true rfl) (fun p e s m below meth c ls E hr hlk hM hS hl => ?_)
  have E : Ev p s m _ c cX12_ghostsOf 4 RX12 D cA Z bs := E
  have hl : lv_has ls 4 [(0, .ref (ad bs o)), (1, .int a1)] := hl
  have hx := E.1.1
  have hb := E.1.2.1
  generalize hHe : s.heap = H at hM ⊢
  have hS : va_S (Ab bs) s.heap H [] := by rw [← hHe]; exact va_S.rf
  clear hHe
  refine lv_iconst (v := 0) hx hb dX12_ghostsOf_0 (by decide) ?_
  refine lv_istore_n (lv' := [(2, .int 0), (0, .ref (ad bs o)), (1, .int a1)]) hx hb dX12_ghostsOf_1 rfl hl (by decide) rfl (fun ls hl => ?_)
  refine lv_iconst (v := 0) hx hb dX12_ghostsOf_2 (by decide) ?_
  refine lv_istore_n (lv' := [(3, .int 0), (2, .int 0), (0, .ref (ad bs o)), (1, .int a1)]) hx hb dX12_ghostsOf_3 rfl hl (by decide) rfl (fun ls hl => ?_)
  exact s_X12_ghostsOf_4 E hr hlk ho  hw hM hS (lv_sub hl [2, 3, 1, 0] rfl)
theorem dX12_note_0 : decode cX12_note 0 = .ok (.aload_n 0, 1) := by decide +kernel
theorem dX12_note_1 : decode cX12_note 1 = .ok (.iload_n 1, 1) := by decide +kernel
theorem dX12_note_2 : decode cX12_note 2 = .ok (.invokevirtual 214, 3) := by decide +kernel
theorem dX12_note_5 : decode cX12_note 5 = .ok (.ifCond .eq 11, 3) := by decide +kernel
theorem dX12_note_8 : decode cX12_note 8 = .ok (.aload_n 0, 1) := by decide +kernel
theorem dX12_note_9 : decode cX12_note 9 = .ok (.iload_n 2, 1) := by decide +kernel
theorem dX12_note_10 : decode cX12_note 10 = .ok (.invokevirtual 217, 3) := by decide +kernel
theorem dX12_note_13 : decode cX12_note 13 = .ok (.ifCond .ne 6, 3) := by decide +kernel
theorem dX12_note_16 : decode cX12_note 16 = .ok (.bipush (-2), 2) := by decide +kernel
theorem dX12_note_18 : decode cX12_note 18 = .ok (.ireturn, 1) := by decide +kernel
theorem dX12_note_19 : decode cX12_note 19 = .ok (.aload_n 0, 1) := by decide +kernel
theorem dX12_note_20 : decode cX12_note 20 = .ok (.invokevirtual 306, 3) := by decide +kernel
theorem dX12_note_23 : decode cX12_note 23 = .ok (.iload_n 3, 1) := by decide +kernel
theorem dX12_note_24 : decode cX12_note 24 = .ok (.iconst (-1), 1) := by decide +kernel
theorem dX12_note_25 : decode cX12_note 25 = .ok (.if_icmp .ne 33, 3) := by decide +kernel
theorem dX12_note_28 : decode cX12_note 28 = .ok (.iload 4, 2) := by decide +kernel
theorem dX12_note_30 : decode cX12_note 30 = .ok (.ifCond .ne 11, 3) := by decide +kernel
theorem dX12_note_33 : decode cX12_note 33 = .ok (.aload_n 0, 1) := by decide +kernel
theorem dX12_note_34 : decode cX12_note 34 = .ok (.iload_n 2, 1) := by decide +kernel
theorem dX12_note_35 : decode cX12_note 35 = .ok (.invokevirtual 318, 3) := by decide +kernel
theorem dX12_note_38 : decode cX12_note 38 = .ok (.goto 19, 3) := by decide +kernel
theorem dX12_note_41 : decode cX12_note 41 = .ok (.iload 4, 2) := by decide +kernel
theorem dX12_note_43 : decode cX12_note 43 = .ok (.iconst 1, 1) := by decide +kernel
theorem dX12_note_44 : decode cX12_note 44 = .ok (.if_icmp .ne 11, 3) := by decide +kernel
theorem dX12_note_47 : decode cX12_note 47 = .ok (.aload_n 0, 1) := by decide +kernel
theorem dX12_note_48 : decode cX12_note 48 = .ok (.iload_n 2, 1) := by decide +kernel
theorem dX12_note_49 : decode cX12_note 49 = .ok (.invokevirtual 324, 3) := by decide +kernel
theorem dX12_note_52 : decode cX12_note 52 = .ok (.goto 5, 3) := by decide +kernel
theorem dX12_note_55 : decode cX12_note 55 = .ok (.bipush (-2), 2) := by decide +kernel
theorem dX12_note_57 : decode cX12_note 57 = .ok (.ireturn, 1) := by decide +kernel
theorem dX12_note_58 : decode cX12_note 58 = .ok (.iload_n 3, 1) := by decide +kernel
theorem dX12_note_59 : decode cX12_note 59 = .ok (.iconst 0, 1) := by decide +kernel
theorem dX12_note_60 : decode cX12_note 60 = .ok (.aload_n 0, 1) := by decide +kernel
theorem dX12_note_61 : decode cX12_note 61 = .ok (.iload_n 2, 1) := by decide +kernel
theorem dX12_note_62 : decode cX12_note 62 = .ok (.invokevirtual 318, 3) := by decide +kernel
theorem dX12_note_65 : decode cX12_note 65 = .ok (.iconst 1, 1) := by decide +kernel
theorem dX12_note_66 : decode cX12_note 66 = .ok (.isub, 1) := by decide +kernel
theorem dX12_note_67 : decode cX12_note 67 = .ok (.invokestatic 133, 3) := by decide +kernel
theorem dX12_note_70 : decode cX12_note 70 = .ok (.ifCond .eq 13, 3) := by decide +kernel
theorem dX12_note_73 : decode cX12_note 73 = .ok (.iload 4, 2) := by decide +kernel
theorem dX12_note_75 : decode cX12_note 75 = .ok (.iconst 0, 1) := by decide +kernel
theorem dX12_note_76 : decode cX12_note 76 = .ok (.iconst 3, 1) := by decide +kernel
theorem dX12_note_77 : decode cX12_note 77 = .ok (.invokestatic 133, 3) := by decide +kernel
theorem dX12_note_80 : decode cX12_note 80 = .ok (.ifCond .ne 6, 3) := by decide +kernel
theorem dX12_note_83 : decode cX12_note 83 = .ok (.bipush (-2), 2) := by decide +kernel
theorem dX12_note_85 : decode cX12_note 85 = .ok (.ireturn, 1) := by decide +kernel
theorem dX12_note_86 : decode cX12_note 86 = .ok (.iload_n 3, 1) := by decide +kernel
theorem dX12_note_87 : decode cX12_note 87 = .ok (.istore 5, 2) := by decide +kernel
theorem dX12_note_89 : decode cX12_note 89 = .ok (.iconst 0, 1) := by decide +kernel
theorem dX12_note_90 : decode cX12_note 90 = .ok (.istore 6, 2) := by decide +kernel
theorem dX12_note_92 : decode cX12_note 92 = .ok (.aload_n 0, 1) := by decide +kernel
theorem dX12_note_93 : decode cX12_note 93 = .ok (.iload_n 2, 1) := by decide +kernel
theorem dX12_note_94 : decode cX12_note 94 = .ok (.iload 6, 2) := by decide +kernel
theorem dX12_note_96 : decode cX12_note 96 = .ok (.invokevirtual 315, 3) := by decide +kernel
theorem dX12_note_99 : decode cX12_note 99 = .ok (.ifCond .eq 8, 3) := by decide +kernel
theorem dX12_note_102 : decode cX12_note 102 = .ok (.iload 5, 2) := by decide +kernel
theorem dX12_note_104 : decode cX12_note 104 = .ok (.ifCond .le 29, 3) := by decide +kernel
theorem dX12_note_107 : decode cX12_note 107 = .ok (.iload 5, 2) := by decide +kernel
theorem dX12_note_109 : decode cX12_note 109 = .ok (.aload_n 0, 1) := by decide +kernel
theorem dX12_note_110 : decode cX12_note 110 = .ok (.iload_n 2, 1) := by decide +kernel
theorem dX12_note_111 : decode cX12_note 111 = .ok (.iload 6, 2) := by decide +kernel
theorem dX12_note_113 : decode cX12_note 113 = .ok (.invokevirtual 315, 3) := by decide +kernel
theorem dX12_note_116 : decode cX12_note 116 = .ok (.ifCond .eq 7, 3) := by decide +kernel
theorem dX12_note_119 : decode cX12_note 119 = .ok (.iconst 1, 1) := by decide +kernel
theorem dX12_note_120 : decode cX12_note 120 = .ok (.goto 4, 3) := by decide +kernel
theorem dX12_note_123 : decode cX12_note 123 = .ok (.iconst 0, 1) := by decide +kernel
theorem dX12_note_124 : decode cX12_note 124 = .ok (.isub, 1) := by decide +kernel
theorem dX12_note_125 : decode cX12_note 125 = .ok (.istore 5, 2) := by decide +kernel
theorem dX12_note_127 : decode cX12_note 127 = .ok (.iinc 6 1, 3) := by decide +kernel
theorem dX12_note_130 : decode cX12_note 130 = .ok (.goto (-38), 3) := by decide +kernel
theorem dX12_note_133 : decode cX12_note 133 = .ok (.iload 4, 2) := by decide +kernel
theorem dX12_note_135 : decode cX12_note 135 = .ok (.ifCond .ne 6, 3) := by decide +kernel
theorem dX12_note_138 : decode cX12_note 138 = .ok (.iload 6, 2) := by decide +kernel
theorem dX12_note_140 : decode cX12_note 140 = .ok (.ireturn, 1) := by decide +kernel
theorem dX12_note_141 : decode cX12_note 141 = .ok (.iload 4, 2) := by decide +kernel
theorem dX12_note_143 : decode cX12_note 143 = .ok (.iconst 1, 1) := by decide +kernel
theorem dX12_note_144 : decode cX12_note 144 = .ok (.if_icmp .ne 30, 3) := by decide +kernel
theorem dX12_note_147 : decode cX12_note 147 = .ok (.aload_n 0, 1) := by decide +kernel
theorem dX12_note_148 : decode cX12_note 148 = .ok (.getfield 38, 3) := by decide +kernel
theorem dX12_note_151 : decode cX12_note 151 = .ok (.iload 6, 2) := by decide +kernel
theorem dX12_note_153 : decode cX12_note 153 = .ok (.iaload, 1) := by decide +kernel
theorem dX12_note_154 : decode cX12_note 154 = .ok (.iload_n 2, 1) := by decide +kernel
theorem dX12_note_155 : decode cX12_note 155 = .ok (.ishr, 1) := by decide +kernel
theorem dX12_note_156 : decode cX12_note 156 = .ok (.iconst 1, 1) := by decide +kernel
theorem dX12_note_157 : decode cX12_note 157 = .ok (.iand, 1) := by decide +kernel
theorem dX12_note_158 : decode cX12_note 158 = .ok (.iconst 1, 1) := by decide +kernel
theorem dX12_note_159 : decode cX12_note 159 = .ok (.if_icmp .ne 13, 3) := by decide +kernel
theorem dX12_note_162 : decode cX12_note 162 = .ok (.aload_n 0, 1) := by decide +kernel
theorem dX12_note_163 : decode cX12_note 163 = .ok (.getfield 29, 3) := by decide +kernel
theorem dX12_note_166 : decode cX12_note 166 = .ok (.iload 6, 2) := by decide +kernel
theorem dX12_note_168 : decode cX12_note 168 = .ok (.iaload, 1) := by decide +kernel
theorem dX12_note_169 : decode cX12_note 169 = .ok (.goto 4, 3) := by decide +kernel
theorem dX12_note_172 : decode cX12_note 172 = .ok (.iconst (-1), 1) := by decide +kernel
theorem dX12_note_173 : decode cX12_note 173 = .ok (.ireturn, 1) := by decide +kernel
theorem dX12_note_174 : decode cX12_note 174 = .ok (.iload 4, 2) := by decide +kernel
theorem dX12_note_176 : decode cX12_note 176 = .ok (.iconst 2, 1) := by decide +kernel
theorem dX12_note_177 : decode cX12_note 177 = .ok (.if_icmp .ne 37, 3) := by decide +kernel
theorem dX12_note_180 : decode cX12_note 180 = .ok (.aload_n 0, 1) := by decide +kernel
theorem dX12_note_181 : decode cX12_note 181 = .ok (.getfield 41, 3) := by decide +kernel
theorem dX12_note_184 : decode cX12_note 184 = .ok (.iload 6, 2) := by decide +kernel
theorem dX12_note_186 : decode cX12_note 186 = .ok (.iaload, 1) := by decide +kernel
theorem dX12_note_187 : decode cX12_note 187 = .ok (.iload_n 2, 1) := by decide +kernel
theorem dX12_note_188 : decode cX12_note 188 = .ok (.ishr, 1) := by decide +kernel
theorem dX12_note_189 : decode cX12_note 189 = .ok (.iconst 1, 1) := by decide +kernel
theorem dX12_note_190 : decode cX12_note 190 = .ok (.iand, 1) := by decide +kernel
theorem dX12_note_191 : decode cX12_note 191 = .ok (.iconst 1, 1) := by decide +kernel
theorem dX12_note_192 : decode cX12_note 192 = .ok (.if_icmp .ne 18, 3) := by decide +kernel
theorem dX12_note_195 : decode cX12_note 195 = .ok (.aload_n 0, 1) := by decide +kernel
theorem dX12_note_196 : decode cX12_note 196 = .ok (.getfield 29, 3) := by decide +kernel
theorem dX12_note_199 : decode cX12_note 199 = .ok (.aload_n 0, 1) := by decide +kernel
theorem dX12_note_200 : decode cX12_note 200 = .ok (.getfield 35, 3) := by decide +kernel
theorem dX12_note_203 : decode cX12_note 203 = .ok (.iload 6, 2) := by decide +kernel
theorem dX12_note_205 : decode cX12_note 205 = .ok (.iaload, 1) := by decide +kernel
theorem dX12_note_206 : decode cX12_note 206 = .ok (.iaload, 1) := by decide +kernel
theorem dX12_note_207 : decode cX12_note 207 = .ok (.goto 22, 3) := by decide +kernel
theorem dX12_note_210 : decode cX12_note 210 = .ok (.iconst (-1), 1) := by decide +kernel
theorem dX12_note_211 : decode cX12_note 211 = .ok (.goto 18, 3) := by decide +kernel
theorem dX12_note_214 : decode cX12_note 214 = .ok (.aload_n 0, 1) := by decide +kernel
theorem dX12_note_215 : decode cX12_note 215 = .ok (.iload_n 2, 1) := by decide +kernel
theorem dX12_note_216 : decode cX12_note 216 = .ok (.iload 6, 2) := by decide +kernel
theorem dX12_note_218 : decode cX12_note 218 = .ok (.invokevirtual 321, 3) := by decide +kernel
theorem dX12_note_221 : decode cX12_note 221 = .ok (.ifCond .eq 7, 3) := by decide +kernel
theorem dX12_note_224 : decode cX12_note 224 = .ok (.iconst 1, 1) := by decide +kernel
theorem dX12_note_225 : decode cX12_note 225 = .ok (.goto 4, 3) := by decide +kernel
theorem dX12_note_228 : decode cX12_note 228 = .ok (.iconst 0, 1) := by decide +kernel
theorem dX12_note_229 : decode cX12_note 229 = .ok (.ireturn, 1) := by decide +kernel
def w_X12_note_107 (o : Nat) (a1 : Int32) (a2 : Int32) (a3 : Int32) (a4 : Int32) (post : Int32 → mI → Prop) (k92 : mI → Int32 → Int32 → Prop) (I : mI) (v5 : Int32) (v6 : Int32) : Prop := w_X12_isNote I o a2 v6 (fun b12 => (b12 = false → ∀ x13, x13 = (v5 - 0) → ∀ x14, x14 = v6 + 1 → k92 I x13 x14) ∧ (b12 = true → ∀ x15, x15 = (v5 - 1) → ∀ x16, x16 = v6 + 1 → k92 I x15 x16))
set_option maxRecDepth 100000 in
set_option maxHeartbeats 4000000 in
theorem s_X12_note_107 {p : Program} {l : Launch} {e : Env} {s : State} {m : MethodId} {args : Array Value} {below : List Frame} {meth : Method} {c : Code} {D : va_G} {cA : Nat → ClassId} {Z : mZ} {bs : Ad} {n : Nat} {K : mK} {R : mR} {L : mL} (E : Ev p s m args c cX12_note 7 RX12 D cA Z bs) (hr : meth.sig.returnType = (some .int)) (hlk : meth.locks = false) {o : Nat} {a1 : Int32} {a2 : Int32} {a3 : Int32} {a4 : Int32} (ho : isX12 K R o) {post : Int32 → mI → Prop} {k92 : mI → Int32 → Int32 → Prop} (hk92 : ∀ (I : mI) (v5 : Int32) (v6 : Int32) (H : Heap) (locs : List Loc) (ls : Array Slot), k92 I v5 v6 → mm D cA bs (n, K, R, I, L) H → va_S (Ab bs) s.heap H locs → lv_has ls 7 [(0, .ref (ad bs o)), (2, .int a2), (4, .int a4), (5, .int v5), (6, .int v6)] → W p l e ({ frames := 7, cells := 0, slots := 0, locals := 159 } : Room) s m args below meth c H locs 0 0 (MQ below (QI D cA bs (fun r u => ∃ I', u = (n, K, R, I', L) ∧ post r I')) args s 0 0 (Ab bs)) (F0 m 92 ls [])) {I : mI} {v5 : Int32} {v6 : Int32} {H : Heap} {locs : List Loc} {ls : Array Slot} (hw : w_X12_note_107 o a1 a2 a3 a4 post k92 I v5 v6) (hM : mm D cA bs (n, K, R, I, L) H) (hS : va_S (Ab bs) s.heap H locs) (hl : lv_has ls 7 [(0, .ref (ad bs o)), (2, .int a2), (4, .int a4), (5, .int v5), (6, .int v6)]) : W p l e ({ frames := 7, cells := 0, slots := 0, locals := 159 } : Room) s m args below meth c H locs 0 0 (MQ below (QI D cA bs (fun r u => ∃ I', u = (n, K, R, I', L) ∧ post r I')) args s 0 0 (Ab bs)) (F0 m 107 ls []) := by
  have hx := E.1.1
  have hb := E.1.2.1
  refine lv_iload hx hb dX12_note_107 (lv_at hl 3 rfl) ?_
  refine lv_aload_n hx hb dX12_note_109 rfl (lv_at hl 0 rfl) ?_
  refine lv_iload_n hx hb dX12_note_110 rfl (lv_at hl 1 rfl) ?_
  refine lv_iload hx hb dX12_note_111 (lv_at hl 4 rfl) ?_
  refine m_ci (m_runV E hM hS cs_X12_315 ho.1 (by decide) rfl rfl (c_X12_isNote ho hw) rfl rfl ⟨Nat.le_of_ble_eq_true rfl, Nat.le_of_ble_eq_true rfl⟩ rfl hl.1 rfl (Nat.le_of_ble_eq_true rfl) dX12_note_113 ⟨Nat.le_of_ble_eq_true rfl, Nat.le_of_ble_eq_true rfl⟩) hS (fun r9 u H locs hp hM hS => ?_)
  obtain ⟨b12, rfl, rfl, hw⟩ := hp
  refine lv_if_eq (tgt := 123) hx hb dX12_note_116 (by decide) (fun cq => ?_) (fun cq => ?_)
  · have hw := hw.1 (bI_f cq)
    refine lv_iconst (v := 0) hx hb dX12_note_123 (by decide) ?_
    refine lv_isub hx hb dX12_note_124 ?_
    refine lv_topi (fun x13 ex13 => ?_)
    have hw := hw x13 ex13
    refine lv_istore (lv' := [(5, .int x13), (0, .ref (ad bs o)), (2, .int a2), (4, .int a4), (6, .int v6)]) hx hb dX12_note_125 hl (by decide) rfl (fun ls hl => ?_)
    obtain ⟨x14, ex14⟩ : ∃ y : Int32, y = v6 + 1 := ⟨_, rfl⟩
    have hw := hw x14 ex14
    refine lv_iinc (v := x14) (lv' := [(6, .int x14), (5, .int x13), (0, .ref (ad bs o)), (2, .int a2), (4, .int a4)]) hx hb dX12_note_127 hl (k := 4) rfl (by rw [ex14]; rfl) (by decide) rfl (fun ls hl => ?_)
    refine lv_goto (tgt := 92) hx hb dX12_note_130 (by decide) ?_
    exact hk92 _ _ _ H locs ls  hw hM hS (lv_sub hl [2, 3, 4, 1, 0] rfl)
  · have hw := hw.2 (bI_t cq)
    refine lv_iconst (v := 1) hx hb dX12_note_119 (by decide) ?_
    refine lv_goto (tgt := 124) hx hb dX12_note_120 (by decide) ?_
    refine lv_isub hx hb dX12_note_124 ?_
    refine lv_topi (fun x15 ex15 => ?_)
    have hw := hw x15 ex15
    refine lv_istore (lv' := [(5, .int x15), (0, .ref (ad bs o)), (2, .int a2), (4, .int a4), (6, .int v6)]) hx hb dX12_note_125 hl (by decide) rfl (fun ls hl => ?_)
    obtain ⟨x16, ex16⟩ : ∃ y : Int32, y = v6 + 1 := ⟨_, rfl⟩
    have hw := hw x16 ex16
    refine lv_iinc (v := x16) (lv' := [(6, .int x16), (5, .int x15), (0, .ref (ad bs o)), (2, .int a2), (4, .int a4)]) hx hb dX12_note_127 hl (k := 4) rfl (by rw [ex16]; rfl) (by decide) rfl (fun ls hl => ?_)
    refine lv_goto (tgt := 92) hx hb dX12_note_130 (by decide) ?_
    exact hk92 _ _ _ H locs ls  hw hM hS (lv_sub hl [2, 3, 4, 1, 0] rfl)
def w_X12_note_92 (o : Nat) (a1 : Int32) (a2 : Int32) (a3 : Int32) (a4 : Int32) (post : Int32 → mI → Prop) (k133 : mI → Int32 → Prop) (I : mI) (v5 : Int32) (v6 : Int32) : Prop := ∀ ZZ : (mI → Int32 → Int32 → Prop), (∀ (I : mI) (v5 : Int32) (v6 : Int32), (w_X12_isNote I o a2 v6 (fun b10 => (b10 = false → (w_X12_note_107 o a1 a2 a3 a4 post ZZ) I v5 v6) ∧ (b10 = true → (v5 ≤ 0 → k133 I v6) ∧ (¬ v5 ≤ 0 → (w_X12_note_107 o a1 a2 a3 a4 post ZZ) I v5 v6)))) → ZZ I v5 v6) → ZZ I v5 v6
set_option maxRecDepth 100000 in
set_option maxHeartbeats 4000000 in
theorem s_X12_note_92 {p : Program} {l : Launch} {e : Env} {s : State} {m : MethodId} {args : Array Value} {below : List Frame} {meth : Method} {c : Code} {D : va_G} {cA : Nat → ClassId} {Z : mZ} {bs : Ad} {n : Nat} {K : mK} {R : mR} {L : mL} (E : Ev p s m args c cX12_note 7 RX12 D cA Z bs) (hr : meth.sig.returnType = (some .int)) (hlk : meth.locks = false) {o : Nat} {a1 : Int32} {a2 : Int32} {a3 : Int32} {a4 : Int32} (ho : isX12 K R o) {post : Int32 → mI → Prop} {k133 : mI → Int32 → Prop} (hk133 : ∀ (I : mI) (v6 : Int32) (H : Heap) (locs : List Loc) (ls : Array Slot), k133 I v6 → mm D cA bs (n, K, R, I, L) H → va_S (Ab bs) s.heap H locs → lv_has ls 7 [(0, .ref (ad bs o)), (2, .int a2), (4, .int a4), (6, .int v6)] → W p l e ({ frames := 7, cells := 0, slots := 0, locals := 159 } : Room) s m args below meth c H locs 0 0 (MQ below (QI D cA bs (fun r u => ∃ I', u = (n, K, R, I', L) ∧ post r I')) args s 0 0 (Ab bs)) (F0 m 133 ls [])) {I : mI} {v5 : Int32} {v6 : Int32} {H : Heap} {locs : List Loc} {ls : Array Slot} (hw : w_X12_note_92 o a1 a2 a3 a4 post k133 I v5 v6) (hM : mm D cA bs (n, K, R, I, L) H) (hS : va_S (Ab bs) s.heap H locs) (hl : lv_has ls 7 [(0, .ref (ad bs o)), (2, .int a2), (4, .int a4), (5, .int v5), (6, .int v6)]) : W p l e ({ frames := 7, cells := 0, slots := 0, locals := 159 } : Room) s m args below meth c H locs 0 0 (MQ below (QI D cA bs (fun r u => ∃ I', u = (n, K, R, I', L) ∧ post r I')) args s 0 0 (Ab bs)) (F0 m 92 ls []) := by
  have hx := E.1.1
  have hb := E.1.2.1
  refine hw (fun I v5 v6 => ∀ (H : Heap) (locs : List Loc) (ls : Array Slot), mm D cA bs (n, K, R, I, L) H → va_S (Ab bs) s.heap H locs → lv_has ls 7 [(0, .ref (ad bs o)), (2, .int a2), (4, .int a4), (5, .int v5), (6, .int v6)] → W p l e ({ frames := 7, cells := 0, slots := 0, locals := 159 } : Room) s m args below meth c H locs 0 0 (MQ below (QI D cA bs (fun r u => ∃ I', u = (n, K, R, I', L) ∧ post r I')) args s 0 0 (Ab bs)) (F0 m 92 ls [])) ?_ H locs ls hM hS hl
  clear hw hM hS hl
  intro I v5 v6 hw H locs ls hM hS hl
  refine lv_aload_n hx hb dX12_note_92 rfl (lv_at hl 0 rfl) ?_
  refine lv_iload_n hx hb dX12_note_93 rfl (lv_at hl 1 rfl) ?_
  refine lv_iload hx hb dX12_note_94 (lv_at hl 4 rfl) ?_
  refine m_ci (m_runV E hM hS cs_X12_315 ho.1 (by decide) rfl rfl (c_X12_isNote ho hw) rfl rfl ⟨Nat.le_of_ble_eq_true rfl, Nat.le_of_ble_eq_true rfl⟩ rfl hl.1 rfl (Nat.le_of_ble_eq_true rfl) dX12_note_96 ⟨Nat.le_of_ble_eq_true rfl, Nat.le_of_ble_eq_true rfl⟩) hS (fun r9 u H locs hp hM hS => ?_)
  obtain ⟨b10, rfl, rfl, hw⟩ := hp
  refine lv_if_eq (tgt := 107) hx hb dX12_note_99 (by decide) (fun cq => ?_) (fun cq => ?_)
  · have hw := hw.1 (bI_f cq)
    exact s_X12_note_107 E hr hlk ho (fun I v5 v6 H locs ls  hw hM hS hl => hw H locs ls  hM hS hl)  hw hM hS (lv_sub hl [0, 1, 2, 3, 4] rfl)
  · have hw := hw.2 (bI_t cq)
    refine lv_iload hx hb dX12_note_102 (lv_at hl 3 rfl) ?_
    refine lv_if_le (tgt := 133) hx hb dX12_note_104 (by decide) (fun cq => ?_) (fun cq => ?_)
    · have hw := hw.1 cq
      exact hk133 _ _ H locs ls  hw hM hS (lv_sub hl [0, 1, 2, 4] rfl)
    · have hw := hw.2 cq
      exact s_X12_note_107 E hr hlk ho (fun I v5 v6 H locs ls  hw hM hS hl => hw H locs ls  hM hS hl)  hw hM hS (lv_sub hl [0, 1, 2, 3, 4] rfl)
def w_X12_note_133 (o : Nat) (a1 : Int32) (a2 : Int32) (a3 : Int32) (a4 : Int32) (post : Int32 → mI → Prop) (I : mI) (v6 : Int32) : Prop := (¬ a4 = 0 → (¬ a4 = 1 → (¬ a4 = 2 → w_X12_isGhost I o a2 v6 (fun b11 => (b11 = false → post 0 I) ∧ (b11 = true → post 1 I))) ∧ (a4 = 2 → vp_in v6 640 ∧ (¬ (((I (o + 11) v6.toNatClampNeg) >>> (a2 &&& 31)) &&& 1) = 1 → post (-1) I) ∧ ((((I (o + 11) v6.toNatClampNeg) >>> (a2 &&& 31)) &&& 1) = 1 → vp_in v6 640 ∧ vp_in (I (o + 9) v6.toNatClampNeg) 640 ∧ post (I (o + 7) (I (o + 9) v6.toNatClampNeg).toNatClampNeg) I))) ∧ (a4 = 1 → vp_in v6 640 ∧ (¬ (((I (o + 10) v6.toNatClampNeg) >>> (a2 &&& 31)) &&& 1) = 1 → post (-1) I) ∧ ((((I (o + 10) v6.toNatClampNeg) >>> (a2 &&& 31)) &&& 1) = 1 → vp_in v6 640 ∧ post (I (o + 7) v6.toNatClampNeg) I))) ∧ (a4 = 0 → post v6 I)
set_option maxRecDepth 100000 in
set_option maxHeartbeats 4000000 in
theorem s_X12_note_133 {p : Program} {l : Launch} {e : Env} {s : State} {m : MethodId} {args : Array Value} {below : List Frame} {meth : Method} {c : Code} {D : va_G} {cA : Nat → ClassId} {Z : mZ} {bs : Ad} {n : Nat} {K : mK} {R : mR} {L : mL} (E : Ev p s m args c cX12_note 7 RX12 D cA Z bs) (hr : meth.sig.returnType = (some .int)) (hlk : meth.locks = false) {o : Nat} {a1 : Int32} {a2 : Int32} {a3 : Int32} {a4 : Int32} (ho : isX12 K R o) {post : Int32 → mI → Prop} {I : mI} {v6 : Int32} {H : Heap} {locs : List Loc} {ls : Array Slot} (hw : w_X12_note_133 o a1 a2 a3 a4 post I v6) (hM : mm D cA bs (n, K, R, I, L) H) (hS : va_S (Ab bs) s.heap H locs) (hl : lv_has ls 7 [(0, .ref (ad bs o)), (2, .int a2), (4, .int a4), (6, .int v6)]) : W p l e ({ frames := 7, cells := 0, slots := 0, locals := 159 } : Room) s m args below meth c H locs 0 0 (MQ below (QI D cA bs (fun r u => ∃ I', u = (n, K, R, I', L) ∧ post r I')) args s 0 0 (Ab bs)) (F0 m 133 ls []) := by
  have hx := E.1.1
  have hb := E.1.2.1
  refine lv_iload hx hb dX12_note_133 (lv_at hl 2 rfl) ?_
  refine lv_if_ne (tgt := 141) hx hb dX12_note_135 (by decide) (fun cq => ?_) (fun cq => ?_)
  · have hw := hw.1 cq
    refine lv_iload hx hb dX12_note_141 (lv_at hl 2 rfl) ?_
    refine lv_iconst (v := 1) hx hb dX12_note_143 (by decide) ?_
    refine lv_icmp_ne (tgt := 174) hx hb dX12_note_144 (by decide) (fun cq => ?_) (fun cq => ?_)
    · have hw := hw.1 cq
      refine lv_iload hx hb dX12_note_174 (lv_at hl 2 rfl) ?_
      refine lv_iconst (v := 2) hx hb dX12_note_176 (by decide) ?_
      refine lv_icmp_ne (tgt := 214) hx hb dX12_note_177 (by decide) (fun cq => ?_) (fun cq => ?_)
      · have hw := hw.1 cq
        refine lv_aload_n hx hb dX12_note_214 rfl (lv_at hl 0 rfl) ?_
        refine lv_iload_n hx hb dX12_note_215 rfl (lv_at hl 1 rfl) ?_
        refine lv_iload hx hb dX12_note_216 (lv_at hl 3 rfl) ?_
        refine m_ci (m_runV E hM hS cs_X12_321 ho.1 (by decide) rfl rfl (c_X12_isGhost ho hw) rfl rfl ⟨Nat.le_of_ble_eq_true rfl, Nat.le_of_ble_eq_true rfl⟩ rfl hl.1 rfl (Nat.le_of_ble_eq_true rfl) dX12_note_218 ⟨Nat.le_of_ble_eq_true rfl, Nat.le_of_ble_eq_true rfl⟩) hS (fun r9 u H locs hp hM hS => ?_)
        obtain ⟨b11, rfl, rfl, hw⟩ := hp
        refine lv_if_eq (tgt := 228) hx hb dX12_note_221 (by decide) (fun cq => ?_) (fun cq => ?_)
        · have hw := hw.1 (bI_f cq)
          refine lv_iconst (v := 0) hx hb dX12_note_228 (by decide) ?_
          exact m_reti hx hb hr hlk hM hS ⟨_, rfl, hw⟩ dX12_note_229
        · have hw := hw.2 (bI_t cq)
          refine lv_iconst (v := 1) hx hb dX12_note_224 (by decide) ?_
          refine lv_goto (tgt := 229) hx hb dX12_note_225 (by decide) ?_
          exact m_reti hx hb hr hlk hM hS ⟨_, rfl, hw⟩ dX12_note_229
      · have hw := hw.2 cq
        refine lv_aload_n hx hb dX12_note_180 rfl (lv_at hl 0 rfl) ?_
        refine m_getr E hM fs_X12_41 ho.1 (isO_at ho 10 rfl).1 dX12_note_181 ?_
        refine lv_iload hx hb dX12_note_184 (lv_at hl 3 rfl) ?_
        obtain ⟨hv, hw⟩ := hw
        refine m_iald E hM (isO_at ho 10 rfl).2 hv dX12_note_186 ?_
        refine lv_iload_n hx hb dX12_note_187 rfl (lv_at hl 1 rfl) ?_
        refine lv_ishr hx hb dX12_note_188 ?_
        refine lv_iconst (v := 1) hx hb dX12_note_189 (by decide) ?_
        refine lv_iand hx hb dX12_note_190 ?_
        refine lv_iconst (v := 1) hx hb dX12_note_191 (by decide) ?_
        refine lv_icmp_ne (tgt := 210) hx hb dX12_note_192 (by decide) (fun cq => ?_) (fun cq => ?_)
        · have hw := hw.1 cq
          refine lv_iconst (v := (-1)) hx hb dX12_note_210 (by decide) ?_
          refine lv_goto (tgt := 229) hx hb dX12_note_211 (by decide) ?_
          exact m_reti hx hb hr hlk hM hS ⟨_, rfl, hw⟩ dX12_note_229
        · have hw := hw.2 cq
          refine lv_aload_n hx hb dX12_note_195 rfl (lv_at hl 0 rfl) ?_
          refine m_getr E hM fs_X12_29 ho.1 (isO_at ho 6 rfl).1 dX12_note_196 ?_
          refine lv_aload_n hx hb dX12_note_199 rfl (lv_at hl 0 rfl) ?_
          refine m_getr E hM fs_X12_35 ho.1 (isO_at ho 8 rfl).1 dX12_note_200 ?_
          refine lv_iload hx hb dX12_note_203 (lv_at hl 3 rfl) ?_
          obtain ⟨hv, hw⟩ := hw
          refine m_iald E hM (isO_at ho 8 rfl).2 hv dX12_note_205 ?_
          obtain ⟨hv, hw⟩ := hw
          refine m_iald E hM (isO_at ho 6 rfl).2 hv dX12_note_206 ?_
          refine lv_goto (tgt := 229) hx hb dX12_note_207 (by decide) ?_
          exact m_reti hx hb hr hlk hM hS ⟨_, rfl, hw⟩ dX12_note_229
    · have hw := hw.2 cq
      refine lv_aload_n hx hb dX12_note_147 rfl (lv_at hl 0 rfl) ?_
      refine m_getr E hM fs_X12_38 ho.1 (isO_at ho 9 rfl).1 dX12_note_148 ?_
      refine lv_iload hx hb dX12_note_151 (lv_at hl 3 rfl) ?_
      obtain ⟨hv, hw⟩ := hw
      refine m_iald E hM (isO_at ho 9 rfl).2 hv dX12_note_153 ?_
      refine lv_iload_n hx hb dX12_note_154 rfl (lv_at hl 1 rfl) ?_
      refine lv_ishr hx hb dX12_note_155 ?_
      refine lv_iconst (v := 1) hx hb dX12_note_156 (by decide) ?_
      refine lv_iand hx hb dX12_note_157 ?_
      refine lv_iconst (v := 1) hx hb dX12_note_158 (by decide) ?_
      refine lv_icmp_ne (tgt := 172) hx hb dX12_note_159 (by decide) (fun cq => ?_) (fun cq => ?_)
      · have hw := hw.1 cq
        refine lv_iconst (v := (-1)) hx hb dX12_note_172 (by decide) ?_
        exact m_reti hx hb hr hlk hM hS ⟨_, rfl, hw⟩ dX12_note_173
      · have hw := hw.2 cq
        refine lv_aload_n hx hb dX12_note_162 rfl (lv_at hl 0 rfl) ?_
        refine m_getr E hM fs_X12_29 ho.1 (isO_at ho 6 rfl).1 dX12_note_163 ?_
        refine lv_iload hx hb dX12_note_166 (lv_at hl 3 rfl) ?_
        obtain ⟨hv, hw⟩ := hw
        refine m_iald E hM (isO_at ho 6 rfl).2 hv dX12_note_168 ?_
        refine lv_goto (tgt := 173) hx hb dX12_note_169 (by decide) ?_
        exact m_reti hx hb hr hlk hM hS ⟨_, rfl, hw⟩ dX12_note_173
  · have hw := hw.2 cq
    refine lv_iload hx hb dX12_note_138 (lv_at hl 3 rfl) ?_
    exact m_reti hx hb hr hlk hM hS ⟨_, rfl, hw⟩ dX12_note_140
def w_X12_note (I : mI) (o : Nat) (a1 : Int32) (a2 : Int32) (a3 : Int32) (a4 : Int32) (post : Int32 → mI → Prop) : Prop := w_X12_isHouse I o a1 (fun b1 I2 => (b1 = false → post (-2) I2) ∧ (b1 = true → w_X12_isFlat I2 o a2 (fun b3 => (b3 = true → w_X12_runs I2 o (fun I4 => (¬ a3 = (-1) → w_X12_notesOf I4 o a2 (fun r5 => w_X12_isIn a3 0 (r5 - 1) (fun b6 => (b6 = false → post (-2) I4) ∧ (b6 = true → w_X12_isIn a4 0 3 (fun b7 => (b7 = true → (w_X12_note_92 o a1 a2 a3 a4 post (w_X12_note_133 o a1 a2 a3 a4 post)) I4 a3 0) ∧ (b7 = false → post (-2) I4)))))) ∧ (a3 = (-1) → (¬ a4 = 0 → (¬ a4 = 1 → post (-2) I4) ∧ (a4 = 1 → w_X12_ghostsOf I4 o a2 (fun r8 => post r8 I4))) ∧ (a4 = 0 → w_X12_notesOf I4 o a2 (fun r9 => post r9 I4))))) ∧ (b3 = false → post (-2) I2))))
set_option maxRecDepth 100000 in
set_option maxHeartbeats 4000000 in
theorem c_X12_note {l : Launch} {D : va_G} {cA : Nat → ClassId} {Z : mZ} {bs : Ad} {n : Nat} {K : mK} {R : mR} {I : mI} {L : mL} {o : Nat} {a1 : Int32} {a2 : Int32} {a3 : Int32} {a4 : Int32} {post : Int32 → mI → Prop} (ho : isX12 K R o) (hw : w_X12_note I o a1 a2 a3 a4 post) : Met l yX12_note (.code yX12_note cX12_note 7 (some .int) :: gw) ({ frames := 7, cells := 0, slots := 0, locals := 159 } : Room) (PreM D cA Z bs (n, K, R, I, L) [.ref (ad bs o), .int a1, .int a2, .int a3, .int a4]) (QI D cA bs (fun r u => ∃ I', u = (n, K, R, I', L) ∧ post r I')) 0 0 (Ab bs) := by
  refine m_met (by decide) (Nat.le_of_ble_eq_true rfl) (fun p e s m below meth c ls E hr hlk hM hS hl => ?_)
  have E : Ev p s m _ c cX12_note 7 RX12 D cA Z bs := E
  have hl : lv_has ls 7 [(0, .ref (ad bs o)), (1, .int a1), (2, .int a2), (3, .int a3), (4, .int a4)] := hl
  have hx := E.1.1
  have hb := E.1.2.1
  generalize hHe : s.heap = H at hM ⊢
  have hS : va_S (Ab bs) s.heap H [] := by rw [← hHe]; exact va_S.rf
  clear hHe
  refine lv_aload_n hx hb dX12_note_0 rfl (lv_at hl 0 rfl) ?_
  refine lv_iload_n hx hb dX12_note_1 rfl (lv_at hl 1 rfl) ?_
  refine m_ci (m_runV E hM hS cs_X12_214 ho.1 (by decide) rfl rfl (c_X12_isHouse ho hw) rfl rfl ⟨Nat.le_of_ble_eq_true rfl, Nat.le_of_ble_eq_true rfl⟩ rfl hl.1 rfl (Nat.le_of_ble_eq_true rfl) dX12_note_2 ⟨Nat.le_of_ble_eq_true rfl, Nat.le_of_ble_eq_true rfl⟩) hS (fun r9 u H locs hp hM hS => ?_)
  obtain ⟨b1, rfl, I2, rfl, hw⟩ := hp
  refine lv_if_eq (tgt := 16) hx hb dX12_note_5 (by decide) (fun cq => ?_) (fun cq => ?_)
  · have hw := hw.1 (bI_f cq)
    refine lv_bipush (v := (-2)) hx hb dX12_note_16 (by decide) ?_
    exact m_reti hx hb hr hlk hM hS ⟨_, rfl, hw⟩ dX12_note_18
  · have hw := hw.2 (bI_t cq)
    refine lv_aload_n hx hb dX12_note_8 rfl (lv_at hl 0 rfl) ?_
    refine lv_iload_n hx hb dX12_note_9 rfl (lv_at hl 2 rfl) ?_
    refine m_ci (m_runV E hM hS cs_X12_217 ho.1 (by decide) rfl rfl (c_X12_isFlat ho hw) rfl rfl ⟨Nat.le_of_ble_eq_true rfl, Nat.le_of_ble_eq_true rfl⟩ rfl hl.1 rfl (Nat.le_of_ble_eq_true rfl) dX12_note_10 ⟨Nat.le_of_ble_eq_true rfl, Nat.le_of_ble_eq_true rfl⟩) hS (fun r9 u H locs hp hM hS => ?_)
    obtain ⟨b3, rfl, rfl, hw⟩ := hp
    refine lv_if_ne (tgt := 19) hx hb dX12_note_13 (by decide) (fun cq => ?_) (fun cq => ?_)
    · have hw := hw.1 (bI_t cq)
      refine lv_aload_n hx hb dX12_note_19 rfl (lv_at hl 0 rfl) ?_
      refine m_cv (m_runV E hM hS cs_X12_306 ho.1 (by decide) rfl rfl (c_X12_runs ho hw) rfl rfl ⟨Nat.le_of_ble_eq_true rfl, Nat.le_of_ble_eq_true rfl⟩ rfl hl.1 rfl (Nat.le_of_ble_eq_true rfl) dX12_note_20 ⟨Nat.le_of_ble_eq_true rfl, Nat.le_of_ble_eq_true rfl⟩) hS (fun u H locs hp hM hS => ?_)
      obtain ⟨I4, rfl, hw⟩ := hp
      refine lv_iload_n hx hb dX12_note_23 rfl (lv_at hl 3 rfl) ?_
      refine lv_iconst (v := (-1)) hx hb dX12_note_24 (by decide) ?_
      refine lv_icmp_ne (tgt := 58) hx hb dX12_note_25 (by decide) (fun cq => ?_) (fun cq => ?_)
      · have hw := hw.1 cq
        refine lv_iload_n hx hb dX12_note_58 rfl (lv_at hl 3 rfl) ?_
        refine lv_iconst (v := 0) hx hb dX12_note_59 (by decide) ?_
        refine lv_aload_n hx hb dX12_note_60 rfl (lv_at hl 0 rfl) ?_
        refine lv_iload_n hx hb dX12_note_61 rfl (lv_at hl 2 rfl) ?_
        refine m_ci (m_runV E hM hS cs_X12_318 ho.1 (by decide) rfl rfl (c_X12_notesOf ho hw) rfl rfl ⟨Nat.le_of_ble_eq_true rfl, Nat.le_of_ble_eq_true rfl⟩ rfl hl.1 rfl (Nat.le_of_ble_eq_true rfl) dX12_note_62 ⟨Nat.le_of_ble_eq_true rfl, Nat.le_of_ble_eq_true rfl⟩) hS (fun r5 u H locs hp hM hS => ?_)
        obtain ⟨rfl, hw⟩ := hp
        refine lv_iconst (v := 1) hx hb dX12_note_65 (by decide) ?_
        refine lv_isub hx hb dX12_note_66 ?_
        refine m_ci (m_runS E hM hS cs_X12_133 (c_X12_isIn  hw) rfl rfl ⟨Nat.le_of_ble_eq_true rfl, Nat.le_of_ble_eq_true rfl⟩ rfl hl.1 rfl (Nat.le_of_ble_eq_true rfl) dX12_note_67 ⟨Nat.le_of_ble_eq_true rfl, Nat.le_of_ble_eq_true rfl⟩) hS (fun r9 u H locs hp hM hS => ?_)
        obtain ⟨b6, rfl, rfl, hw⟩ := hp
        refine lv_if_eq (tgt := 83) hx hb dX12_note_70 (by decide) (fun cq => ?_) (fun cq => ?_)
        · have hw := hw.1 (bI_f cq)
          refine lv_bipush (v := (-2)) hx hb dX12_note_83 (by decide) ?_
          exact m_reti hx hb hr hlk hM hS ⟨_, rfl, hw⟩ dX12_note_85
        · have hw := hw.2 (bI_t cq)
          refine lv_iload hx hb dX12_note_73 (lv_at hl 4 rfl) ?_
          refine lv_iconst (v := 0) hx hb dX12_note_75 (by decide) ?_
          refine lv_iconst (v := 3) hx hb dX12_note_76 (by decide) ?_
          refine m_ci (m_runS E hM hS cs_X12_133 (c_X12_isIn  hw) rfl rfl ⟨Nat.le_of_ble_eq_true rfl, Nat.le_of_ble_eq_true rfl⟩ rfl hl.1 rfl (Nat.le_of_ble_eq_true rfl) dX12_note_77 ⟨Nat.le_of_ble_eq_true rfl, Nat.le_of_ble_eq_true rfl⟩) hS (fun r9 u H locs hp hM hS => ?_)
          obtain ⟨b7, rfl, rfl, hw⟩ := hp
          refine lv_if_ne (tgt := 86) hx hb dX12_note_80 (by decide) (fun cq => ?_) (fun cq => ?_)
          · have hw := hw.1 (bI_t cq)
            refine lv_iload_n hx hb dX12_note_86 rfl (lv_at hl 3 rfl) ?_
            refine lv_istore (lv' := [(5, .int a3), (0, .ref (ad bs o)), (1, .int a1), (2, .int a2), (3, .int a3), (4, .int a4)]) hx hb dX12_note_87 hl (by decide) rfl (fun ls hl => ?_)
            refine lv_iconst (v := 0) hx hb dX12_note_89 (by decide) ?_
            refine lv_istore (lv' := [(6, .int 0), (5, .int a3), (0, .ref (ad bs o)), (1, .int a1), (2, .int a2), (3, .int a3), (4, .int a4)]) hx hb dX12_note_90 hl (by decide) rfl (fun ls hl => ?_)
            exact s_X12_note_92 E hr hlk ho (fun I v6 H locs ls  hw hM hS hl => s_X12_note_133 E hr hlk ho  hw hM hS hl)  hw hM hS (lv_sub hl [2, 4, 6, 1, 0] rfl)
          · have hw := hw.2 (bI_f cq)
            refine lv_bipush (v := (-2)) hx hb dX12_note_83 (by decide) ?_
            exact m_reti hx hb hr hlk hM hS ⟨_, rfl, hw⟩ dX12_note_85
      · have hw := hw.2 cq
        refine lv_iload hx hb dX12_note_28 (lv_at hl 4 rfl) ?_
        refine lv_if_ne (tgt := 41) hx hb dX12_note_30 (by decide) (fun cq => ?_) (fun cq => ?_)
        · have hw := hw.1 cq
          refine lv_iload hx hb dX12_note_41 (lv_at hl 4 rfl) ?_
          refine lv_iconst (v := 1) hx hb dX12_note_43 (by decide) ?_
          refine lv_icmp_ne (tgt := 55) hx hb dX12_note_44 (by decide) (fun cq => ?_) (fun cq => ?_)
          · have hw := hw.1 cq
            refine lv_bipush (v := (-2)) hx hb dX12_note_55 (by decide) ?_
            exact m_reti hx hb hr hlk hM hS ⟨_, rfl, hw⟩ dX12_note_57
          · have hw := hw.2 cq
            refine lv_aload_n hx hb dX12_note_47 rfl (lv_at hl 0 rfl) ?_
            refine lv_iload_n hx hb dX12_note_48 rfl (lv_at hl 2 rfl) ?_
            refine m_ci (m_runV E hM hS cs_X12_324 ho.1 (by decide) rfl rfl (c_X12_ghostsOf ho hw) rfl rfl ⟨Nat.le_of_ble_eq_true rfl, Nat.le_of_ble_eq_true rfl⟩ rfl hl.1 rfl (Nat.le_of_ble_eq_true rfl) dX12_note_49 ⟨Nat.le_of_ble_eq_true rfl, Nat.le_of_ble_eq_true rfl⟩) hS (fun r8 u H locs hp hM hS => ?_)
            obtain ⟨rfl, hw⟩ := hp
            refine lv_goto (tgt := 57) hx hb dX12_note_52 (by decide) ?_
            exact m_reti hx hb hr hlk hM hS ⟨_, rfl, hw⟩ dX12_note_57
        · have hw := hw.2 cq
          refine lv_aload_n hx hb dX12_note_33 rfl (lv_at hl 0 rfl) ?_
          refine lv_iload_n hx hb dX12_note_34 rfl (lv_at hl 2 rfl) ?_
          refine m_ci (m_runV E hM hS cs_X12_318 ho.1 (by decide) rfl rfl (c_X12_notesOf ho hw) rfl rfl ⟨Nat.le_of_ble_eq_true rfl, Nat.le_of_ble_eq_true rfl⟩ rfl hl.1 rfl (Nat.le_of_ble_eq_true rfl) dX12_note_35 ⟨Nat.le_of_ble_eq_true rfl, Nat.le_of_ble_eq_true rfl⟩) hS (fun r9 u H locs hp hM hS => ?_)
          obtain ⟨rfl, hw⟩ := hp
          refine lv_goto (tgt := 57) hx hb dX12_note_38 (by decide) ?_
          exact m_reti hx hb hr hlk hM hS ⟨_, rfl, hw⟩ dX12_note_57
    · have hw := hw.2 (bI_f cq)
      refine lv_bipush (v := (-2)) hx hb dX12_note_16 (by decide) ?_
      exact m_reti hx hb hr hlk hM hS ⟨_, rfl, hw⟩ dX12_note_18
theorem dX12_heardOf_0 : decode cX12_heardOf 0 = .ok (.iconst 0, 1) := by decide +kernel
theorem dX12_heardOf_1 : decode cX12_heardOf 1 = .ok (.istore_n 2, 1) := by decide +kernel
theorem dX12_heardOf_2 : decode cX12_heardOf 2 = .ok (.iconst 0, 1) := by decide +kernel
theorem dX12_heardOf_3 : decode cX12_heardOf 3 = .ok (.istore_n 3, 1) := by decide +kernel
theorem dX12_heardOf_4 : decode cX12_heardOf 4 = .ok (.iload_n 3, 1) := by decide +kernel
theorem dX12_heardOf_5 : decode cX12_heardOf 5 = .ok (.aload_n 0, 1) := by decide +kernel
theorem dX12_heardOf_6 : decode cX12_heardOf 6 = .ok (.getfield 262, 3) := by decide +kernel
theorem dX12_heardOf_9 : decode cX12_heardOf 9 = .ok (.if_icmp .ge 32, 3) := by decide +kernel
theorem dX12_heardOf_12 : decode cX12_heardOf 12 = .ok (.iload_n 2, 1) := by decide +kernel
theorem dX12_heardOf_13 : decode cX12_heardOf 13 = .ok (.aload_n 0, 1) := by decide +kernel
theorem dX12_heardOf_14 : decode cX12_heardOf 14 = .ok (.getfield 20, 3) := by decide +kernel
theorem dX12_heardOf_17 : decode cX12_heardOf 17 = .ok (.iload_n 3, 1) := by decide +kernel
theorem dX12_heardOf_18 : decode cX12_heardOf 18 = .ok (.iaload, 1) := by decide +kernel
theorem dX12_heardOf_19 : decode cX12_heardOf 19 = .ok (.iload_n 1, 1) := by decide +kernel
theorem dX12_heardOf_20 : decode cX12_heardOf 20 = .ok (.if_icmp .ne 12, 3) := by decide +kernel
theorem dX12_heardOf_23 : decode cX12_heardOf 23 = .ok (.aload_n 0, 1) := by decide +kernel
theorem dX12_heardOf_24 : decode cX12_heardOf 24 = .ok (.getfield 38, 3) := by decide +kernel
theorem dX12_heardOf_27 : decode cX12_heardOf 27 = .ok (.iload_n 3, 1) := by decide +kernel
theorem dX12_heardOf_28 : decode cX12_heardOf 28 = .ok (.iaload, 1) := by decide +kernel
theorem dX12_heardOf_29 : decode cX12_heardOf 29 = .ok (.goto 4, 3) := by decide +kernel
theorem dX12_heardOf_32 : decode cX12_heardOf 32 = .ok (.iconst 0, 1) := by decide +kernel
theorem dX12_heardOf_33 : decode cX12_heardOf 33 = .ok (.ior, 1) := by decide +kernel
theorem dX12_heardOf_34 : decode cX12_heardOf 34 = .ok (.istore_n 2, 1) := by decide +kernel
theorem dX12_heardOf_35 : decode cX12_heardOf 35 = .ok (.iinc 3 1, 3) := by decide +kernel
theorem dX12_heardOf_38 : decode cX12_heardOf 38 = .ok (.goto (-34), 3) := by decide +kernel
theorem dX12_heardOf_41 : decode cX12_heardOf 41 = .ok (.iload_n 2, 1) := by decide +kernel
theorem dX12_heardOf_42 : decode cX12_heardOf 42 = .ok (.ireturn, 1) := by decide +kernel
def w_X12_heardOf_4 (I : mI) (o : Nat) (a1 : Int32) (post : Int32 → Prop) (v2 : Int32) (v3 : Int32) : Prop := ∀ ZZ : (Int32 → Int32 → Prop), (∀ (v2 : Int32) (v3 : Int32), (((I o 25) ≤ v3 → post v2) ∧ (¬ (I o 25) ≤ v3 → vp_in v3 640 ∧ (¬ (I (o + 4) v3.toNatClampNeg) = a1 → ∀ x1, x1 = (v2 ||| 0) → ∀ x2, x2 = v3 + 1 → ZZ x1 x2) ∧ ((I (o + 4) v3.toNatClampNeg) = a1 → vp_in v3 640 ∧ ∀ x3, x3 = (v2 ||| (I (o + 10) v3.toNatClampNeg)) → ∀ x4, x4 = v3 + 1 → ZZ x3 x4))) → ZZ v2 v3) → ZZ v2 v3
set_option maxRecDepth 100000 in
set_option maxHeartbeats 4000000 in
theorem s_X12_heardOf_4 {p : Program} {l : Launch} {e : Env} {s : State} {m : MethodId} {args : Array Value} {below : List Frame} {meth : Method} {c : Code} {D : va_G} {cA : Nat → ClassId} {Z : mZ} {bs : Ad} {n : Nat} {K : mK} {R : mR} {I : mI} {L : mL} (E : Ev p s m args c cX12_heardOf 4 RX12 D cA Z bs) (hr : meth.sig.returnType = (some .int)) (hlk : meth.locks = false) {o : Nat} {a1 : Int32} (ho : isX12 K R o) {post : Int32 → Prop} {v2 : Int32} {v3 : Int32} {H : Heap} {locs : List Loc} {ls : Array Slot} (hw : w_X12_heardOf_4 I o a1 post v2 v3) (hM : mm D cA bs (n, K, R, I, L) H) (hS : va_S (Ab bs) s.heap H locs) (hl : lv_has ls 4 [(0, .ref (ad bs o)), (1, .int a1), (2, .int v2), (3, .int v3)]) : W p l e ({ frames := 0, cells := 0, slots := 0, locals := 0 } : Room) s m args below meth c H locs 0 0 (MQ below (QI D cA bs (fun r u => u = (n, K, R, I, L) ∧ post r)) args s 0 0 (Ab bs)) (F0 m 4 ls []) := by
  have hx := E.1.1
  have hb := E.1.2.1
  refine hw (fun v2 v3 => ∀ (H : Heap) (locs : List Loc) (ls : Array Slot), mm D cA bs (n, K, R, I, L) H → va_S (Ab bs) s.heap H locs → lv_has ls 4 [(0, .ref (ad bs o)), (1, .int a1), (2, .int v2), (3, .int v3)] → W p l e ({ frames := 0, cells := 0, slots := 0, locals := 0 } : Room) s m args below meth c H locs 0 0 (MQ below (QI D cA bs (fun r u => u = (n, K, R, I, L) ∧ post r)) args s 0 0 (Ab bs)) (F0 m 4 ls [])) ?_ H locs ls hM hS hl
  clear hw hM hS hl
  intro v2 v3 hw H locs ls hM hS hl
  refine lv_iload_n hx hb dX12_heardOf_4 rfl (lv_at hl 3 rfl) ?_
  refine lv_aload_n hx hb dX12_heardOf_5 rfl (lv_at hl 0 rfl) ?_
  refine m_geti E hM fs_X12_262 ho.1 dX12_heardOf_6 ?_
  refine lv_icmp_ge (tgt := 41) hx hb dX12_heardOf_9 (by decide) (fun cq => ?_) (fun cq => ?_)
  · have hw := hw.1 cq
    refine lv_iload_n hx hb dX12_heardOf_41 rfl (lv_at hl 2 rfl) ?_
    exact m_reti hx hb hr hlk hM hS ⟨rfl, hw⟩ dX12_heardOf_42
  · have hw := hw.2 cq
    refine lv_iload_n hx hb dX12_heardOf_12 rfl (lv_at hl 2 rfl) ?_
    refine lv_aload_n hx hb dX12_heardOf_13 rfl (lv_at hl 0 rfl) ?_
    refine m_getr E hM fs_X12_20 ho.1 (isO_at ho 3 rfl).1 dX12_heardOf_14 ?_
    refine lv_iload_n hx hb dX12_heardOf_17 rfl (lv_at hl 3 rfl) ?_
    obtain ⟨hv, hw⟩ := hw
    refine m_iald E hM (isO_at ho 3 rfl).2 hv dX12_heardOf_18 ?_
    refine lv_iload_n hx hb dX12_heardOf_19 rfl (lv_at hl 1 rfl) ?_
    refine lv_icmp_ne (tgt := 32) hx hb dX12_heardOf_20 (by decide) (fun cq => ?_) (fun cq => ?_)
    · have hw := hw.1 cq
      refine lv_iconst (v := 0) hx hb dX12_heardOf_32 (by decide) ?_
      refine lv_ior hx hb dX12_heardOf_33 ?_
      refine lv_topi (fun x1 ex1 => ?_)
      have hw := hw x1 ex1
      refine lv_istore_n (lv' := [(2, .int x1), (0, .ref (ad bs o)), (1, .int a1), (3, .int v3)]) hx hb dX12_heardOf_34 rfl hl (by decide) rfl (fun ls hl => ?_)
      obtain ⟨x2, ex2⟩ : ∃ y : Int32, y = v3 + 1 := ⟨_, rfl⟩
      have hw := hw x2 ex2
      refine lv_iinc (v := x2) (lv' := [(3, .int x2), (2, .int x1), (0, .ref (ad bs o)), (1, .int a1)]) hx hb dX12_heardOf_35 hl (k := 3) rfl (by rw [ex2]; rfl) (by decide) rfl (fun ls hl => ?_)
      refine lv_goto (tgt := 4) hx hb dX12_heardOf_38 (by decide) ?_
      exact hw H locs ls  hM hS (lv_sub hl [2, 3, 1, 0] rfl)
    · have hw := hw.2 cq
      refine lv_aload_n hx hb dX12_heardOf_23 rfl (lv_at hl 0 rfl) ?_
      refine m_getr E hM fs_X12_38 ho.1 (isO_at ho 9 rfl).1 dX12_heardOf_24 ?_
      refine lv_iload_n hx hb dX12_heardOf_27 rfl (lv_at hl 3 rfl) ?_
      obtain ⟨hv, hw⟩ := hw
      refine m_iald E hM (isO_at ho 9 rfl).2 hv dX12_heardOf_28 ?_
      refine lv_goto (tgt := 33) hx hb dX12_heardOf_29 (by decide) ?_
      refine lv_ior hx hb dX12_heardOf_33 ?_
      refine lv_topi (fun x3 ex3 => ?_)
      have hw := hw x3 ex3
      refine lv_istore_n (lv' := [(2, .int x3), (0, .ref (ad bs o)), (1, .int a1), (3, .int v3)]) hx hb dX12_heardOf_34 rfl hl (by decide) rfl (fun ls hl => ?_)
      obtain ⟨x4, ex4⟩ : ∃ y : Int32, y = v3 + 1 := ⟨_, rfl⟩
      have hw := hw x4 ex4
      refine lv_iinc (v := x4) (lv' := [(3, .int x4), (2, .int x3), (0, .ref (ad bs o)), (1, .int a1)]) hx hb dX12_heardOf_35 hl (k := 3) rfl (by rw [ex4]; rfl) (by decide) rfl (fun ls hl => ?_)
      refine lv_goto (tgt := 4) hx hb dX12_heardOf_38 (by decide) ?_
      exact hw H locs ls  hM hS (lv_sub hl [2, 3, 1, 0] rfl)
def w_X12_heardOf (I : mI) (o : Nat) (a1 : Int32) (post : Int32 → Prop) : Prop := (w_X12_heardOf_4 I o a1 post) 0 0
set_option maxRecDepth 100000 in
set_option maxHeartbeats 4000000 in
theorem c_X12_heardOf {l : Launch} {D : va_G} {cA : Nat → ClassId} {Z : mZ} {bs : Ad} {n : Nat} {K : mK} {R : mR} {I : mI} {L : mL} {o : Nat} {a1 : Int32} {post : Int32 → Prop} (ho : isX12 K R o) (hw : w_X12_heardOf I o a1 post) : Met l yX12_heardOf (.code yX12_heardOf cX12_heardOf 4 (some .int) :: gw) ({ frames := 0, cells := 0, slots := 0, locals := 0 } : Room) (PreM D cA Z bs (n, K, R, I, L) [.ref (ad bs o), .int a1]) (QI D cA bs (fun r u => u = (n, K, R, I, L) ∧ post r)) 0 0 (Ab bs) := by
  refine m_met (by decide) (Nat.le_of_ble_eq_true rfl) (fun p e s m below meth c ls E hr hlk hM hS hl => ?_)
  have E : Ev p s m _ c cX12_heardOf 4 RX12 D cA Z bs := E
  have hl : lv_has ls 4 [(0, .ref (ad bs o)), (1, .int a1)] := hl
  have hx := E.1.1
  have hb := E.1.2.1
  generalize hHe : s.heap = H at hM ⊢
  have hS : va_S (Ab bs) s.heap H [] := by rw [← hHe]; exact va_S.rf
  clear hHe
  refine lv_iconst (v := 0) hx hb dX12_heardOf_0 (by decide) ?_
  refine lv_istore_n (lv' := [(2, .int 0), (0, .ref (ad bs o)), (1, .int a1)]) hx hb dX12_heardOf_1 rfl hl (by decide) rfl (fun ls hl => ?_)
  refine lv_iconst (v := 0) hx hb dX12_heardOf_2 (by decide) ?_
  refine lv_istore_n (lv' := [(3, .int 0), (2, .int 0), (0, .ref (ad bs o)), (1, .int a1)]) hx hb dX12_heardOf_3 rfl hl (by decide) rfl (fun ls hl => ?_)
  exact s_X12_heardOf_4 E hr hlk ho  hw hM hS (lv_sub hl [2, 3, 1, 0] rfl)
