theorem dX7_plan_0 : decode cX7_plan 0 = .ok (.aload_n 1, 1) := by decide +kernel
theorem dX7_plan_1 : decode cX7_plan 1 = .ok (.getfield 46, 3) := by decide +kernel
theorem dX7_plan_4 : decode cX7_plan 4 = .ok (.astore_n 3, 1) := by decide +kernel
theorem dX7_plan_5 : decode cX7_plan 5 = .ok (.aload_n 0, 1) := by decide +kernel
theorem dX7_plan_6 : decode cX7_plan 6 = .ok (.aload_n 0, 1) := by decide +kernel
theorem dX7_plan_7 : decode cX7_plan 7 = .ok (.getfield 34, 3) := by decide +kernel
theorem dX7_plan_10 : decode cX7_plan 10 = .ok (.aload_n 0, 1) := by decide +kernel
theorem dX7_plan_11 : decode cX7_plan 11 = .ok (.getfield 37, 3) := by decide +kernel
theorem dX7_plan_14 : decode cX7_plan 14 = .ok (.if_icmp .ne 7, 3) := by decide +kernel
theorem dX7_plan_17 : decode cX7_plan 17 = .ok (.iconst 0, 1) := by decide +kernel
theorem dX7_plan_18 : decode cX7_plan 18 = .ok (.goto 6, 3) := by decide +kernel
theorem dX7_plan_21 : decode cX7_plan 21 = .ok (.sipush 1000, 3) := by decide +kernel
theorem dX7_plan_24 : decode cX7_plan 24 = .ok (.putfield 51, 3) := by decide +kernel
theorem dX7_plan_27 : decode cX7_plan 27 = .ok (.aload_n 0, 1) := by decide +kernel
theorem dX7_plan_28 : decode cX7_plan 28 = .ok (.aload_n 0, 1) := by decide +kernel
theorem dX7_plan_29 : decode cX7_plan 29 = .ok (.getfield 34, 3) := by decide +kernel
theorem dX7_plan_32 : decode cX7_plan 32 = .ok (.aload_n 0, 1) := by decide +kernel
theorem dX7_plan_33 : decode cX7_plan 33 = .ok (.getfield 37, 3) := by decide +kernel
theorem dX7_plan_36 : decode cX7_plan 36 = .ok (.if_icmp .ne 7, 3) := by decide +kernel
theorem dX7_plan_39 : decode cX7_plan 39 = .ok (.iconst 0, 1) := by decide +kernel
theorem dX7_plan_40 : decode cX7_plan 40 = .ok (.goto 4, 3) := by decide +kernel
theorem dX7_plan_43 : decode cX7_plan 43 = .ok (.iconst (-1), 1) := by decide +kernel
theorem dX7_plan_44 : decode cX7_plan 44 = .ok (.putfield 9, 3) := by decide +kernel
theorem dX7_plan_47 : decode cX7_plan 47 = .ok (.iconst 0, 1) := by decide +kernel
theorem dX7_plan_48 : decode cX7_plan 48 = .ok (.istore 4, 2) := by decide +kernel
theorem dX7_plan_50 : decode cX7_plan 50 = .ok (.iload 4, 2) := by decide +kernel
theorem dX7_plan_52 : decode cX7_plan 52 = .ok (.aload_n 3, 1) := by decide +kernel
theorem dX7_plan_53 : decode cX7_plan 53 = .ok (.getfield 54, 3) := by decide +kernel
theorem dX7_plan_56 : decode cX7_plan 56 = .ok (.if_icmp .ge 32, 3) := by decide +kernel
theorem dX7_plan_59 : decode cX7_plan 59 = .ok (.aload_n 0, 1) := by decide +kernel
theorem dX7_plan_60 : decode cX7_plan 60 = .ok (.getfield 25, 3) := by decide +kernel
theorem dX7_plan_63 : decode cX7_plan 63 = .ok (.iload 4, 2) := by decide +kernel
theorem dX7_plan_65 : decode cX7_plan 65 = .ok (.iload 4, 2) := by decide +kernel
theorem dX7_plan_67 : decode cX7_plan 67 = .ok (.aload_n 0, 1) := by decide +kernel
theorem dX7_plan_68 : decode cX7_plan 68 = .ok (.getfield 34, 3) := by decide +kernel
theorem dX7_plan_71 : decode cX7_plan 71 = .ok (.if_icmp .ne 7, 3) := by decide +kernel
theorem dX7_plan_74 : decode cX7_plan 74 = .ok (.iconst 0, 1) := by decide +kernel
theorem dX7_plan_75 : decode cX7_plan 75 = .ok (.goto 6, 3) := by decide +kernel
theorem dX7_plan_78 : decode cX7_plan 78 = .ok (.sipush 1000, 3) := by decide +kernel
theorem dX7_plan_81 : decode cX7_plan 81 = .ok (.iastore, 1) := by decide +kernel
theorem dX7_plan_82 : decode cX7_plan 82 = .ok (.iinc 4 1, 3) := by decide +kernel
theorem dX7_plan_85 : decode cX7_plan 85 = .ok (.goto (-35), 3) := by decide +kernel
theorem dX7_plan_88 : decode cX7_plan 88 = .ok (.iconst 1, 1) := by decide +kernel
theorem dX7_plan_89 : decode cX7_plan 89 = .ok (.istore 4, 2) := by decide +kernel
theorem dX7_plan_91 : decode cX7_plan 91 = .ok (.iload 4, 2) := by decide +kernel
theorem dX7_plan_93 : decode cX7_plan 93 = .ok (.bipush 60, 2) := by decide +kernel
theorem dX7_plan_95 : decode cX7_plan 95 = .ok (.if_icmp .gt 111, 3) := by decide +kernel
theorem dX7_plan_98 : decode cX7_plan 98 = .ok (.aload_n 0, 1) := by decide +kernel
theorem dX7_plan_99 : decode cX7_plan 99 = .ok (.getfield 51, 3) := by decide +kernel
theorem dX7_plan_102 : decode cX7_plan 102 = .ok (.ifCond .le 104, 3) := by decide +kernel
theorem dX7_plan_105 : decode cX7_plan 105 = .ok (.aload_n 0, 1) := by decide +kernel
theorem dX7_plan_106 : decode cX7_plan 106 = .ok (.aload_n 1, 1) := by decide +kernel
theorem dX7_plan_107 : decode cX7_plan 107 = .ok (.aload_n 2, 1) := by decide +kernel
theorem dX7_plan_108 : decode cX7_plan 108 = .ok (.iload 4, 2) := by decide +kernel
theorem dX7_plan_110 : decode cX7_plan 110 = .ok (.invokevirtual 59, 3) := by decide +kernel
theorem dX7_plan_113 : decode cX7_plan 113 = .ok (.iconst 0, 1) := by decide +kernel
theorem dX7_plan_114 : decode cX7_plan 114 = .ok (.istore 5, 2) := by decide +kernel
theorem dX7_plan_116 : decode cX7_plan 116 = .ok (.iload 5, 2) := by decide +kernel
theorem dX7_plan_118 : decode cX7_plan 118 = .ok (.aload_n 3, 1) := by decide +kernel
theorem dX7_plan_119 : decode cX7_plan 119 = .ok (.getfield 54, 3) := by decide +kernel
theorem dX7_plan_122 : decode cX7_plan 122 = .ok (.if_icmp .ge 31, 3) := by decide +kernel
theorem dX7_plan_125 : decode cX7_plan 125 = .ok (.aload_n 0, 1) := by decide +kernel
theorem dX7_plan_126 : decode cX7_plan 126 = .ok (.getfield 25, 3) := by decide +kernel
theorem dX7_plan_129 : decode cX7_plan 129 = .ok (.iload 4, 2) := by decide +kernel
theorem dX7_plan_131 : decode cX7_plan 131 = .ok (.bipush 24, 2) := by decide +kernel
theorem dX7_plan_133 : decode cX7_plan 133 = .ok (.imul, 1) := by decide +kernel
theorem dX7_plan_134 : decode cX7_plan 134 = .ok (.iload 5, 2) := by decide +kernel
theorem dX7_plan_136 : decode cX7_plan 136 = .ok (.iadd, 1) := by decide +kernel
theorem dX7_plan_137 : decode cX7_plan 137 = .ok (.aload_n 0, 1) := by decide +kernel
theorem dX7_plan_138 : decode cX7_plan 138 = .ok (.aload_n 3, 1) := by decide +kernel
theorem dX7_plan_139 : decode cX7_plan 139 = .ok (.iload 4, 2) := by decide +kernel
theorem dX7_plan_141 : decode cX7_plan 141 = .ok (.iload 5, 2) := by decide +kernel
theorem dX7_plan_143 : decode cX7_plan 143 = .ok (.invokevirtual 63, 3) := by decide +kernel
theorem dX7_plan_146 : decode cX7_plan 146 = .ok (.iastore, 1) := by decide +kernel
theorem dX7_plan_147 : decode cX7_plan 147 = .ok (.iinc 5 1, 3) := by decide +kernel
theorem dX7_plan_150 : decode cX7_plan 150 = .ok (.goto (-34), 3) := by decide +kernel
theorem dX7_plan_153 : decode cX7_plan 153 = .ok (.aload_n 0, 1) := by decide +kernel
theorem dX7_plan_154 : decode cX7_plan 154 = .ok (.getfield 25, 3) := by decide +kernel
theorem dX7_plan_157 : decode cX7_plan 157 = .ok (.iload 4, 2) := by decide +kernel
theorem dX7_plan_159 : decode cX7_plan 159 = .ok (.bipush 24, 2) := by decide +kernel
theorem dX7_plan_161 : decode cX7_plan 161 = .ok (.imul, 1) := by decide +kernel
theorem dX7_plan_162 : decode cX7_plan 162 = .ok (.aload_n 0, 1) := by decide +kernel
theorem dX7_plan_163 : decode cX7_plan 163 = .ok (.getfield 37, 3) := by decide +kernel
theorem dX7_plan_166 : decode cX7_plan 166 = .ok (.iadd, 1) := by decide +kernel
theorem dX7_plan_167 : decode cX7_plan 167 = .ok (.iaload, 1) := by decide +kernel
theorem dX7_plan_168 : decode cX7_plan 168 = .ok (.aload_n 0, 1) := by decide +kernel
theorem dX7_plan_169 : decode cX7_plan 169 = .ok (.getfield 51, 3) := by decide +kernel
theorem dX7_plan_172 : decode cX7_plan 172 = .ok (.if_icmp .ge 28, 3) := by decide +kernel
theorem dX7_plan_175 : decode cX7_plan 175 = .ok (.aload_n 0, 1) := by decide +kernel
theorem dX7_plan_176 : decode cX7_plan 176 = .ok (.aload_n 0, 1) := by decide +kernel
theorem dX7_plan_177 : decode cX7_plan 177 = .ok (.getfield 25, 3) := by decide +kernel
theorem dX7_plan_180 : decode cX7_plan 180 = .ok (.iload 4, 2) := by decide +kernel
theorem dX7_plan_182 : decode cX7_plan 182 = .ok (.bipush 24, 2) := by decide +kernel
theorem dX7_plan_184 : decode cX7_plan 184 = .ok (.imul, 1) := by decide +kernel
theorem dX7_plan_185 : decode cX7_plan 185 = .ok (.aload_n 0, 1) := by decide +kernel
theorem dX7_plan_186 : decode cX7_plan 186 = .ok (.getfield 37, 3) := by decide +kernel
theorem dX7_plan_189 : decode cX7_plan 189 = .ok (.iadd, 1) := by decide +kernel
theorem dX7_plan_190 : decode cX7_plan 190 = .ok (.iaload, 1) := by decide +kernel
theorem dX7_plan_191 : decode cX7_plan 191 = .ok (.putfield 51, 3) := by decide +kernel
theorem dX7_plan_194 : decode cX7_plan 194 = .ok (.aload_n 0, 1) := by decide +kernel
theorem dX7_plan_195 : decode cX7_plan 195 = .ok (.iload 4, 2) := by decide +kernel
theorem dX7_plan_197 : decode cX7_plan 197 = .ok (.putfield 9, 3) := by decide +kernel
theorem dX7_plan_200 : decode cX7_plan 200 = .ok (.iinc 4 1, 3) := by decide +kernel
theorem dX7_plan_203 : decode cX7_plan 203 = .ok (.goto (-112), 3) := by decide +kernel
theorem dX7_plan_206 : decode cX7_plan 206 = .ok (.aload_n 0, 1) := by decide +kernel
theorem dX7_plan_207 : decode cX7_plan 207 = .ok (.getfield 9, 3) := by decide +kernel
theorem dX7_plan_210 : decode cX7_plan 210 = .ok (.iconst (-1), 1) := by decide +kernel
theorem dX7_plan_211 : decode cX7_plan 211 = .ok (.if_icmp .eq 13, 3) := by decide +kernel
theorem dX7_plan_214 : decode cX7_plan 214 = .ok (.aload_n 0, 1) := by decide +kernel
theorem dX7_plan_215 : decode cX7_plan 215 = .ok (.aload_n 3, 1) := by decide +kernel
theorem dX7_plan_216 : decode cX7_plan 216 = .ok (.invokevirtual 67, 3) := by decide +kernel
theorem dX7_plan_219 : decode cX7_plan 219 = .ok (.aload_n 0, 1) := by decide +kernel
theorem dX7_plan_220 : decode cX7_plan 220 = .ok (.aload_n 3, 1) := by decide +kernel
theorem dX7_plan_221 : decode cX7_plan 221 = .ok (.invokevirtual 71, 3) := by decide +kernel
theorem dX7_plan_224 : decode cX7_plan 224 = .ok (.return_, 1) := by decide +kernel
def w_X7_plan_81 (o : Nat) (a1 : Nat) (a1h : Nat) (a2 : Nat) (post : mI → Prop) (k50 : mI → Int32 → Prop) (I : mI) (v4 : Int32) (s1 : Int32) (s2 : Int32) : Prop := vp_in s1 1464 ∧ ∀ I3, I3 = up2 I (o + 3) s1.toNatClampNeg s2 → ∀ x4, x4 = v4 + 1 → k50 I3 x4
set_option maxRecDepth 100000 in
set_option maxHeartbeats 4000000 in
theorem s_X7_plan_81 {p : Program} {l : Launch} {e : Env} {s : State} {m : MethodId} {args : Array Value} {below : List Frame} {meth : Method} {c : Code} {D : va_G} {cA : Nat → ClassId} {Z : mZ} {bs : Ad} {n : Nat} {K : mK} {R : mR} {L : mL} (E : Ev p s m args c cX7_plan 6 RX7 D cA Z bs) (hr : meth.sig.returnType = none) (hlk : meth.locks = false) {o : Nat} {a1 : Nat} {a1h : Nat} {a2 : Nat} (ho : isX7 K R o) (ha1 : isX2 K R a1 a1h) (ha2 : isX4 K R a2) {post : mI → Prop} {k50 : mI → Int32 → Prop} (hk50 : ∀ (I : mI) (v4 : Int32) (H : Heap) (locs : List Loc) (ls : Array Slot), k50 I v4 → mm D cA bs (n, K, R, I, L) H → va_S (Ab bs) s.heap H locs → lv_has ls 6 [(0, .ref (ad bs o)), (1, .ref (ad bs a1)), (2, .ref (ad bs a2)), (3, .ref (ad bs a1h)), (4, .int v4)] → W p l e ({ frames := 3, cells := 0, slots := 0, locals := 92 } : Room) s m args below meth c H locs 0 0 (MQ below (QV D cA bs (fun u => ∃ I', u = (n, K, R, I', L) ∧ post I')) args s 0 0 (Ab bs)) (F0 m 50 ls [])) {I : mI} {v4 : Int32} {s1 : Int32} {s2 : Int32} {H : Heap} {locs : List Loc} {ls : Array Slot} (hw : w_X7_plan_81 o a1 a1h a2 post k50 I v4 s1 s2) (hM : mm D cA bs (n, K, R, I, L) H) (hS : va_S (Ab bs) s.heap H locs) (hl : lv_has ls 6 [(0, .ref (ad bs o)), (1, .ref (ad bs a1)), (2, .ref (ad bs a2)), (3, .ref (ad bs a1h)), (4, .int v4)]) : W p l e ({ frames := 3, cells := 0, slots := 0, locals := 92 } : Room) s m args below meth c H locs 0 0 (MQ below (QV D cA bs (fun u => ∃ I', u = (n, K, R, I', L) ∧ post I')) args s 0 0 (Ab bs)) (F0 m 81 ls [.int s2, .int s1, .ref (ad bs (o + 3))]) := by
  have hx := E.1.1
  have hb := E.1.2.1
  obtain ⟨hv, hw⟩ := hw
  refine m_iast E hM hS (isO_at ho 2 rfl).2 hv dX7_plan_81 (fun I3 H locs eI3 hM hS => ?_)
  have hw := hw I3 eI3
  obtain ⟨x4, ex4⟩ : ∃ y : Int32, y = v4 + 1 := ⟨_, rfl⟩
  have hw := hw x4 ex4
  refine lv_iinc (v := x4) (lv' := [(4, .int x4), (0, .ref (ad bs o)), (1, .ref (ad bs a1)), (2, .ref (ad bs a2)), (3, .ref (ad bs a1h))]) hx hb dX7_plan_82 hl (k := 4) rfl (by rw [ex4]; rfl) (by decide) rfl (fun ls hl => ?_)
  refine lv_goto (tgt := 50) hx hb dX7_plan_85 (by decide) ?_
  exact hk50 _ _ H locs ls  hw hM hS (lv_sub hl [1, 2, 3, 4, 0] rfl)
def w_X7_plan_50 (o : Nat) (a1 : Nat) (a1h : Nat) (a2 : Nat) (post : mI → Prop) (k91 : mI → Int32 → Prop) (I : mI) (v4 : Int32) : Prop := ∀ ZZ : (mI → Int32 → Prop), (∀ (I : mI) (v4 : Int32), (((I a1h 0) ≤ v4 → k91 I 1) ∧ (¬ (I a1h 0) ≤ v4 → (¬ v4 = (I o 5) → (w_X7_plan_81 o a1 a1h a2 post ZZ) I v4 v4 1000) ∧ (v4 = (I o 5) → (w_X7_plan_81 o a1 a1h a2 post ZZ) I v4 v4 0))) → ZZ I v4) → ZZ I v4
set_option maxRecDepth 100000 in
set_option maxHeartbeats 4000000 in
theorem s_X7_plan_50 {p : Program} {l : Launch} {e : Env} {s : State} {m : MethodId} {args : Array Value} {below : List Frame} {meth : Method} {c : Code} {D : va_G} {cA : Nat → ClassId} {Z : mZ} {bs : Ad} {n : Nat} {K : mK} {R : mR} {L : mL} (E : Ev p s m args c cX7_plan 6 RX7 D cA Z bs) (hr : meth.sig.returnType = none) (hlk : meth.locks = false) {o : Nat} {a1 : Nat} {a1h : Nat} {a2 : Nat} (ho : isX7 K R o) (ha1 : isX2 K R a1 a1h) (ha2 : isX4 K R a2) {post : mI → Prop} {k91 : mI → Int32 → Prop} (hk91 : ∀ (I : mI) (v4 : Int32) (H : Heap) (locs : List Loc) (ls : Array Slot), k91 I v4 → mm D cA bs (n, K, R, I, L) H → va_S (Ab bs) s.heap H locs → lv_has ls 6 [(0, .ref (ad bs o)), (1, .ref (ad bs a1)), (2, .ref (ad bs a2)), (3, .ref (ad bs a1h)), (4, .int v4)] → W p l e ({ frames := 3, cells := 0, slots := 0, locals := 92 } : Room) s m args below meth c H locs 0 0 (MQ below (QV D cA bs (fun u => ∃ I', u = (n, K, R, I', L) ∧ post I')) args s 0 0 (Ab bs)) (F0 m 91 ls [])) {I : mI} {v4 : Int32} {H : Heap} {locs : List Loc} {ls : Array Slot} (hw : w_X7_plan_50 o a1 a1h a2 post k91 I v4) (hM : mm D cA bs (n, K, R, I, L) H) (hS : va_S (Ab bs) s.heap H locs) (hl : lv_has ls 6 [(0, .ref (ad bs o)), (1, .ref (ad bs a1)), (2, .ref (ad bs a2)), (3, .ref (ad bs a1h)), (4, .int v4)]) : W p l e ({ frames := 3, cells := 0, slots := 0, locals := 92 } : Room) s m args below meth c H locs 0 0 (MQ below (QV D cA bs (fun u => ∃ I', u = (n, K, R, I', L) ∧ post I')) args s 0 0 (Ab bs)) (F0 m 50 ls []) := by
  have hx := E.1.1
  have hb := E.1.2.1
  refine hw (fun I v4 => ∀ (H : Heap) (locs : List Loc) (ls : Array Slot), mm D cA bs (n, K, R, I, L) H → va_S (Ab bs) s.heap H locs → lv_has ls 6 [(0, .ref (ad bs o)), (1, .ref (ad bs a1)), (2, .ref (ad bs a2)), (3, .ref (ad bs a1h)), (4, .int v4)] → W p l e ({ frames := 3, cells := 0, slots := 0, locals := 92 } : Room) s m args below meth c H locs 0 0 (MQ below (QV D cA bs (fun u => ∃ I', u = (n, K, R, I', L) ∧ post I')) args s 0 0 (Ab bs)) (F0 m 50 ls [])) ?_ H locs ls hM hS hl
  clear hw hM hS hl
  intro I v4 hw H locs ls hM hS hl
  refine lv_iload hx hb dX7_plan_50 (lv_at hl 4 rfl) ?_
  refine lv_aload_n hx hb dX7_plan_52 rfl (lv_at hl 3 rfl) ?_
  refine m_geti E hM fs_X7_54 ha1.2.2.1 dX7_plan_53 ?_
  refine lv_icmp_ge (tgt := 88) hx hb dX7_plan_56 (by decide) (fun cq => ?_) (fun cq => ?_)
  · have hw := hw.1 cq
    refine lv_iconst (v := 1) hx hb dX7_plan_88 (by decide) ?_
    refine lv_istore (lv' := [(4, .int 1), (0, .ref (ad bs o)), (1, .ref (ad bs a1)), (2, .ref (ad bs a2)), (3, .ref (ad bs a1h))]) hx hb dX7_plan_89 hl (by decide) rfl (fun ls hl => ?_)
    exact hk91 _ _ H locs ls  hw hM hS (lv_sub hl [1, 2, 3, 4, 0] rfl)
  · have hw := hw.2 cq
    refine lv_aload_n hx hb dX7_plan_59 rfl (lv_at hl 0 rfl) ?_
    refine m_getr E hM fs_X7_25 ho.1 (isO_at ho 2 rfl).1 dX7_plan_60 ?_
    refine lv_iload hx hb dX7_plan_63 (lv_at hl 4 rfl) ?_
    refine lv_iload hx hb dX7_plan_65 (lv_at hl 4 rfl) ?_
    refine lv_aload_n hx hb dX7_plan_67 rfl (lv_at hl 0 rfl) ?_
    refine m_geti E hM fs_X7_34 ho.1 dX7_plan_68 ?_
    refine lv_icmp_ne (tgt := 78) hx hb dX7_plan_71 (by decide) (fun cq => ?_) (fun cq => ?_)
    · have hw := hw.1 cq
      refine lv_sipush (v := 1000) hx hb dX7_plan_78 (by decide) ?_
      exact s_X7_plan_81 E hr hlk ho ha1 ha2 (fun I v4 H locs ls  hw hM hS hl => hw H locs ls  hM hS hl)  hw hM hS (lv_sub hl [0, 1, 2, 3, 4] rfl)
    · have hw := hw.2 cq
      refine lv_iconst (v := 0) hx hb dX7_plan_74 (by decide) ?_
      refine lv_goto (tgt := 81) hx hb dX7_plan_75 (by decide) ?_
      exact s_X7_plan_81 E hr hlk ho ha1 ha2 (fun I v4 H locs ls  hw hM hS hl => hw H locs ls  hM hS hl)  hw hM hS (lv_sub hl [0, 1, 2, 3, 4] rfl)
def w_X7_plan_116 (o : Nat) (a1 : Nat) (a1h : Nat) (a2 : Nat) (post : mI → Prop) (k153 : mI → Int32 → Prop) (I : mI) (v4 : Int32) (v5 : Int32) : Prop := ∀ ZZ : (mI → Int32 → Int32 → Prop), (∀ (I : mI) (v4 : Int32) (v5 : Int32), (((I a1h 0) ≤ v5 → k153 I v4) ∧ (¬ (I a1h 0) ≤ v5 → w_X7_leastAt I o a1h v4 v5 (fun r6 => vp_in ((v4 * 24) + v5) 1464 ∧ ∀ I7, I7 = up2 I (o + 3) (((v4 * 24) + v5).toNatClampNeg) r6 → ∀ x8, x8 = v5 + 1 → ZZ I7 v4 x8))) → ZZ I v4 v5) → ZZ I v4 v5
set_option maxRecDepth 100000 in
set_option maxHeartbeats 4000000 in
theorem s_X7_plan_116 {p : Program} {l : Launch} {e : Env} {s : State} {m : MethodId} {args : Array Value} {below : List Frame} {meth : Method} {c : Code} {D : va_G} {cA : Nat → ClassId} {Z : mZ} {bs : Ad} {n : Nat} {K : mK} {R : mR} {L : mL} (E : Ev p s m args c cX7_plan 6 RX7 D cA Z bs) (hr : meth.sig.returnType = none) (hlk : meth.locks = false) {o : Nat} {a1 : Nat} {a1h : Nat} {a2 : Nat} (ho : isX7 K R o) (ha1 : isX2 K R a1 a1h) (ha2 : isX4 K R a2) {post : mI → Prop} {k153 : mI → Int32 → Prop} (hk153 : ∀ (I : mI) (v4 : Int32) (H : Heap) (locs : List Loc) (ls : Array Slot), k153 I v4 → mm D cA bs (n, K, R, I, L) H → va_S (Ab bs) s.heap H locs → lv_has ls 6 [(0, .ref (ad bs o)), (1, .ref (ad bs a1)), (2, .ref (ad bs a2)), (3, .ref (ad bs a1h)), (4, .int v4)] → W p l e ({ frames := 3, cells := 0, slots := 0, locals := 92 } : Room) s m args below meth c H locs 0 0 (MQ below (QV D cA bs (fun u => ∃ I', u = (n, K, R, I', L) ∧ post I')) args s 0 0 (Ab bs)) (F0 m 153 ls [])) {I : mI} {v4 : Int32} {v5 : Int32} {H : Heap} {locs : List Loc} {ls : Array Slot} (hw : w_X7_plan_116 o a1 a1h a2 post k153 I v4 v5) (hM : mm D cA bs (n, K, R, I, L) H) (hS : va_S (Ab bs) s.heap H locs) (hl : lv_has ls 6 [(0, .ref (ad bs o)), (1, .ref (ad bs a1)), (2, .ref (ad bs a2)), (3, .ref (ad bs a1h)), (4, .int v4), (5, .int v5)]) : W p l e ({ frames := 3, cells := 0, slots := 0, locals := 92 } : Room) s m args below meth c H locs 0 0 (MQ below (QV D cA bs (fun u => ∃ I', u = (n, K, R, I', L) ∧ post I')) args s 0 0 (Ab bs)) (F0 m 116 ls []) := by
  have hx := E.1.1
  have hb := E.1.2.1
  refine hw (fun I v4 v5 => ∀ (H : Heap) (locs : List Loc) (ls : Array Slot), mm D cA bs (n, K, R, I, L) H → va_S (Ab bs) s.heap H locs → lv_has ls 6 [(0, .ref (ad bs o)), (1, .ref (ad bs a1)), (2, .ref (ad bs a2)), (3, .ref (ad bs a1h)), (4, .int v4), (5, .int v5)] → W p l e ({ frames := 3, cells := 0, slots := 0, locals := 92 } : Room) s m args below meth c H locs 0 0 (MQ below (QV D cA bs (fun u => ∃ I', u = (n, K, R, I', L) ∧ post I')) args s 0 0 (Ab bs)) (F0 m 116 ls [])) ?_ H locs ls hM hS hl
  clear hw hM hS hl
  intro I v4 v5 hw H locs ls hM hS hl
  refine lv_iload hx hb dX7_plan_116 (lv_at hl 5 rfl) ?_
  refine lv_aload_n hx hb dX7_plan_118 rfl (lv_at hl 3 rfl) ?_
  refine m_geti E hM fs_X7_54 ha1.2.2.1 dX7_plan_119 ?_
  refine lv_icmp_ge (tgt := 153) hx hb dX7_plan_122 (by decide) (fun cq => ?_) (fun cq => ?_)
  · have hw := hw.1 cq
    exact hk153 _ _ H locs ls  hw hM hS (lv_sub hl [0, 1, 2, 3, 4] rfl)
  · have hw := hw.2 cq
    refine lv_aload_n hx hb dX7_plan_125 rfl (lv_at hl 0 rfl) ?_
    refine m_getr E hM fs_X7_25 ho.1 (isO_at ho 2 rfl).1 dX7_plan_126 ?_
    refine lv_iload hx hb dX7_plan_129 (lv_at hl 4 rfl) ?_
    refine lv_bipush (v := 24) hx hb dX7_plan_131 (by decide) ?_
    refine lv_imul hx hb dX7_plan_133 ?_
    refine lv_iload hx hb dX7_plan_134 (lv_at hl 5 rfl) ?_
    refine lv_iadd hx hb dX7_plan_136 ?_
    refine lv_aload_n hx hb dX7_plan_137 rfl (lv_at hl 0 rfl) ?_
    refine lv_aload_n hx hb dX7_plan_138 rfl (lv_at hl 3 rfl) ?_
    refine lv_iload hx hb dX7_plan_139 (lv_at hl 4 rfl) ?_
    refine lv_iload hx hb dX7_plan_141 (lv_at hl 5 rfl) ?_
    refine m_ci (m_runV E hM hS cs_X7_63 ho.1 (by decide) rfl rfl (c_X7_leastAt ho ha1.2.2 hw) rfl rfl ⟨Nat.le_of_ble_eq_true rfl, Nat.le_of_ble_eq_true rfl⟩ rfl hl.1 rfl (Nat.le_of_ble_eq_true rfl) dX7_plan_143 ⟨Nat.le_of_ble_eq_true rfl, Nat.le_of_ble_eq_true rfl⟩) hS (fun r6 u H locs hp hM hS => ?_)
    obtain ⟨rfl, hw⟩ := hp
    obtain ⟨hv, hw⟩ := hw
    refine m_iast E hM hS (isO_at ho 2 rfl).2 hv dX7_plan_146 (fun I7 H locs eI7 hM hS => ?_)
    have hw := hw I7 eI7
    obtain ⟨x8, ex8⟩ : ∃ y : Int32, y = v5 + 1 := ⟨_, rfl⟩
    have hw := hw x8 ex8
    refine lv_iinc (v := x8) (lv' := [(5, .int x8), (0, .ref (ad bs o)), (1, .ref (ad bs a1)), (2, .ref (ad bs a2)), (3, .ref (ad bs a1h)), (4, .int v4)]) hx hb dX7_plan_147 hl (k := 5) rfl (by rw [ex8]; rfl) (by decide) rfl (fun ls hl => ?_)
    refine lv_goto (tgt := 116) hx hb dX7_plan_150 (by decide) ?_
    exact hw H locs ls  hM hS (lv_sub hl [1, 2, 3, 4, 5, 0] rfl)
def w_X7_plan_153 (o : Nat) (a1 : Nat) (a1h : Nat) (a2 : Nat) (post : mI → Prop) (k91 : mI → Int32 → Prop) (I : mI) (v4 : Int32) : Prop := vp_in ((v4 * 24) + (I o 6)) 1464 ∧ ((I o 0) ≤ (I (o + 3) ((v4 * 24) + (I o 6)).toNatClampNeg) → ∀ x9, x9 = v4 + 1 → k91 I x9) ∧ (¬ (I o 0) ≤ (I (o + 3) ((v4 * 24) + (I o 6)).toNatClampNeg) → vp_in ((v4 * 24) + (I o 6)) 1464 ∧ ∀ I10, I10 = up2 I o 0 (I (o + 3) ((v4 * 24) + (I o 6)).toNatClampNeg) → ∀ I11, I11 = up2 I10 o 1 v4 → ∀ x12, x12 = v4 + 1 → k91 I11 x12)
set_option maxRecDepth 100000 in
set_option maxHeartbeats 4000000 in
theorem s_X7_plan_153 {p : Program} {l : Launch} {e : Env} {s : State} {m : MethodId} {args : Array Value} {below : List Frame} {meth : Method} {c : Code} {D : va_G} {cA : Nat → ClassId} {Z : mZ} {bs : Ad} {n : Nat} {K : mK} {R : mR} {L : mL} (E : Ev p s m args c cX7_plan 6 RX7 D cA Z bs) (hr : meth.sig.returnType = none) (hlk : meth.locks = false) {o : Nat} {a1 : Nat} {a1h : Nat} {a2 : Nat} (ho : isX7 K R o) (ha1 : isX2 K R a1 a1h) (ha2 : isX4 K R a2) {post : mI → Prop} {k91 : mI → Int32 → Prop} (hk91 : ∀ (I : mI) (v4 : Int32) (H : Heap) (locs : List Loc) (ls : Array Slot), k91 I v4 → mm D cA bs (n, K, R, I, L) H → va_S (Ab bs) s.heap H locs → lv_has ls 6 [(0, .ref (ad bs o)), (1, .ref (ad bs a1)), (2, .ref (ad bs a2)), (3, .ref (ad bs a1h)), (4, .int v4)] → W p l e ({ frames := 3, cells := 0, slots := 0, locals := 92 } : Room) s m args below meth c H locs 0 0 (MQ below (QV D cA bs (fun u => ∃ I', u = (n, K, R, I', L) ∧ post I')) args s 0 0 (Ab bs)) (F0 m 91 ls [])) {I : mI} {v4 : Int32} {H : Heap} {locs : List Loc} {ls : Array Slot} (hw : w_X7_plan_153 o a1 a1h a2 post k91 I v4) (hM : mm D cA bs (n, K, R, I, L) H) (hS : va_S (Ab bs) s.heap H locs) (hl : lv_has ls 6 [(0, .ref (ad bs o)), (1, .ref (ad bs a1)), (2, .ref (ad bs a2)), (3, .ref (ad bs a1h)), (4, .int v4)]) : W p l e ({ frames := 3, cells := 0, slots := 0, locals := 92 } : Room) s m args below meth c H locs 0 0 (MQ below (QV D cA bs (fun u => ∃ I', u = (n, K, R, I', L) ∧ post I')) args s 0 0 (Ab bs)) (F0 m 153 ls []) := by
  have hx := E.1.1
  have hb := E.1.2.1
  refine lv_aload_n hx hb dX7_plan_153 rfl (lv_at hl 0 rfl) ?_
  refine m_getr E hM fs_X7_25 ho.1 (isO_at ho 2 rfl).1 dX7_plan_154 ?_
  refine lv_iload hx hb dX7_plan_157 (lv_at hl 4 rfl) ?_
  refine lv_bipush (v := 24) hx hb dX7_plan_159 (by decide) ?_
  refine lv_imul hx hb dX7_plan_161 ?_
  refine lv_aload_n hx hb dX7_plan_162 rfl (lv_at hl 0 rfl) ?_
  refine m_geti E hM fs_X7_37 ho.1 dX7_plan_163 ?_
  refine lv_iadd hx hb dX7_plan_166 ?_
  obtain ⟨hv, hw⟩ := hw
  refine m_iald E hM (isO_at ho 2 rfl).2 hv dX7_plan_167 ?_
  refine lv_aload_n hx hb dX7_plan_168 rfl (lv_at hl 0 rfl) ?_
  refine m_geti E hM fs_X7_51 ho.1 dX7_plan_169 ?_
  refine lv_icmp_ge (tgt := 200) hx hb dX7_plan_172 (by decide) (fun cq => ?_) (fun cq => ?_)
  · have hw := hw.1 cq
    obtain ⟨x9, ex9⟩ : ∃ y : Int32, y = v4 + 1 := ⟨_, rfl⟩
    have hw := hw x9 ex9
    refine lv_iinc (v := x9) (lv' := [(4, .int x9), (0, .ref (ad bs o)), (1, .ref (ad bs a1)), (2, .ref (ad bs a2)), (3, .ref (ad bs a1h))]) hx hb dX7_plan_200 hl (k := 4) rfl (by rw [ex9]; rfl) (by decide) rfl (fun ls hl => ?_)
    refine lv_goto (tgt := 91) hx hb dX7_plan_203 (by decide) ?_
    exact hk91 _ _ H locs ls  hw hM hS (lv_sub hl [1, 2, 3, 4, 0] rfl)
  · have hw := hw.2 cq
    refine lv_aload_n hx hb dX7_plan_175 rfl (lv_at hl 0 rfl) ?_
    refine lv_aload_n hx hb dX7_plan_176 rfl (lv_at hl 0 rfl) ?_
    refine m_getr E hM fs_X7_25 ho.1 (isO_at ho 2 rfl).1 dX7_plan_177 ?_
    refine lv_iload hx hb dX7_plan_180 (lv_at hl 4 rfl) ?_
    refine lv_bipush (v := 24) hx hb dX7_plan_182 (by decide) ?_
    refine lv_imul hx hb dX7_plan_184 ?_
    refine lv_aload_n hx hb dX7_plan_185 rfl (lv_at hl 0 rfl) ?_
    refine m_geti E hM fs_X7_37 ho.1 dX7_plan_186 ?_
    refine lv_iadd hx hb dX7_plan_189 ?_
    obtain ⟨hv, hw⟩ := hw
    refine m_iald E hM (isO_at ho 2 rfl).2 hv dX7_plan_190 ?_
    refine m_puti E hM hS fp_X7_51 ho.1 rfl rfl dX7_plan_191 (fun I10 H locs eI10 hM hS => ?_)
    have hw := hw I10 eI10
    refine lv_aload_n hx hb dX7_plan_194 rfl (lv_at hl 0 rfl) ?_
    refine lv_iload hx hb dX7_plan_195 (lv_at hl 4 rfl) ?_
    refine m_puti E hM hS fp_X7_9 ho.1 rfl rfl dX7_plan_197 (fun I11 H locs eI11 hM hS => ?_)
    have hw := hw I11 eI11
    obtain ⟨x12, ex12⟩ : ∃ y : Int32, y = v4 + 1 := ⟨_, rfl⟩
    have hw := hw x12 ex12
    refine lv_iinc (v := x12) (lv' := [(4, .int x12), (0, .ref (ad bs o)), (1, .ref (ad bs a1)), (2, .ref (ad bs a2)), (3, .ref (ad bs a1h))]) hx hb dX7_plan_200 hl (k := 4) rfl (by rw [ex12]; rfl) (by decide) rfl (fun ls hl => ?_)
    refine lv_goto (tgt := 91) hx hb dX7_plan_203 (by decide) ?_
    exact hk91 _ _ H locs ls  hw hM hS (lv_sub hl [1, 2, 3, 4, 0] rfl)
def w_X7_plan_91 (o : Nat) (a1 : Nat) (a1h : Nat) (a2 : Nat) (post : mI → Prop) (k206 : mI → Prop) (I : mI) (v4 : Int32) : Prop := ∀ ZZ : (mI → Int32 → Prop), (∀ (I : mI) (v4 : Int32), ((60 < v4 → k206 I) ∧ (¬ 60 < v4 → ((I o 0) ≤ 0 → k206 I) ∧ (¬ (I o 0) ≤ 0 → w_X7_setPrices I o a1 a1h a2 v4 (fun I5 => (w_X7_plan_116 o a1 a1h a2 post (w_X7_plan_153 o a1 a1h a2 post ZZ)) I5 v4 0)))) → ZZ I v4) → ZZ I v4
set_option maxRecDepth 100000 in
set_option maxHeartbeats 4000000 in
theorem s_X7_plan_91 {p : Program} {l : Launch} {e : Env} {s : State} {m : MethodId} {args : Array Value} {below : List Frame} {meth : Method} {c : Code} {D : va_G} {cA : Nat → ClassId} {Z : mZ} {bs : Ad} {n : Nat} {K : mK} {R : mR} {L : mL} (E : Ev p s m args c cX7_plan 6 RX7 D cA Z bs) (hr : meth.sig.returnType = none) (hlk : meth.locks = false) {o : Nat} {a1 : Nat} {a1h : Nat} {a2 : Nat} (ho : isX7 K R o) (ha1 : isX2 K R a1 a1h) (ha2 : isX4 K R a2) {post : mI → Prop} {k206 : mI → Prop} (hk206 : ∀ (I : mI) (H : Heap) (locs : List Loc) (ls : Array Slot), k206 I → mm D cA bs (n, K, R, I, L) H → va_S (Ab bs) s.heap H locs → lv_has ls 6 [(0, .ref (ad bs o)), (3, .ref (ad bs a1h))] → W p l e ({ frames := 3, cells := 0, slots := 0, locals := 92 } : Room) s m args below meth c H locs 0 0 (MQ below (QV D cA bs (fun u => ∃ I', u = (n, K, R, I', L) ∧ post I')) args s 0 0 (Ab bs)) (F0 m 206 ls [])) {I : mI} {v4 : Int32} {H : Heap} {locs : List Loc} {ls : Array Slot} (hw : w_X7_plan_91 o a1 a1h a2 post k206 I v4) (hM : mm D cA bs (n, K, R, I, L) H) (hS : va_S (Ab bs) s.heap H locs) (hl : lv_has ls 6 [(0, .ref (ad bs o)), (1, .ref (ad bs a1)), (2, .ref (ad bs a2)), (3, .ref (ad bs a1h)), (4, .int v4)]) : W p l e ({ frames := 3, cells := 0, slots := 0, locals := 92 } : Room) s m args below meth c H locs 0 0 (MQ below (QV D cA bs (fun u => ∃ I', u = (n, K, R, I', L) ∧ post I')) args s 0 0 (Ab bs)) (F0 m 91 ls []) := by
  have hx := E.1.1
  have hb := E.1.2.1
  refine hw (fun I v4 => ∀ (H : Heap) (locs : List Loc) (ls : Array Slot), mm D cA bs (n, K, R, I, L) H → va_S (Ab bs) s.heap H locs → lv_has ls 6 [(0, .ref (ad bs o)), (1, .ref (ad bs a1)), (2, .ref (ad bs a2)), (3, .ref (ad bs a1h)), (4, .int v4)] → W p l e ({ frames := 3, cells := 0, slots := 0, locals := 92 } : Room) s m args below meth c H locs 0 0 (MQ below (QV D cA bs (fun u => ∃ I', u = (n, K, R, I', L) ∧ post I')) args s 0 0 (Ab bs)) (F0 m 91 ls [])) ?_ H locs ls hM hS hl
  clear hw hM hS hl
  intro I v4 hw H locs ls hM hS hl
  refine lv_iload hx hb dX7_plan_91 (lv_at hl 4 rfl) ?_
  refine lv_bipush (v := 60) hx hb dX7_plan_93 (by decide) ?_
  refine lv_icmp_gt (tgt := 206) hx hb dX7_plan_95 (by decide) (fun cq => ?_) (fun cq => ?_)
  · have hw := hw.1 cq
    exact hk206 _ H locs ls  hw hM hS (lv_sub hl [0, 3] rfl)
  · have hw := hw.2 cq
    refine lv_aload_n hx hb dX7_plan_98 rfl (lv_at hl 0 rfl) ?_
    refine m_geti E hM fs_X7_51 ho.1 dX7_plan_99 ?_
    refine lv_if_le (tgt := 206) hx hb dX7_plan_102 (by decide) (fun cq => ?_) (fun cq => ?_)
    · have hw := hw.1 cq
      exact hk206 _ H locs ls  hw hM hS (lv_sub hl [0, 3] rfl)
    · have hw := hw.2 cq
      refine lv_aload_n hx hb dX7_plan_105 rfl (lv_at hl 0 rfl) ?_
      refine lv_aload_n hx hb dX7_plan_106 rfl (lv_at hl 1 rfl) ?_
      refine lv_aload_n hx hb dX7_plan_107 rfl (lv_at hl 2 rfl) ?_
      refine lv_iload hx hb dX7_plan_108 (lv_at hl 4 rfl) ?_
      refine m_cv (m_runV E hM hS cs_X7_59 ho.1 (by decide) rfl rfl (c_X7_setPrices ho ha1 ha2 hw) rfl rfl ⟨Nat.le_of_ble_eq_true rfl, Nat.le_of_ble_eq_true rfl⟩ rfl hl.1 rfl (Nat.le_of_ble_eq_true rfl) dX7_plan_110 ⟨Nat.le_of_ble_eq_true rfl, Nat.le_of_ble_eq_true rfl⟩) hS (fun u H locs hp hM hS => ?_)
      obtain ⟨I5, rfl, hw⟩ := hp
      refine lv_iconst (v := 0) hx hb dX7_plan_113 (by decide) ?_
      refine lv_istore (lv' := [(5, .int 0), (0, .ref (ad bs o)), (1, .ref (ad bs a1)), (2, .ref (ad bs a2)), (3, .ref (ad bs a1h)), (4, .int v4)]) hx hb dX7_plan_114 hl (by decide) rfl (fun ls hl => ?_)
      exact s_X7_plan_116 E hr hlk ho ha1 ha2 (fun I v4 H locs ls  hw hM hS hl => s_X7_plan_153 E hr hlk ho ha1 ha2 (fun I v4 H locs ls  hw hM hS hl => hw H locs ls  hM hS hl)  hw hM hS hl)  hw hM hS (lv_sub hl [1, 2, 3, 4, 5, 0] rfl)
def w_X7_plan_206 (o : Nat) (a1 : Nat) (a1h : Nat) (a2 : Nat) (post : mI → Prop) (I : mI) : Prop := ((I o 1) = (-1) → post I) ∧ (¬ (I o 1) = (-1) → w_X7_markUseful I o a1h (fun I13 => w_X7_layRow I13 o a1h (fun I14 => post I14)))
set_option maxRecDepth 100000 in
set_option maxHeartbeats 4000000 in
theorem s_X7_plan_206 {p : Program} {l : Launch} {e : Env} {s : State} {m : MethodId} {args : Array Value} {below : List Frame} {meth : Method} {c : Code} {D : va_G} {cA : Nat → ClassId} {Z : mZ} {bs : Ad} {n : Nat} {K : mK} {R : mR} {L : mL} (E : Ev p s m args c cX7_plan 6 RX7 D cA Z bs) (hr : meth.sig.returnType = none) (hlk : meth.locks = false) {o : Nat} {a1 : Nat} {a1h : Nat} {a2 : Nat} (ho : isX7 K R o) (ha1 : isX2 K R a1 a1h) (ha2 : isX4 K R a2) {post : mI → Prop} {I : mI} {H : Heap} {locs : List Loc} {ls : Array Slot} (hw : w_X7_plan_206 o a1 a1h a2 post I) (hM : mm D cA bs (n, K, R, I, L) H) (hS : va_S (Ab bs) s.heap H locs) (hl : lv_has ls 6 [(0, .ref (ad bs o)), (3, .ref (ad bs a1h))]) : W p l e ({ frames := 3, cells := 0, slots := 0, locals := 92 } : Room) s m args below meth c H locs 0 0 (MQ below (QV D cA bs (fun u => ∃ I', u = (n, K, R, I', L) ∧ post I')) args s 0 0 (Ab bs)) (F0 m 206 ls []) := by
  have hx := E.1.1
  have hb := E.1.2.1
  refine lv_aload_n hx hb dX7_plan_206 rfl (lv_at hl 0 rfl) ?_
  refine m_geti E hM fs_X7_9 ho.1 dX7_plan_207 ?_
  refine lv_iconst (v := (-1)) hx hb dX7_plan_210 (by decide) ?_
  refine lv_icmp_eq (tgt := 224) hx hb dX7_plan_211 (by decide) (fun cq => ?_) (fun cq => ?_)
  · have hw := hw.1 cq
    exact m_retv hx hb hr hlk hM hS ⟨_, rfl, hw⟩ dX7_plan_224
  · have hw := hw.2 cq
    refine lv_aload_n hx hb dX7_plan_214 rfl (lv_at hl 0 rfl) ?_
    refine lv_aload_n hx hb dX7_plan_215 rfl (lv_at hl 1 rfl) ?_
    refine m_cv (m_runV E hM hS cs_X7_67 ho.1 (by decide) rfl rfl (c_X7_markUseful ho ha1.2.2 hw) rfl rfl ⟨Nat.le_of_ble_eq_true rfl, Nat.le_of_ble_eq_true rfl⟩ rfl hl.1 rfl (Nat.le_of_ble_eq_true rfl) dX7_plan_216 ⟨Nat.le_of_ble_eq_true rfl, Nat.le_of_ble_eq_true rfl⟩) hS (fun u H locs hp hM hS => ?_)
    obtain ⟨I13, rfl, hw⟩ := hp
    refine lv_aload_n hx hb dX7_plan_219 rfl (lv_at hl 0 rfl) ?_
    refine lv_aload_n hx hb dX7_plan_220 rfl (lv_at hl 1 rfl) ?_
    refine m_cv (m_runV E hM hS cs_X7_71 ho.1 (by decide) rfl rfl (c_X7_layRow ho ha1.2.2 hw) rfl rfl ⟨Nat.le_of_ble_eq_true rfl, Nat.le_of_ble_eq_true rfl⟩ rfl hl.1 rfl (Nat.le_of_ble_eq_true rfl) dX7_plan_221 ⟨Nat.le_of_ble_eq_true rfl, Nat.le_of_ble_eq_true rfl⟩) hS (fun u H locs hp hM hS => ?_)
    obtain ⟨I14, rfl, hw⟩ := hp
    exact m_retv hx hb hr hlk hM hS ⟨_, rfl, hw⟩ dX7_plan_224
def w_X7_plan_44 (o : Nat) (a1 : Nat) (a1h : Nat) (a2 : Nat) (post : mI → Prop) (I : mI) (s1 : Int32) : Prop := ∀ I2, I2 = up2 I o 1 s1 → (w_X7_plan_50 o a1 a1h a2 post (w_X7_plan_91 o a1 a1h a2 post (w_X7_plan_206 o a1 a1h a2 post))) I2 0
set_option maxRecDepth 100000 in
set_option maxHeartbeats 4000000 in
theorem s_X7_plan_44 {p : Program} {l : Launch} {e : Env} {s : State} {m : MethodId} {args : Array Value} {below : List Frame} {meth : Method} {c : Code} {D : va_G} {cA : Nat → ClassId} {Z : mZ} {bs : Ad} {n : Nat} {K : mK} {R : mR} {L : mL} (E : Ev p s m args c cX7_plan 6 RX7 D cA Z bs) (hr : meth.sig.returnType = none) (hlk : meth.locks = false) {o : Nat} {a1 : Nat} {a1h : Nat} {a2 : Nat} (ho : isX7 K R o) (ha1 : isX2 K R a1 a1h) (ha2 : isX4 K R a2) {post : mI → Prop} {I : mI} {s1 : Int32} {H : Heap} {locs : List Loc} {ls : Array Slot} (hw : w_X7_plan_44 o a1 a1h a2 post I s1) (hM : mm D cA bs (n, K, R, I, L) H) (hS : va_S (Ab bs) s.heap H locs) (hl : lv_has ls 6 [(0, .ref (ad bs o)), (1, .ref (ad bs a1)), (2, .ref (ad bs a2)), (3, .ref (ad bs a1h))]) : W p l e ({ frames := 3, cells := 0, slots := 0, locals := 92 } : Room) s m args below meth c H locs 0 0 (MQ below (QV D cA bs (fun u => ∃ I', u = (n, K, R, I', L) ∧ post I')) args s 0 0 (Ab bs)) (F0 m 44 ls [.int s1, .ref (ad bs o)]) := by
  have hx := E.1.1
  have hb := E.1.2.1
  refine m_puti E hM hS fp_X7_9 ho.1 rfl rfl dX7_plan_44 (fun I2 H locs eI2 hM hS => ?_)
  have hw := hw I2 eI2
  refine lv_iconst (v := 0) hx hb dX7_plan_47 (by decide) ?_
  refine lv_istore (lv' := [(4, .int 0), (0, .ref (ad bs o)), (1, .ref (ad bs a1)), (2, .ref (ad bs a2)), (3, .ref (ad bs a1h))]) hx hb dX7_plan_48 hl (by decide) rfl (fun ls hl => ?_)
  exact s_X7_plan_50 E hr hlk ho ha1 ha2 (fun I v4 H locs ls  hw hM hS hl => s_X7_plan_91 E hr hlk ho ha1 ha2 (fun I H locs ls  hw hM hS hl => s_X7_plan_206 E hr hlk ho ha1 ha2  hw hM hS hl)  hw hM hS hl)  hw hM hS (lv_sub hl [1, 2, 3, 4, 0] rfl)
def w_X7_plan_24 (o : Nat) (a1 : Nat) (a1h : Nat) (a2 : Nat) (post : mI → Prop) (I : mI) (s1 : Int32) : Prop := ∀ I1, I1 = up2 I o 0 s1 → (¬ (I1 o 5) = (I1 o 6) → (w_X7_plan_44 o a1 a1h a2 post) I1 (-1)) ∧ ((I1 o 5) = (I1 o 6) → (w_X7_plan_44 o a1 a1h a2 post) I1 0)
set_option maxRecDepth 100000 in
set_option maxHeartbeats 4000000 in
theorem s_X7_plan_24 {p : Program} {l : Launch} {e : Env} {s : State} {m : MethodId} {args : Array Value} {below : List Frame} {meth : Method} {c : Code} {D : va_G} {cA : Nat → ClassId} {Z : mZ} {bs : Ad} {n : Nat} {K : mK} {R : mR} {L : mL} (E : Ev p s m args c cX7_plan 6 RX7 D cA Z bs) (hr : meth.sig.returnType = none) (hlk : meth.locks = false) {o : Nat} {a1 : Nat} {a1h : Nat} {a2 : Nat} (ho : isX7 K R o) (ha1 : isX2 K R a1 a1h) (ha2 : isX4 K R a2) {post : mI → Prop} {I : mI} {s1 : Int32} {H : Heap} {locs : List Loc} {ls : Array Slot} (hw : w_X7_plan_24 o a1 a1h a2 post I s1) (hM : mm D cA bs (n, K, R, I, L) H) (hS : va_S (Ab bs) s.heap H locs) (hl : lv_has ls 6 [(0, .ref (ad bs o)), (1, .ref (ad bs a1)), (2, .ref (ad bs a2)), (3, .ref (ad bs a1h))]) : W p l e ({ frames := 3, cells := 0, slots := 0, locals := 92 } : Room) s m args below meth c H locs 0 0 (MQ below (QV D cA bs (fun u => ∃ I', u = (n, K, R, I', L) ∧ post I')) args s 0 0 (Ab bs)) (F0 m 24 ls [.int s1, .ref (ad bs o)]) := by
  have hx := E.1.1
  have hb := E.1.2.1
  refine m_puti E hM hS fp_X7_51 ho.1 rfl rfl dX7_plan_24 (fun I1 H locs eI1 hM hS => ?_)
  have hw := hw I1 eI1
  refine lv_aload_n hx hb dX7_plan_27 rfl (lv_at hl 0 rfl) ?_
  refine lv_aload_n hx hb dX7_plan_28 rfl (lv_at hl 0 rfl) ?_
  refine m_geti E hM fs_X7_34 ho.1 dX7_plan_29 ?_
  refine lv_aload_n hx hb dX7_plan_32 rfl (lv_at hl 0 rfl) ?_
  refine m_geti E hM fs_X7_37 ho.1 dX7_plan_33 ?_
  refine lv_icmp_ne (tgt := 43) hx hb dX7_plan_36 (by decide) (fun cq => ?_) (fun cq => ?_)
  · have hw := hw.1 cq
    refine lv_iconst (v := (-1)) hx hb dX7_plan_43 (by decide) ?_
    exact s_X7_plan_44 E hr hlk ho ha1 ha2  hw hM hS (lv_sub hl [0, 1, 2, 3] rfl)
  · have hw := hw.2 cq
    refine lv_iconst (v := 0) hx hb dX7_plan_39 (by decide) ?_
    refine lv_goto (tgt := 44) hx hb dX7_plan_40 (by decide) ?_
    exact s_X7_plan_44 E hr hlk ho ha1 ha2  hw hM hS (lv_sub hl [0, 1, 2, 3] rfl)
def w_X7_plan (I : mI) (o : Nat) (a1 : Nat) (a1h : Nat) (a2 : Nat) (post : mI → Prop) : Prop := (¬ (I o 5) = (I o 6) → (w_X7_plan_24 o a1 a1h a2 post) I 1000) ∧ ((I o 5) = (I o 6) → (w_X7_plan_24 o a1 a1h a2 post) I 0)
set_option maxRecDepth 100000 in
set_option maxHeartbeats 4000000 in
theorem c_X7_plan {l : Launch} {D : va_G} {cA : Nat → ClassId} {Z : mZ} {bs : Ad} {n : Nat} {K : mK} {R : mR} {I : mI} {L : mL} {o : Nat} {a1 : Nat} {a1h : Nat} {a2 : Nat} {post : mI → Prop} (ho : isX7 K R o) (ha1 : isX2 K R a1 a1h) (ha2 : isX4 K R a2) (hw : w_X7_plan I o a1 a1h a2 post) : Met l yX7_plan (.code yX7_plan cX7_plan 6 none :: gw) ({ frames := 3, cells := 0, slots := 0, locals := 92 } : Room) (PreM D cA Z bs (n, K, R, I, L) [.ref (ad bs o), .ref (ad bs a1), .ref (ad bs a2)]) (QV D cA bs (fun u => ∃ I', u = (n, K, R, I', L) ∧ post I')) 0 0 (Ab bs) := by
  refine m_met (by decide) (Nat.le_of_ble_eq_true rfl) (fun p e s m below meth c ls E hr hlk hM hS hl => ?_)
  have E : Ev p s m _ c cX7_plan 6 RX7 D cA Z bs := E
  have hl : lv_has ls 6 [(0, .ref (ad bs o)), (1, .ref (ad bs a1)), (2, .ref (ad bs a2))] := hl
  have hx := E.1.1
  have hb := E.1.2.1
  generalize hHe : s.heap = H at hM ⊢
  have hS : va_S (Ab bs) s.heap H [] := by rw [← hHe]; exact va_S.rf
  clear hHe
  refine lv_aload_n hx hb dX7_plan_0 rfl (lv_at hl 1 rfl) ?_
  refine m_getr E hM fs_X7_46 ha1.1.1 ha1.2.1 dX7_plan_1 ?_
  refine lv_astore_n (lv' := [(3, .ref (ad bs a1h)), (0, .ref (ad bs o)), (1, .ref (ad bs a1)), (2, .ref (ad bs a2))]) hx hb dX7_plan_4 rfl hl (by decide) rfl (fun ls hl => ?_)
  refine lv_aload_n hx hb dX7_plan_5 rfl (lv_at hl 1 rfl) ?_
  refine lv_aload_n hx hb dX7_plan_6 rfl (lv_at hl 1 rfl) ?_
  refine m_geti E hM fs_X7_34 ho.1 dX7_plan_7 ?_
  refine lv_aload_n hx hb dX7_plan_10 rfl (lv_at hl 1 rfl) ?_
  refine m_geti E hM fs_X7_37 ho.1 dX7_plan_11 ?_
  refine lv_icmp_ne (tgt := 21) hx hb dX7_plan_14 (by decide) (fun cq => ?_) (fun cq => ?_)
  · have hw := hw.1 cq
    refine lv_sipush (v := 1000) hx hb dX7_plan_21 (by decide) ?_
    exact s_X7_plan_24 E hr hlk ho ha1 ha2  hw hM hS (lv_sub hl [1, 2, 3, 0] rfl)
  · have hw := hw.2 cq
    refine lv_iconst (v := 0) hx hb dX7_plan_17 (by decide) ?_
    refine lv_goto (tgt := 24) hx hb dX7_plan_18 (by decide) ?_
    exact s_X7_plan_24 E hr hlk ho ha1 ha2  hw hM hS (lv_sub hl [1, 2, 3, 0] rfl)
theorem dX8_append_0 : decode cX8_append 0 = .ok (.bipush 24, 2) := by decide +kernel
theorem dX8_append_2 : decode cX8_append 2 = .ok (.istore_n 2, 1) := by decide +kernel
theorem dX8_append_3 : decode cX8_append 3 = .ok (.iload_n 2, 1) := by decide +kernel
theorem dX8_append_4 : decode cX8_append 4 = .ok (.ifCond .lt 42, 3) := by decide +kernel
theorem dX8_append_7 : decode cX8_append 7 = .ok (.aload_n 0, 1) := by decide +kernel
theorem dX8_append_8 : decode cX8_append 8 = .ok (.getfield 33, 3) := by decide +kernel
theorem dX8_append_11 : decode cX8_append 11 = .ok (.sipush 600, 3) := by decide +kernel
theorem dX8_append_14 : decode cX8_append 14 = .ok (.if_icmp .ge 32, 3) := by decide +kernel
theorem dX8_append_17 : decode cX8_append 17 = .ok (.aload_n 0, 1) := by decide +kernel
theorem dX8_append_18 : decode cX8_append 18 = .ok (.getfield 9, 3) := by decide +kernel
theorem dX8_append_21 : decode cX8_append 21 = .ok (.aload_n 0, 1) := by decide +kernel
theorem dX8_append_22 : decode cX8_append 22 = .ok (.getfield 33, 3) := by decide +kernel
theorem dX8_append_25 : decode cX8_append 25 = .ok (.iload_n 1, 1) := by decide +kernel
theorem dX8_append_26 : decode cX8_append 26 = .ok (.iload_n 2, 1) := by decide +kernel
theorem dX8_append_27 : decode cX8_append 27 = .ok (.ishr, 1) := by decide +kernel
theorem dX8_append_28 : decode cX8_append 28 = .ok (.i2b, 1) := by decide +kernel
theorem dX8_append_29 : decode cX8_append 29 = .ok (.bastore, 1) := by decide +kernel
theorem dX8_append_30 : decode cX8_append 30 = .ok (.aload_n 0, 1) := by decide +kernel
theorem dX8_append_31 : decode cX8_append 31 = .ok (.dup, 1) := by decide +kernel
theorem dX8_append_32 : decode cX8_append 32 = .ok (.getfield 33, 3) := by decide +kernel
theorem dX8_append_35 : decode cX8_append 35 = .ok (.iconst 1, 1) := by decide +kernel
theorem dX8_append_36 : decode cX8_append 36 = .ok (.iadd, 1) := by decide +kernel
theorem dX8_append_37 : decode cX8_append 37 = .ok (.putfield 33, 3) := by decide +kernel
theorem dX8_append_40 : decode cX8_append 40 = .ok (.iinc 2 (-8), 3) := by decide +kernel
theorem dX8_append_43 : decode cX8_append 43 = .ok (.goto (-40), 3) := by decide +kernel
theorem dX8_append_46 : decode cX8_append 46 = .ok (.return_, 1) := by decide +kernel
def w_X8_append_3 (o : Nat) (a1 : Int32) (post : mI → Prop) (I : mI) (v2 : Int32) : Prop := ∀ ZZ : (mI → Int32 → Prop), (∀ (I : mI) (v2 : Int32), ((v2 < 0 → post I) ∧ (¬ v2 < 0 → (600 ≤ (I o 1) → post I) ∧ (¬ 600 ≤ (I o 1) → vp_in (I o 1) 600 ∧ ∀ I1, I1 = up2 I (o + 1) ((I o 1).toNatClampNeg) (((a1 >>> (v2 &&& 31)).toInt8.toInt32).toInt8.toInt32) → ∀ I2, I2 = up2 I1 o 1 ((I1 o 1) + 1) → ∀ x3, x3 = v2 + (-8) → ZZ I2 x3))) → ZZ I v2) → ZZ I v2
set_option maxRecDepth 100000 in
set_option maxHeartbeats 4000000 in
theorem s_X8_append_3 {p : Program} {l : Launch} {e : Env} {s : State} {m : MethodId} {args : Array Value} {below : List Frame} {meth : Method} {c : Code} {D : va_G} {cA : Nat → ClassId} {Z : mZ} {bs : Ad} {n : Nat} {K : mK} {R : mR} {L : mL} (E : Ev p s m args c cX8_append 3 RX8 D cA Z bs) (hr : meth.sig.returnType = none) (hlk : meth.locks = false) {o : Nat} {a1 : Int32} (ho : isX8 K R o) {post : mI → Prop} {I : mI} {v2 : Int32} {H : Heap} {locs : List Loc} {ls : Array Slot} (hw : w_X8_append_3 o a1 post I v2) (hM : mm D cA bs (n, K, R, I, L) H) (hS : va_S (Ab bs) s.heap H locs) (hl : lv_has ls 3 [(0, .ref (ad bs o)), (1, .int a1), (2, .int v2)]) : W p l e ({ frames := 0, cells := 0, slots := 0, locals := 0 } : Room) s m args below meth c H locs 0 0 (MQ below (QV D cA bs (fun u => ∃ I', u = (n, K, R, I', L) ∧ post I')) args s 0 0 (Ab bs)) (F0 m 3 ls []) := by
  have hx := E.1.1
  have hb := E.1.2.1
  refine hw (fun I v2 => ∀ (H : Heap) (locs : List Loc) (ls : Array Slot), mm D cA bs (n, K, R, I, L) H → va_S (Ab bs) s.heap H locs → lv_has ls 3 [(0, .ref (ad bs o)), (1, .int a1), (2, .int v2)] → W p l e ({ frames := 0, cells := 0, slots := 0, locals := 0 } : Room) s m args below meth c H locs 0 0 (MQ below (QV D cA bs (fun u => ∃ I', u = (n, K, R, I', L) ∧ post I')) args s 0 0 (Ab bs)) (F0 m 3 ls [])) ?_ H locs ls hM hS hl
  clear hw hM hS hl
  intro I v2 hw H locs ls hM hS hl
  refine lv_iload_n hx hb dX8_append_3 rfl (lv_at hl 2 rfl) ?_
  refine lv_if_lt (tgt := 46) hx hb dX8_append_4 (by decide) (fun cq => ?_) (fun cq => ?_)
  · have hw := hw.1 cq
    exact m_retv hx hb hr hlk hM hS ⟨_, rfl, hw⟩ dX8_append_46
  · have hw := hw.2 cq
    refine lv_aload_n hx hb dX8_append_7 rfl (lv_at hl 0 rfl) ?_
    refine m_geti E hM fs_X8_33 ho.1.1 dX8_append_8 ?_
    refine lv_sipush (v := 600) hx hb dX8_append_11 (by decide) ?_
    refine lv_icmp_ge (tgt := 46) hx hb dX8_append_14 (by decide) (fun cq => ?_) (fun cq => ?_)
    · have hw := hw.1 cq
      exact m_retv hx hb hr hlk hM hS ⟨_, rfl, hw⟩ dX8_append_46
    · have hw := hw.2 cq
      refine lv_aload_n hx hb dX8_append_17 rfl (lv_at hl 0 rfl) ?_
      refine m_getr E hM fs_X8_9 ho.1.1 (isO_at ho.1 0 rfl).1 dX8_append_18 ?_
      refine lv_aload_n hx hb dX8_append_21 rfl (lv_at hl 0 rfl) ?_
      refine m_geti E hM fs_X8_33 ho.1.1 dX8_append_22 ?_
      refine lv_iload_n hx hb dX8_append_25 rfl (lv_at hl 1 rfl) ?_
      refine lv_iload_n hx hb dX8_append_26 rfl (lv_at hl 2 rfl) ?_
      refine lv_ishr hx hb dX8_append_27 ?_
      refine lv_i2b hx hb dX8_append_28 rfl ?_
      obtain ⟨hv, hw⟩ := hw
      refine m_bast E hM hS (isO_at ho.1 0 rfl).2 hv dX8_append_29 (fun I1 H locs eI1 hM hS => ?_)
      have hw := hw I1 eI1
      refine lv_aload_n hx hb dX8_append_30 rfl (lv_at hl 0 rfl) ?_
      refine lv_dup hx hb dX8_append_31 rfl ?_
      refine m_geti E hM fs_X8_33 ho.1.1 dX8_append_32 ?_
      refine lv_iconst (v := 1) hx hb dX8_append_35 (by decide) ?_
      refine lv_iadd hx hb dX8_append_36 ?_
      refine m_puti E hM hS fp_X8_33 ho.1.1 rfl rfl dX8_append_37 (fun I2 H locs eI2 hM hS => ?_)
      have hw := hw I2 eI2
      obtain ⟨x3, ex3⟩ : ∃ y : Int32, y = v2 + (-8) := ⟨_, rfl⟩
      have hw := hw x3 ex3
      refine lv_iinc (v := x3) (lv' := [(2, .int x3), (0, .ref (ad bs o)), (1, .int a1)]) hx hb dX8_append_40 hl (k := 2) rfl (by rw [ex3]; rfl) (by decide) rfl (fun ls hl => ?_)
      refine lv_goto (tgt := 3) hx hb dX8_append_43 (by decide) ?_
      exact hw H locs ls  hM hS (lv_sub hl [1, 2, 0] rfl)
def w_X8_append (I : mI) (o : Nat) (a1 : Int32) (post : mI → Prop) : Prop := (w_X8_append_3 o a1 post) I 24
set_option maxRecDepth 100000 in
set_option maxHeartbeats 4000000 in
theorem c_X8_append {l : Launch} {D : va_G} {cA : Nat → ClassId} {Z : mZ} {bs : Ad} {n : Nat} {K : mK} {R : mR} {I : mI} {L : mL} {o : Nat} {a1 : Int32} {post : mI → Prop} (ho : isX8 K R o) (hw : w_X8_append I o a1 post) : Met l yX8_append (.code yX8_append cX8_append 3 none :: gw) ({ frames := 0, cells := 0, slots := 0, locals := 0 } : Room) (PreM D cA Z bs (n, K, R, I, L) [.ref (ad bs o), .int a1]) (QV D cA bs (fun u => ∃ I', u = (n, K, R, I', L) ∧ post I')) 0 0 (Ab bs) := by
  refine m_met (by decide) (Nat.le_of_ble_eq_true rfl) (fun p e s m below meth c ls E hr hlk hM hS hl => ?_)
  have E : Ev p s m _ c cX8_append 3 RX8 D cA Z bs := E
  have hl : lv_has ls 3 [(0, .ref (ad bs o)), (1, .int a1)] := hl
  have hx := E.1.1
  have hb := E.1.2.1
  generalize hHe : s.heap = H at hM ⊢
  have hS : va_S (Ab bs) s.heap H [] := by rw [← hHe]; exact va_S.rf
  clear hHe
  refine lv_bipush (v := 24) hx hb dX8_append_0 (by decide) ?_
  refine lv_istore_n (lv' := [(2, .int 24), (0, .ref (ad bs o)), (1, .int a1)]) hx hb dX8_append_2 rfl hl (by decide) rfl (fun ls hl => ?_)
  exact s_X8_append_3 E hr hlk ho  hw hM hS (lv_sub hl [1, 2, 0] rfl)
theorem dX8_copyFrom_0 : decode cX8_copyFrom 0 = .ok (.aload_n 1, 1) := by decide +kernel
theorem dX8_copyFrom_1 : decode cX8_copyFrom 1 = .ok (.getfield 9, 3) := by decide +kernel
theorem dX8_copyFrom_4 : decode cX8_copyFrom 4 = .ok (.iconst 0, 1) := by decide +kernel
theorem dX8_copyFrom_5 : decode cX8_copyFrom 5 = .ok (.aload_n 0, 1) := by decide +kernel
theorem dX8_copyFrom_6 : decode cX8_copyFrom 6 = .ok (.getfield 9, 3) := by decide +kernel
theorem dX8_copyFrom_9 : decode cX8_copyFrom 9 = .ok (.iconst 0, 1) := by decide +kernel
theorem dX8_copyFrom_10 : decode cX8_copyFrom 10 = .ok (.sipush 600, 3) := by decide +kernel
theorem dX8_copyFrom_13 : decode cX8_copyFrom 13 = .ok (.invokestatic 36, 3) := by decide +kernel
theorem dX8_copyFrom_16 : decode cX8_copyFrom 16 = .ok (.aload_n 0, 1) := by decide +kernel
theorem dX8_copyFrom_17 : decode cX8_copyFrom 17 = .ok (.aload_n 1, 1) := by decide +kernel
theorem dX8_copyFrom_18 : decode cX8_copyFrom 18 = .ok (.getfield 33, 3) := by decide +kernel
theorem dX8_copyFrom_21 : decode cX8_copyFrom 21 = .ok (.putfield 33, 3) := by decide +kernel
theorem dX8_copyFrom_24 : decode cX8_copyFrom 24 = .ok (.aload_n 0, 1) := by decide +kernel
theorem dX8_copyFrom_25 : decode cX8_copyFrom 25 = .ok (.aload_n 1, 1) := by decide +kernel
theorem dX8_copyFrom_26 : decode cX8_copyFrom 26 = .ok (.getfield 42, 3) := by decide +kernel
theorem dX8_copyFrom_29 : decode cX8_copyFrom 29 = .ok (.putfield 42, 3) := by decide +kernel
theorem dX8_copyFrom_32 : decode cX8_copyFrom 32 = .ok (.aload_n 0, 1) := by decide +kernel
theorem dX8_copyFrom_33 : decode cX8_copyFrom 33 = .ok (.aload_n 1, 1) := by decide +kernel
theorem dX8_copyFrom_34 : decode cX8_copyFrom 34 = .ok (.getfield 15, 3) := by decide +kernel
theorem dX8_copyFrom_37 : decode cX8_copyFrom 37 = .ok (.putfield 15, 3) := by decide +kernel
theorem dX8_copyFrom_40 : decode cX8_copyFrom 40 = .ok (.aload_n 0, 1) := by decide +kernel
theorem dX8_copyFrom_41 : decode cX8_copyFrom 41 = .ok (.aload_n 1, 1) := by decide +kernel
theorem dX8_copyFrom_42 : decode cX8_copyFrom 42 = .ok (.getfield 45, 3) := by decide +kernel
theorem dX8_copyFrom_45 : decode cX8_copyFrom 45 = .ok (.putfield 45, 3) := by decide +kernel
theorem dX8_copyFrom_48 : decode cX8_copyFrom 48 = .ok (.aload_n 0, 1) := by decide +kernel
theorem dX8_copyFrom_49 : decode cX8_copyFrom 49 = .ok (.aload_n 1, 1) := by decide +kernel
theorem dX8_copyFrom_50 : decode cX8_copyFrom 50 = .ok (.getfield 48, 3) := by decide +kernel
theorem dX8_copyFrom_53 : decode cX8_copyFrom 53 = .ok (.putfield 48, 3) := by decide +kernel
theorem dX8_copyFrom_56 : decode cX8_copyFrom 56 = .ok (.iconst 0, 1) := by decide +kernel
theorem dX8_copyFrom_57 : decode cX8_copyFrom 57 = .ok (.istore_n 2, 1) := by decide +kernel
theorem dX8_copyFrom_58 : decode cX8_copyFrom 58 = .ok (.iload_n 2, 1) := by decide +kernel
theorem dX8_copyFrom_59 : decode cX8_copyFrom 59 = .ok (.iconst 2, 1) := by decide +kernel
theorem dX8_copyFrom_60 : decode cX8_copyFrom 60 = .ok (.if_icmp .ge 39, 3) := by decide +kernel
theorem dX8_copyFrom_63 : decode cX8_copyFrom 63 = .ok (.aload_n 0, 1) := by decide +kernel
theorem dX8_copyFrom_64 : decode cX8_copyFrom 64 = .ok (.getfield 21, 3) := by decide +kernel
theorem dX8_copyFrom_67 : decode cX8_copyFrom 67 = .ok (.iload_n 2, 1) := by decide +kernel
theorem dX8_copyFrom_68 : decode cX8_copyFrom 68 = .ok (.aaload, 1) := by decide +kernel
theorem dX8_copyFrom_69 : decode cX8_copyFrom 69 = .ok (.aload_n 1, 1) := by decide +kernel
theorem dX8_copyFrom_70 : decode cX8_copyFrom 70 = .ok (.getfield 21, 3) := by decide +kernel
theorem dX8_copyFrom_73 : decode cX8_copyFrom 73 = .ok (.iload_n 2, 1) := by decide +kernel
theorem dX8_copyFrom_74 : decode cX8_copyFrom 74 = .ok (.aaload, 1) := by decide +kernel
theorem dX8_copyFrom_75 : decode cX8_copyFrom 75 = .ok (.invokevirtual 51, 3) := by decide +kernel
theorem dX8_copyFrom_78 : decode cX8_copyFrom 78 = .ok (.aload_n 0, 1) := by decide +kernel
theorem dX8_copyFrom_79 : decode cX8_copyFrom 79 = .ok (.getfield 27, 3) := by decide +kernel
theorem dX8_copyFrom_82 : decode cX8_copyFrom 82 = .ok (.iload_n 2, 1) := by decide +kernel
theorem dX8_copyFrom_83 : decode cX8_copyFrom 83 = .ok (.aaload, 1) := by decide +kernel
theorem dX8_copyFrom_84 : decode cX8_copyFrom 84 = .ok (.aload_n 1, 1) := by decide +kernel
theorem dX8_copyFrom_85 : decode cX8_copyFrom 85 = .ok (.getfield 27, 3) := by decide +kernel
theorem dX8_copyFrom_88 : decode cX8_copyFrom 88 = .ok (.iload_n 2, 1) := by decide +kernel
theorem dX8_copyFrom_89 : decode cX8_copyFrom 89 = .ok (.aaload, 1) := by decide +kernel
theorem dX8_copyFrom_90 : decode cX8_copyFrom 90 = .ok (.invokevirtual 55, 3) := by decide +kernel
theorem dX8_copyFrom_93 : decode cX8_copyFrom 93 = .ok (.iinc 2 1, 3) := by decide +kernel
theorem dX8_copyFrom_96 : decode cX8_copyFrom 96 = .ok (.goto (-38), 3) := by decide +kernel
theorem dX8_copyFrom_99 : decode cX8_copyFrom 99 = .ok (.return_, 1) := by decide +kernel
def w_X8_copyFrom_58 (o : Nat) (a1 : Nat) (post : mI → Prop) (I : mI) (v2 : Int32) : Prop := ∀ ZZ : (mI → Int32 → Prop), (∀ (I : mI) (v2 : Int32), ((2 ≤ v2 → post I) ∧ (¬ 2 ≤ v2 → vp_in v2 2 ∧ vp_in v2 2 ∧ w_X3_copyFrom I (o + 4 + 19 * v2.toNatClampNeg) (a1 + 4 + 19 * v2.toNatClampNeg) (fun I9 => vp_in v2 2 ∧ vp_in v2 2 ∧ w_X6_copyFrom I9 (o + 18 + 19 * v2.toNatClampNeg) (a1 + 18 + 19 * v2.toNatClampNeg) (fun I12 => ∀ x13, x13 = v2 + 1 → ZZ I12 x13)))) → ZZ I v2) → ZZ I v2
set_option maxRecDepth 100000 in
set_option maxHeartbeats 4000000 in
theorem s_X8_copyFrom_58 {p : Program} {l : Launch} {e : Env} {s : State} {m : MethodId} {args : Array Value} {below : List Frame} {meth : Method} {c : Code} {D : va_G} {cA : Nat → ClassId} {Z : mZ} {bs : Ad} {n : Nat} {K : mK} {R : mR} {L : mL} (E : Ev p s m args c cX8_copyFrom 3 RX8 D cA Z bs) (hr : meth.sig.returnType = none) (hlk : meth.locks = false) {o : Nat} {a1 : Nat} (ho : isX8 K R o) (ha1 : isX8 K R a1) {post : mI → Prop} {I : mI} {v2 : Int32} {H : Heap} {locs : List Loc} {ls : Array Slot} (hw : w_X8_copyFrom_58 o a1 post I v2) (hM : mm D cA bs (n, K, R, I, L) H) (hS : va_S (Ab bs) s.heap H locs) (hl : lv_has ls 3 [(0, .ref (ad bs o)), (1, .ref (ad bs a1)), (2, .int v2)]) : W p l e ({ frames := 2, cells := 0, slots := 0, locals := 101 } : Room) s m args below meth c H locs 0 0 (MQ below (QV D cA bs (fun u => ∃ I', u = (n, K, R, I', L) ∧ post I')) args s 0 0 (Ab bs)) (F0 m 58 ls []) := by
  have hx := E.1.1
  have hb := E.1.2.1
  refine hw (fun I v2 => ∀ (H : Heap) (locs : List Loc) (ls : Array Slot), mm D cA bs (n, K, R, I, L) H → va_S (Ab bs) s.heap H locs → lv_has ls 3 [(0, .ref (ad bs o)), (1, .ref (ad bs a1)), (2, .int v2)] → W p l e ({ frames := 2, cells := 0, slots := 0, locals := 101 } : Room) s m args below meth c H locs 0 0 (MQ below (QV D cA bs (fun u => ∃ I', u = (n, K, R, I', L) ∧ post I')) args s 0 0 (Ab bs)) (F0 m 58 ls [])) ?_ H locs ls hM hS hl
  clear hw hM hS hl
  intro I v2 hw H locs ls hM hS hl
  refine lv_iload_n hx hb dX8_copyFrom_58 rfl (lv_at hl 2 rfl) ?_
  refine lv_iconst (v := 2) hx hb dX8_copyFrom_59 (by decide) ?_
  refine lv_icmp_ge (tgt := 99) hx hb dX8_copyFrom_60 (by decide) (fun cq => ?_) (fun cq => ?_)
  · have hw := hw.1 cq
    exact m_retv hx hb hr hlk hM hS ⟨_, rfl, hw⟩ dX8_copyFrom_99
  · have hw := hw.2 cq
    refine lv_aload_n hx hb dX8_copyFrom_63 rfl (lv_at hl 0 rfl) ?_
    refine m_getr E hM fs_X8_21 ho.1.1 (isO_at ho.1 1 rfl).1 dX8_copyFrom_64 ?_
    refine lv_iload_n hx hb dX8_copyFrom_67 rfl (lv_at hl 2 rfl) ?_
    obtain ⟨hv, hw⟩ := hw
    have hs7 := ((ho.2 _ (vp_in_lt hv)).1).2
    refine m_aaldS E hM (isO_at ho.1 1 rfl).2 (by simp) hv ((ho.2 _ (vp_in_lt hv)).1).1 dX8_copyFrom_68 ?_
    refine lv_aload_n hx hb dX8_copyFrom_69 rfl (lv_at hl 1 rfl) ?_
    refine m_getr E hM fs_X8_21 ha1.1.1 (isO_at ha1.1 1 rfl).1 dX8_copyFrom_70 ?_
    refine lv_iload_n hx hb dX8_copyFrom_73 rfl (lv_at hl 2 rfl) ?_
    obtain ⟨hv, hw⟩ := hw
    have hs8 := ((ha1.2 _ (vp_in_lt hv)).1).2
    refine m_aaldS E hM (isO_at ha1.1 1 rfl).2 (by simp) hv ((ha1.2 _ (vp_in_lt hv)).1).1 dX8_copyFrom_74 ?_
    refine m_cv (m_runV E hM hS cs_X8_51 hs7.1 (by decide) rfl rfl (c_X3_copyFrom hs7 hs8 hw) rfl rfl ⟨Nat.le_of_ble_eq_true rfl, Nat.le_of_ble_eq_true rfl⟩ rfl hl.1 rfl (Nat.le_of_ble_eq_true rfl) dX8_copyFrom_75 ⟨Nat.le_of_ble_eq_true rfl, Nat.le_of_ble_eq_true rfl⟩) hS (fun u H locs hp hM hS => ?_)
    obtain ⟨I9, rfl, hw⟩ := hp
    refine lv_aload_n hx hb dX8_copyFrom_78 rfl (lv_at hl 0 rfl) ?_
    refine m_getr E hM fs_X8_27 ho.1.1 (isO_at ho.1 2 rfl).1 dX8_copyFrom_79 ?_
    refine lv_iload_n hx hb dX8_copyFrom_82 rfl (lv_at hl 2 rfl) ?_
    obtain ⟨hv, hw⟩ := hw
    have hs10 := ((ho.2 _ (vp_in_lt hv)).2).2
    refine m_aaldS E hM (isO_at ho.1 2 rfl).2 (by simp) hv ((ho.2 _ (vp_in_lt hv)).2).1 dX8_copyFrom_83 ?_
    refine lv_aload_n hx hb dX8_copyFrom_84 rfl (lv_at hl 1 rfl) ?_
    refine m_getr E hM fs_X8_27 ha1.1.1 (isO_at ha1.1 2 rfl).1 dX8_copyFrom_85 ?_
    refine lv_iload_n hx hb dX8_copyFrom_88 rfl (lv_at hl 2 rfl) ?_
    obtain ⟨hv, hw⟩ := hw
    have hs11 := ((ha1.2 _ (vp_in_lt hv)).2).2
    refine m_aaldS E hM (isO_at ha1.1 2 rfl).2 (by simp) hv ((ha1.2 _ (vp_in_lt hv)).2).1 dX8_copyFrom_89 ?_
    refine m_cv (m_runV E hM hS cs_X8_55 hs10.1 (by decide) rfl rfl (c_X6_copyFrom hs10 hs11 hw) rfl rfl ⟨Nat.le_of_ble_eq_true rfl, Nat.le_of_ble_eq_true rfl⟩ rfl hl.1 rfl (Nat.le_of_ble_eq_true rfl) dX8_copyFrom_90 ⟨Nat.le_of_ble_eq_true rfl, Nat.le_of_ble_eq_true rfl⟩) hS (fun u H locs hp hM hS => ?_)
    obtain ⟨I12, rfl, hw⟩ := hp
    obtain ⟨x13, ex13⟩ : ∃ y : Int32, y = v2 + 1 := ⟨_, rfl⟩
    have hw := hw x13 ex13
    refine lv_iinc (v := x13) (lv' := [(2, .int x13), (0, .ref (ad bs o)), (1, .ref (ad bs a1))]) hx hb dX8_copyFrom_93 hl (k := 2) rfl (by rw [ex13]; rfl) (by decide) rfl (fun ls hl => ?_)
    refine lv_goto (tgt := 58) hx hb dX8_copyFrom_96 (by decide) ?_
    exact hw H locs ls  hM hS (lv_sub hl [1, 2, 0] rfl)
def w_X8_copyFrom (I : mI) (o : Nat) (a1 : Nat) (post : mI → Prop) : Prop := (a1 + 1) ≠ (o + 1) ∧ ¬ (0 : Int32) < 0 ∧ ¬ (0 : Int32) < 0 ∧ ¬ (600 : Int32) < 0 ∧ (0 : Int32).toNatClampNeg + (600 : Int32).toNatClampNeg ≤ 600 ∧ (0 : Int32).toNatClampNeg + (600 : Int32).toNatClampNeg ≤ 600 ∧ (∀ i, i < (600 : Int32).toNatClampNeg → fits .byte (.int (I (a1 + 1) ((0 : Int32).toNatClampNeg + i))) = true) ∧ ∀ I1, I1 = cpy2 I (a1 + 1) (o + 1) ((0 : Int32).toNatClampNeg) ((0 : Int32).toNatClampNeg) ((600 : Int32).toNatClampNeg) → ∀ I2, I2 = up2 I1 o 1 (I1 a1 1) → ∀ I3, I3 = up2 I2 o 2 (I2 a1 2) → ∀ I4, I4 = up2 I3 o 3 (I3 a1 3) → ∀ I5, I5 = up2 I4 o 4 (I4 a1 4) → ∀ I6, I6 = up2 I5 o 5 (I5 a1 5) → (w_X8_copyFrom_58 o a1 post) I6 0
set_option maxRecDepth 100000 in
set_option maxHeartbeats 4000000 in
theorem c_X8_copyFrom {l : Launch} {D : va_G} {cA : Nat → ClassId} {Z : mZ} {bs : Ad} {n : Nat} {K : mK} {R : mR} {I : mI} {L : mL} {o : Nat} {a1 : Nat} {post : mI → Prop} (ho : isX8 K R o) (ha1 : isX8 K R a1) (hw : w_X8_copyFrom I o a1 post) : Met l yX8_copyFrom (.code yX8_copyFrom cX8_copyFrom 3 none :: gw) ({ frames := 2, cells := 0, slots := 0, locals := 101 } : Room) (PreM D cA Z bs (n, K, R, I, L) [.ref (ad bs o), .ref (ad bs a1)]) (QV D cA bs (fun u => ∃ I', u = (n, K, R, I', L) ∧ post I')) 0 0 (Ab bs) := by
  refine m_met (by decide) (Nat.le_of_ble_eq_true rfl) (fun p e s m below meth c ls E hr hlk hM hS hl => ?_)
  have E : Ev p s m _ c cX8_copyFrom 3 RX8 D cA Z bs := E
  have hl : lv_has ls 3 [(0, .ref (ad bs o)), (1, .ref (ad bs a1))] := hl
  have hx := E.1.1
  have hb := E.1.2.1
  generalize hHe : s.heap = H at hM ⊢
  have hS : va_S (Ab bs) s.heap H [] := by rw [← hHe]; exact va_S.rf
  clear hHe
  refine lv_aload_n hx hb dX8_copyFrom_0 rfl (lv_at hl 1 rfl) ?_
  refine m_getr E hM fs_X8_9 ha1.1.1 (isO_at ha1.1 0 rfl).1 dX8_copyFrom_1 ?_
  refine lv_iconst (v := 0) hx hb dX8_copyFrom_4 (by decide) ?_
  refine lv_aload_n hx hb dX8_copyFrom_5 rfl (lv_at hl 0 rfl) ?_
  refine m_getr E hM fs_X8_9 ho.1.1 (isO_at ho.1 0 rfl).1 dX8_copyFrom_6 ?_
  refine lv_iconst (v := 0) hx hb dX8_copyFrom_9 (by decide) ?_
  refine lv_sipush (v := 600) hx hb dX8_copyFrom_10 (by decide) ?_
  obtain ⟨q1, q2, q3, q4, q5, q6, q7, hw⟩ := hw
  refine m_copy E hM hS ml_X8_36 hl.1 (isO_at ha1.1 0 rfl).2 (isO_at ho.1 0 rfl).2 (by simp) q1 q2 q3 q4 q5 q6 (fun _ => q7) (Nat.le_of_ble_eq_true rfl) (Nat.le_of_ble_eq_true rfl) dX8_copyFrom_13 (fun I1 H locs eI1 hM hS => ?_)
  have hw := hw I1 eI1
  refine lv_aload_n hx hb dX8_copyFrom_16 rfl (lv_at hl 0 rfl) ?_
  refine lv_aload_n hx hb dX8_copyFrom_17 rfl (lv_at hl 1 rfl) ?_
  refine m_geti E hM fs_X8_33 ha1.1.1 dX8_copyFrom_18 ?_
  refine m_puti E hM hS fp_X8_33 ho.1.1 rfl rfl dX8_copyFrom_21 (fun I2 H locs eI2 hM hS => ?_)
  have hw := hw I2 eI2
  refine lv_aload_n hx hb dX8_copyFrom_24 rfl (lv_at hl 0 rfl) ?_
  refine lv_aload_n hx hb dX8_copyFrom_25 rfl (lv_at hl 1 rfl) ?_
  refine m_geti E hM fs_X8_42 ha1.1.1 dX8_copyFrom_26 ?_
  refine m_puti E hM hS fp_X8_42 ho.1.1 rfl rfl dX8_copyFrom_29 (fun I3 H locs eI3 hM hS => ?_)
  have hw := hw I3 eI3
  refine lv_aload_n hx hb dX8_copyFrom_32 rfl (lv_at hl 0 rfl) ?_
  refine lv_aload_n hx hb dX8_copyFrom_33 rfl (lv_at hl 1 rfl) ?_
  refine m_geti E hM fs_X8_15 ha1.1.1 dX8_copyFrom_34 ?_
  refine m_puti E hM hS fp_X8_15 ho.1.1 rfl rfl dX8_copyFrom_37 (fun I4 H locs eI4 hM hS => ?_)
  have hw := hw I4 eI4
  refine lv_aload_n hx hb dX8_copyFrom_40 rfl (lv_at hl 0 rfl) ?_
  refine lv_aload_n hx hb dX8_copyFrom_41 rfl (lv_at hl 1 rfl) ?_
  refine m_geti E hM fs_X8_45 ha1.1.1 dX8_copyFrom_42 ?_
  refine m_puti E hM hS fp_X8_45 ho.1.1 rfl rfl dX8_copyFrom_45 (fun I5 H locs eI5 hM hS => ?_)
  have hw := hw I5 eI5
  refine lv_aload_n hx hb dX8_copyFrom_48 rfl (lv_at hl 0 rfl) ?_
  refine lv_aload_n hx hb dX8_copyFrom_49 rfl (lv_at hl 1 rfl) ?_
  refine m_geti E hM fs_X8_48 ha1.1.1 dX8_copyFrom_50 ?_
  refine m_puti E hM hS fp_X8_48 ho.1.1 rfl rfl dX8_copyFrom_53 (fun I6 H locs eI6 hM hS => ?_)
  have hw := hw I6 eI6
  refine lv_iconst (v := 0) hx hb dX8_copyFrom_56 (by decide) ?_
  refine lv_istore_n (lv' := [(2, .int 0), (0, .ref (ad bs o)), (1, .ref (ad bs a1))]) hx hb dX8_copyFrom_57 rfl hl (by decide) rfl (fun ls hl => ?_)
  exact s_X8_copyFrom_58 E hr hlk ho ha1  hw hM hS (lv_sub hl [1, 2, 0] rfl)
theorem dX9_findMixed_0 : decode cX9_findMixed 0 = .ok (.aload_n 0, 1) := by decide +kernel
theorem dX9_findMixed_1 : decode cX9_findMixed 1 = .ok (.getfield 18, 3) := by decide +kernel
theorem dX9_findMixed_4 : decode cX9_findMixed 4 = .ok (.iconst 0, 1) := by decide +kernel
theorem dX9_findMixed_5 : decode cX9_findMixed 5 = .ok (.invokestatic 44, 3) := by decide +kernel
theorem dX9_findMixed_8 : decode cX9_findMixed 8 = .ok (.aload_n 0, 1) := by decide +kernel
theorem dX9_findMixed_9 : decode cX9_findMixed 9 = .ok (.getfield 15, 3) := by decide +kernel
theorem dX9_findMixed_12 : decode cX9_findMixed 12 = .ok (.iconst 0, 1) := by decide +kernel
theorem dX9_findMixed_13 : decode cX9_findMixed 13 = .ok (.invokestatic 44, 3) := by decide +kernel
theorem dX9_findMixed_16 : decode cX9_findMixed 16 = .ok (.iconst 0, 1) := by decide +kernel
theorem dX9_findMixed_17 : decode cX9_findMixed 17 = .ok (.istore_n 2, 1) := by decide +kernel
theorem dX9_findMixed_18 : decode cX9_findMixed 18 = .ok (.iload_n 2, 1) := by decide +kernel
theorem dX9_findMixed_19 : decode cX9_findMixed 19 = .ok (.aload_n 1, 1) := by decide +kernel
theorem dX9_findMixed_20 : decode cX9_findMixed 20 = .ok (.getfield 50, 3) := by decide +kernel
theorem dX9_findMixed_23 : decode cX9_findMixed 23 = .ok (.if_icmp .ge 58, 3) := by decide +kernel
theorem dX9_findMixed_26 : decode cX9_findMixed 26 = .ok (.iconst 0, 1) := by decide +kernel
theorem dX9_findMixed_27 : decode cX9_findMixed 27 = .ok (.istore_n 3, 1) := by decide +kernel
theorem dX9_findMixed_28 : decode cX9_findMixed 28 = .ok (.iload_n 3, 1) := by decide +kernel
theorem dX9_findMixed_29 : decode cX9_findMixed 29 = .ok (.aload_n 1, 1) := by decide +kernel
theorem dX9_findMixed_30 : decode cX9_findMixed 30 = .ok (.getfield 25, 3) := by decide +kernel
theorem dX9_findMixed_33 : decode cX9_findMixed 33 = .ok (.getfield 53, 3) := by decide +kernel
theorem dX9_findMixed_36 : decode cX9_findMixed 36 = .ok (.if_icmp .ge 39, 3) := by decide +kernel
theorem dX9_findMixed_39 : decode cX9_findMixed 39 = .ok (.aload_n 1, 1) := by decide +kernel
theorem dX9_findMixed_40 : decode cX9_findMixed 40 = .ok (.getfield 56, 3) := by decide +kernel
theorem dX9_findMixed_43 : decode cX9_findMixed 43 = .ok (.iload_n 2, 1) := by decide +kernel
theorem dX9_findMixed_44 : decode cX9_findMixed 44 = .ok (.iaload, 1) := by decide +kernel
theorem dX9_findMixed_45 : decode cX9_findMixed 45 = .ok (.iload_n 3, 1) := by decide +kernel
theorem dX9_findMixed_46 : decode cX9_findMixed 46 = .ok (.invokestatic 57, 3) := by decide +kernel
theorem dX9_findMixed_49 : decode cX9_findMixed 49 = .ok (.ifCond .eq 20, 3) := by decide +kernel
theorem dX9_findMixed_52 : decode cX9_findMixed 52 = .ok (.aload_n 0, 1) := by decide +kernel
theorem dX9_findMixed_53 : decode cX9_findMixed 53 = .ok (.getfield 18, 3) := by decide +kernel
theorem dX9_findMixed_56 : decode cX9_findMixed 56 = .ok (.iload_n 3, 1) := by decide +kernel
theorem dX9_findMixed_57 : decode cX9_findMixed 57 = .ok (.dup2, 1) := by decide +kernel
theorem dX9_findMixed_58 : decode cX9_findMixed 58 = .ok (.iaload, 1) := by decide +kernel
theorem dX9_findMixed_59 : decode cX9_findMixed 59 = .ok (.iconst 1, 1) := by decide +kernel
theorem dX9_findMixed_60 : decode cX9_findMixed 60 = .ok (.aload_n 1, 1) := by decide +kernel
theorem dX9_findMixed_61 : decode cX9_findMixed 61 = .ok (.getfield 61, 3) := by decide +kernel
theorem dX9_findMixed_64 : decode cX9_findMixed 64 = .ok (.iload_n 2, 1) := by decide +kernel
theorem dX9_findMixed_65 : decode cX9_findMixed 65 = .ok (.iaload, 1) := by decide +kernel
theorem dX9_findMixed_66 : decode cX9_findMixed 66 = .ok (.ishl, 1) := by decide +kernel
theorem dX9_findMixed_67 : decode cX9_findMixed 67 = .ok (.ior, 1) := by decide +kernel
theorem dX9_findMixed_68 : decode cX9_findMixed 68 = .ok (.iastore, 1) := by decide +kernel
theorem dX9_findMixed_69 : decode cX9_findMixed 69 = .ok (.iinc 3 1, 3) := by decide +kernel
theorem dX9_findMixed_72 : decode cX9_findMixed 72 = .ok (.goto (-44), 3) := by decide +kernel
theorem dX9_findMixed_75 : decode cX9_findMixed 75 = .ok (.iinc 2 1, 3) := by decide +kernel
theorem dX9_findMixed_78 : decode cX9_findMixed 78 = .ok (.goto (-60), 3) := by decide +kernel
theorem dX9_findMixed_81 : decode cX9_findMixed 81 = .ok (.iconst 0, 1) := by decide +kernel
theorem dX9_findMixed_82 : decode cX9_findMixed 82 = .ok (.istore_n 2, 1) := by decide +kernel
theorem dX9_findMixed_83 : decode cX9_findMixed 83 = .ok (.iload_n 2, 1) := by decide +kernel
theorem dX9_findMixed_84 : decode cX9_findMixed 84 = .ok (.aload_n 1, 1) := by decide +kernel
theorem dX9_findMixed_85 : decode cX9_findMixed 85 = .ok (.getfield 25, 3) := by decide +kernel
theorem dX9_findMixed_88 : decode cX9_findMixed 88 = .ok (.getfield 31, 3) := by decide +kernel
theorem dX9_findMixed_91 : decode cX9_findMixed 91 = .ok (.if_icmp .ge 56, 3) := by decide +kernel
theorem dX9_findMixed_94 : decode cX9_findMixed 94 = .ok (.iconst 0, 1) := by decide +kernel
theorem dX9_findMixed_95 : decode cX9_findMixed 95 = .ok (.istore_n 3, 1) := by decide +kernel
theorem dX9_findMixed_96 : decode cX9_findMixed 96 = .ok (.iload_n 3, 1) := by decide +kernel
theorem dX9_findMixed_97 : decode cX9_findMixed 97 = .ok (.aload_n 1, 1) := by decide +kernel
theorem dX9_findMixed_98 : decode cX9_findMixed 98 = .ok (.getfield 25, 3) := by decide +kernel
theorem dX9_findMixed_101 : decode cX9_findMixed 101 = .ok (.getfield 53, 3) := by decide +kernel
theorem dX9_findMixed_104 : decode cX9_findMixed 104 = .ok (.if_icmp .ge 37, 3) := by decide +kernel
theorem dX9_findMixed_107 : decode cX9_findMixed 107 = .ok (.aload_n 0, 1) := by decide +kernel
theorem dX9_findMixed_108 : decode cX9_findMixed 108 = .ok (.getfield 18, 3) := by decide +kernel
theorem dX9_findMixed_111 : decode cX9_findMixed 111 = .ok (.iload_n 3, 1) := by decide +kernel
theorem dX9_findMixed_112 : decode cX9_findMixed 112 = .ok (.iaload, 1) := by decide +kernel
theorem dX9_findMixed_113 : decode cX9_findMixed 113 = .ok (.iload_n 2, 1) := by decide +kernel
theorem dX9_findMixed_114 : decode cX9_findMixed 114 = .ok (.invokestatic 57, 3) := by decide +kernel
theorem dX9_findMixed_117 : decode cX9_findMixed 117 = .ok (.ifCond .eq 18, 3) := by decide +kernel
theorem dX9_findMixed_120 : decode cX9_findMixed 120 = .ok (.aload_n 0, 1) := by decide +kernel
theorem dX9_findMixed_121 : decode cX9_findMixed 121 = .ok (.getfield 15, 3) := by decide +kernel
theorem dX9_findMixed_124 : decode cX9_findMixed 124 = .ok (.iload_n 2, 1) := by decide +kernel
theorem dX9_findMixed_125 : decode cX9_findMixed 125 = .ok (.dup2, 1) := by decide +kernel
theorem dX9_findMixed_126 : decode cX9_findMixed 126 = .ok (.iaload, 1) := by decide +kernel
theorem dX9_findMixed_127 : decode cX9_findMixed 127 = .ok (.aload_n 0, 1) := by decide +kernel
theorem dX9_findMixed_128 : decode cX9_findMixed 128 = .ok (.getfield 18, 3) := by decide +kernel
theorem dX9_findMixed_131 : decode cX9_findMixed 131 = .ok (.iload_n 3, 1) := by decide +kernel
theorem dX9_findMixed_132 : decode cX9_findMixed 132 = .ok (.iaload, 1) := by decide +kernel
theorem dX9_findMixed_133 : decode cX9_findMixed 133 = .ok (.ior, 1) := by decide +kernel
theorem dX9_findMixed_134 : decode cX9_findMixed 134 = .ok (.iastore, 1) := by decide +kernel
theorem dX9_findMixed_135 : decode cX9_findMixed 135 = .ok (.iinc 3 1, 3) := by decide +kernel
theorem dX9_findMixed_138 : decode cX9_findMixed 138 = .ok (.goto (-42), 3) := by decide +kernel
theorem dX9_findMixed_141 : decode cX9_findMixed 141 = .ok (.iinc 2 1, 3) := by decide +kernel
theorem dX9_findMixed_144 : decode cX9_findMixed 144 = .ok (.goto (-61), 3) := by decide +kernel
theorem dX9_findMixed_147 : decode cX9_findMixed 147 = .ok (.return_, 1) := by decide +kernel
def w_X9_findMixed_28 (o : Nat) (a1 : Nat) (a1h : Nat) (post : mI → Prop) (k18 : mI → Int32 → Prop) (I : mI) (v2 : Int32) (v3 : Int32) : Prop := ∀ ZZ : (mI → Int32 → Int32 → Prop), (∀ (I : mI) (v2 : Int32) (v3 : Int32), (((I a1h 2) ≤ v3 → ∀ x3, x3 = v2 + 1 → k18 I x3) ∧ (¬ (I a1h 2) ≤ v3 → vp_in v2 600 ∧ w_X11_has (I (a1 + 7) v2.toNatClampNeg) v3 (fun b4 => (b4 = false → ∀ x5, x5 = v3 + 1 → ZZ I v2 x5) ∧ (b4 = true → vp_in v3 6 ∧ vp_in v2 600 ∧ vp_in v3 6 ∧ ∀ I6, I6 = up2 I (o + 3) v3.toNatClampNeg ((I (o + 3) v3.toNatClampNeg) ||| (1 <<< ((I (a1 + 1) v2.toNatClampNeg) &&& 31))) → ∀ x7, x7 = v3 + 1 → ZZ I6 v2 x7)))) → ZZ I v2 v3) → ZZ I v2 v3
set_option maxRecDepth 100000 in
set_option maxHeartbeats 4000000 in
theorem s_X9_findMixed_28 {p : Program} {l : Launch} {e : Env} {s : State} {m : MethodId} {args : Array Value} {below : List Frame} {meth : Method} {c : Code} {D : va_G} {cA : Nat → ClassId} {Z : mZ} {bs : Ad} {n : Nat} {K : mK} {R : mR} {L : mL} (E : Ev p s m args c cX9_findMixed 4 RX9 D cA Z bs) (hr : meth.sig.returnType = none) (hlk : meth.locks = false) {o : Nat} {a1 : Nat} {a1h : Nat} (ho : isX9 K R o) (ha1 : isX2 K R a1 a1h) {post : mI → Prop} {k18 : mI → Int32 → Prop} (hk18 : ∀ (I : mI) (v2 : Int32) (H : Heap) (locs : List Loc) (ls : Array Slot), k18 I v2 → mm D cA bs (n, K, R, I, L) H → va_S (Ab bs) s.heap H locs → lv_has ls 4 [(0, .ref (ad bs o)), (1, .ref (ad bs a1)), (2, .int v2)] → W p l e ({ frames := 1, cells := 0, slots := 0, locals := 23 } : Room) s m args below meth c H locs 0 0 (MQ below (QV D cA bs (fun u => ∃ I', u = (n, K, R, I', L) ∧ post I')) args s 0 0 (Ab bs)) (F0 m 18 ls [])) {I : mI} {v2 : Int32} {v3 : Int32} {H : Heap} {locs : List Loc} {ls : Array Slot} (hw : w_X9_findMixed_28 o a1 a1h post k18 I v2 v3) (hM : mm D cA bs (n, K, R, I, L) H) (hS : va_S (Ab bs) s.heap H locs) (hl : lv_has ls 4 [(0, .ref (ad bs o)), (1, .ref (ad bs a1)), (2, .int v2), (3, .int v3)]) : W p l e ({ frames := 1, cells := 0, slots := 0, locals := 23 } : Room) s m args below meth c H locs 0 0 (MQ below (QV D cA bs (fun u => ∃ I', u = (n, K, R, I', L) ∧ post I')) args s 0 0 (Ab bs)) (F0 m 28 ls []) := by
  have hx := E.1.1
  have hb := E.1.2.1
  refine hw (fun I v2 v3 => ∀ (H : Heap) (locs : List Loc) (ls : Array Slot), mm D cA bs (n, K, R, I, L) H → va_S (Ab bs) s.heap H locs → lv_has ls 4 [(0, .ref (ad bs o)), (1, .ref (ad bs a1)), (2, .int v2), (3, .int v3)] → W p l e ({ frames := 1, cells := 0, slots := 0, locals := 23 } : Room) s m args below meth c H locs 0 0 (MQ below (QV D cA bs (fun u => ∃ I', u = (n, K, R, I', L) ∧ post I')) args s 0 0 (Ab bs)) (F0 m 28 ls [])) ?_ H locs ls hM hS hl
  clear hw hM hS hl
  intro I v2 v3 hw H locs ls hM hS hl
  refine lv_iload_n hx hb dX9_findMixed_28 rfl (lv_at hl 3 rfl) ?_
  refine lv_aload_n hx hb dX9_findMixed_29 rfl (lv_at hl 1 rfl) ?_
  refine m_getr E hM fs_X9_25 ha1.1.1 ha1.2.1 dX9_findMixed_30 ?_
  refine m_geti E hM fs_X9_53 ha1.2.2.1 dX9_findMixed_33 ?_
  refine lv_icmp_ge (tgt := 75) hx hb dX9_findMixed_36 (by decide) (fun cq => ?_) (fun cq => ?_)
  · have hw := hw.1 cq
    obtain ⟨x3, ex3⟩ : ∃ y : Int32, y = v2 + 1 := ⟨_, rfl⟩
    have hw := hw x3 ex3
    refine lv_iinc (v := x3) (lv' := [(2, .int x3), (0, .ref (ad bs o)), (1, .ref (ad bs a1)), (3, .int v3)]) hx hb dX9_findMixed_75 hl (k := 2) rfl (by rw [ex3]; rfl) (by decide) rfl (fun ls hl => ?_)
    refine lv_goto (tgt := 18) hx hb dX9_findMixed_78 (by decide) ?_
    exact hk18 _ _ H locs ls  hw hM hS (lv_sub hl [1, 2, 0] rfl)
  · have hw := hw.2 cq
    refine lv_aload_n hx hb dX9_findMixed_39 rfl (lv_at hl 1 rfl) ?_
    refine m_getr E hM fs_X9_56 ha1.1.1 (isO_at ha1.1 6 rfl).1 dX9_findMixed_40 ?_
    refine lv_iload_n hx hb dX9_findMixed_43 rfl (lv_at hl 2 rfl) ?_
    obtain ⟨hv, hw⟩ := hw
    refine m_iald E hM (isO_at ha1.1 6 rfl).2 hv dX9_findMixed_44 ?_
    refine lv_iload_n hx hb dX9_findMixed_45 rfl (lv_at hl 3 rfl) ?_
    refine m_ci (m_runSN E hM hS cs_X9_57 (c_X11_has  hw) rfl rfl ⟨Nat.le_of_ble_eq_true rfl, Nat.le_of_ble_eq_true rfl⟩ rfl hl.1 rfl (Nat.le_of_ble_eq_true rfl) dX9_findMixed_46 ⟨Nat.le_of_ble_eq_true rfl, Nat.le_of_ble_eq_true rfl⟩) hS (fun r9 u H locs hp hM hS => ?_)
    obtain ⟨b4, rfl, rfl, hw⟩ := hp
    refine lv_if_eq (tgt := 69) hx hb dX9_findMixed_49 (by decide) (fun cq => ?_) (fun cq => ?_)
    · have hw := hw.1 (bI_f cq)
      obtain ⟨x5, ex5⟩ : ∃ y : Int32, y = v3 + 1 := ⟨_, rfl⟩
      have hw := hw x5 ex5
      refine lv_iinc (v := x5) (lv' := [(3, .int x5), (0, .ref (ad bs o)), (1, .ref (ad bs a1)), (2, .int v2)]) hx hb dX9_findMixed_69 hl (k := 3) rfl (by rw [ex5]; rfl) (by decide) rfl (fun ls hl => ?_)
      refine lv_goto (tgt := 28) hx hb dX9_findMixed_72 (by decide) ?_
      exact hw H locs ls  hM hS (lv_sub hl [1, 2, 3, 0] rfl)
    · have hw := hw.2 (bI_t cq)
      refine lv_aload_n hx hb dX9_findMixed_52 rfl (lv_at hl 0 rfl) ?_
      refine m_getr E hM fs_X9_18 ho.1 (isO_at ho 2 rfl).1 dX9_findMixed_53 ?_
      refine lv_iload_n hx hb dX9_findMixed_56 rfl (lv_at hl 3 rfl) ?_
      refine lv_dup2_11 hx hb dX9_findMixed_57 rfl rfl ?_
      obtain ⟨hv, hw⟩ := hw
      refine m_iald E hM (isO_at ho 2 rfl).2 hv dX9_findMixed_58 ?_
      refine lv_iconst (v := 1) hx hb dX9_findMixed_59 (by decide) ?_
      refine lv_aload_n hx hb dX9_findMixed_60 rfl (lv_at hl 1 rfl) ?_
      refine m_getr E hM fs_X9_61 ha1.1.1 (isO_at ha1.1 0 rfl).1 dX9_findMixed_61 ?_
      refine lv_iload_n hx hb dX9_findMixed_64 rfl (lv_at hl 2 rfl) ?_
      obtain ⟨hv, hw⟩ := hw
      refine m_iald E hM (isO_at ha1.1 0 rfl).2 hv dX9_findMixed_65 ?_
      refine lv_ishl hx hb dX9_findMixed_66 ?_
      refine lv_ior hx hb dX9_findMixed_67 ?_
      obtain ⟨hv, hw⟩ := hw
      refine m_iast E hM hS (isO_at ho 2 rfl).2 hv dX9_findMixed_68 (fun I6 H locs eI6 hM hS => ?_)
      have hw := hw I6 eI6
      obtain ⟨x7, ex7⟩ : ∃ y : Int32, y = v3 + 1 := ⟨_, rfl⟩
      have hw := hw x7 ex7
      refine lv_iinc (v := x7) (lv' := [(3, .int x7), (0, .ref (ad bs o)), (1, .ref (ad bs a1)), (2, .int v2)]) hx hb dX9_findMixed_69 hl (k := 3) rfl (by rw [ex7]; rfl) (by decide) rfl (fun ls hl => ?_)
      refine lv_goto (tgt := 28) hx hb dX9_findMixed_72 (by decide) ?_
      exact hw H locs ls  hM hS (lv_sub hl [1, 2, 3, 0] rfl)
def w_X9_findMixed_18 (o : Nat) (a1 : Nat) (a1h : Nat) (post : mI → Prop) (k83 : mI → Int32 → Prop) (I : mI) (v2 : Int32) : Prop := ∀ ZZ : (mI → Int32 → Prop), (∀ (I : mI) (v2 : Int32), (((I a1 2) ≤ v2 → k83 I 0) ∧ (¬ (I a1 2) ≤ v2 → (w_X9_findMixed_28 o a1 a1h post ZZ) I v2 0)) → ZZ I v2) → ZZ I v2
set_option maxRecDepth 100000 in
set_option maxHeartbeats 4000000 in
theorem s_X9_findMixed_18 {p : Program} {l : Launch} {e : Env} {s : State} {m : MethodId} {args : Array Value} {below : List Frame} {meth : Method} {c : Code} {D : va_G} {cA : Nat → ClassId} {Z : mZ} {bs : Ad} {n : Nat} {K : mK} {R : mR} {L : mL} (E : Ev p s m args c cX9_findMixed 4 RX9 D cA Z bs) (hr : meth.sig.returnType = none) (hlk : meth.locks = false) {o : Nat} {a1 : Nat} {a1h : Nat} (ho : isX9 K R o) (ha1 : isX2 K R a1 a1h) {post : mI → Prop} {k83 : mI → Int32 → Prop} (hk83 : ∀ (I : mI) (v2 : Int32) (H : Heap) (locs : List Loc) (ls : Array Slot), k83 I v2 → mm D cA bs (n, K, R, I, L) H → va_S (Ab bs) s.heap H locs → lv_has ls 4 [(0, .ref (ad bs o)), (1, .ref (ad bs a1)), (2, .int v2)] → W p l e ({ frames := 1, cells := 0, slots := 0, locals := 23 } : Room) s m args below meth c H locs 0 0 (MQ below (QV D cA bs (fun u => ∃ I', u = (n, K, R, I', L) ∧ post I')) args s 0 0 (Ab bs)) (F0 m 83 ls [])) {I : mI} {v2 : Int32} {H : Heap} {locs : List Loc} {ls : Array Slot} (hw : w_X9_findMixed_18 o a1 a1h post k83 I v2) (hM : mm D cA bs (n, K, R, I, L) H) (hS : va_S (Ab bs) s.heap H locs) (hl : lv_has ls 4 [(0, .ref (ad bs o)), (1, .ref (ad bs a1)), (2, .int v2)]) : W p l e ({ frames := 1, cells := 0, slots := 0, locals := 23 } : Room) s m args below meth c H locs 0 0 (MQ below (QV D cA bs (fun u => ∃ I', u = (n, K, R, I', L) ∧ post I')) args s 0 0 (Ab bs)) (F0 m 18 ls []) := by
  have hx := E.1.1
  have hb := E.1.2.1
  refine hw (fun I v2 => ∀ (H : Heap) (locs : List Loc) (ls : Array Slot), mm D cA bs (n, K, R, I, L) H → va_S (Ab bs) s.heap H locs → lv_has ls 4 [(0, .ref (ad bs o)), (1, .ref (ad bs a1)), (2, .int v2)] → W p l e ({ frames := 1, cells := 0, slots := 0, locals := 23 } : Room) s m args below meth c H locs 0 0 (MQ below (QV D cA bs (fun u => ∃ I', u = (n, K, R, I', L) ∧ post I')) args s 0 0 (Ab bs)) (F0 m 18 ls [])) ?_ H locs ls hM hS hl
  clear hw hM hS hl
  intro I v2 hw H locs ls hM hS hl
  refine lv_iload_n hx hb dX9_findMixed_18 rfl (lv_at hl 2 rfl) ?_
  refine lv_aload_n hx hb dX9_findMixed_19 rfl (lv_at hl 1 rfl) ?_
  refine m_geti E hM fs_X9_50 ha1.1.1 dX9_findMixed_20 ?_
  refine lv_icmp_ge (tgt := 81) hx hb dX9_findMixed_23 (by decide) (fun cq => ?_) (fun cq => ?_)
  · have hw := hw.1 cq
    refine lv_iconst (v := 0) hx hb dX9_findMixed_81 (by decide) ?_
    refine lv_istore_n (lv' := [(2, .int 0), (0, .ref (ad bs o)), (1, .ref (ad bs a1))]) hx hb dX9_findMixed_82 rfl hl (by decide) rfl (fun ls hl => ?_)
    exact hk83 _ _ H locs ls  hw hM hS (lv_sub hl [1, 2, 0] rfl)
  · have hw := hw.2 cq
    refine lv_iconst (v := 0) hx hb dX9_findMixed_26 (by decide) ?_
    refine lv_istore_n (lv' := [(3, .int 0), (0, .ref (ad bs o)), (1, .ref (ad bs a1)), (2, .int v2)]) hx hb dX9_findMixed_27 rfl hl (by decide) rfl (fun ls hl => ?_)
    exact s_X9_findMixed_28 E hr hlk ho ha1 (fun I v2 H locs ls  hw hM hS hl => hw H locs ls  hM hS hl)  hw hM hS (lv_sub hl [1, 2, 3, 0] rfl)
def w_X9_findMixed_96 (o : Nat) (a1 : Nat) (a1h : Nat) (post : mI → Prop) (k83 : mI → Int32 → Prop) (I : mI) (v2 : Int32) (v3 : Int32) : Prop := ∀ ZZ : (mI → Int32 → Int32 → Prop), (∀ (I : mI) (v2 : Int32) (v3 : Int32), (((I a1h 2) ≤ v3 → ∀ x8, x8 = v2 + 1 → k83 I x8) ∧ (¬ (I a1h 2) ≤ v3 → vp_in v3 6 ∧ w_X11_has (I (o + 3) v3.toNatClampNeg) v2 (fun b9 => (b9 = false → ∀ x10, x10 = v3 + 1 → ZZ I v2 x10) ∧ (b9 = true → vp_in v2 6 ∧ vp_in v3 6 ∧ vp_in v2 6 ∧ ∀ I11, I11 = up2 I (o + 2) v2.toNatClampNeg ((I (o + 2) v2.toNatClampNeg) ||| (I (o + 3) v3.toNatClampNeg)) → ∀ x12, x12 = v3 + 1 → ZZ I11 v2 x12)))) → ZZ I v2 v3) → ZZ I v2 v3
set_option maxRecDepth 100000 in
set_option maxHeartbeats 4000000 in
theorem s_X9_findMixed_96 {p : Program} {l : Launch} {e : Env} {s : State} {m : MethodId} {args : Array Value} {below : List Frame} {meth : Method} {c : Code} {D : va_G} {cA : Nat → ClassId} {Z : mZ} {bs : Ad} {n : Nat} {K : mK} {R : mR} {L : mL} (E : Ev p s m args c cX9_findMixed 4 RX9 D cA Z bs) (hr : meth.sig.returnType = none) (hlk : meth.locks = false) {o : Nat} {a1 : Nat} {a1h : Nat} (ho : isX9 K R o) (ha1 : isX2 K R a1 a1h) {post : mI → Prop} {k83 : mI → Int32 → Prop} (hk83 : ∀ (I : mI) (v2 : Int32) (H : Heap) (locs : List Loc) (ls : Array Slot), k83 I v2 → mm D cA bs (n, K, R, I, L) H → va_S (Ab bs) s.heap H locs → lv_has ls 4 [(0, .ref (ad bs o)), (1, .ref (ad bs a1)), (2, .int v2)] → W p l e ({ frames := 1, cells := 0, slots := 0, locals := 23 } : Room) s m args below meth c H locs 0 0 (MQ below (QV D cA bs (fun u => ∃ I', u = (n, K, R, I', L) ∧ post I')) args s 0 0 (Ab bs)) (F0 m 83 ls [])) {I : mI} {v2 : Int32} {v3 : Int32} {H : Heap} {locs : List Loc} {ls : Array Slot} (hw : w_X9_findMixed_96 o a1 a1h post k83 I v2 v3) (hM : mm D cA bs (n, K, R, I, L) H) (hS : va_S (Ab bs) s.heap H locs) (hl : lv_has ls 4 [(0, .ref (ad bs o)), (1, .ref (ad bs a1)), (2, .int v2), (3, .int v3)]) : W p l e ({ frames := 1, cells := 0, slots := 0, locals := 23 } : Room) s m args below meth c H locs 0 0 (MQ below (QV D cA bs (fun u => ∃ I', u = (n, K, R, I', L) ∧ post I')) args s 0 0 (Ab bs)) (F0 m 96 ls []) := by
  have hx := E.1.1
  have hb := E.1.2.1
  refine hw (fun I v2 v3 => ∀ (H : Heap) (locs : List Loc) (ls : Array Slot), mm D cA bs (n, K, R, I, L) H → va_S (Ab bs) s.heap H locs → lv_has ls 4 [(0, .ref (ad bs o)), (1, .ref (ad bs a1)), (2, .int v2), (3, .int v3)] → W p l e ({ frames := 1, cells := 0, slots := 0, locals := 23 } : Room) s m args below meth c H locs 0 0 (MQ below (QV D cA bs (fun u => ∃ I', u = (n, K, R, I', L) ∧ post I')) args s 0 0 (Ab bs)) (F0 m 96 ls [])) ?_ H locs ls hM hS hl
  clear hw hM hS hl
  intro I v2 v3 hw H locs ls hM hS hl
  refine lv_iload_n hx hb dX9_findMixed_96 rfl (lv_at hl 3 rfl) ?_
  refine lv_aload_n hx hb dX9_findMixed_97 rfl (lv_at hl 1 rfl) ?_
  refine m_getr E hM fs_X9_25 ha1.1.1 ha1.2.1 dX9_findMixed_98 ?_
  refine m_geti E hM fs_X9_53 ha1.2.2.1 dX9_findMixed_101 ?_
  refine lv_icmp_ge (tgt := 141) hx hb dX9_findMixed_104 (by decide) (fun cq => ?_) (fun cq => ?_)
  · have hw := hw.1 cq
    obtain ⟨x8, ex8⟩ : ∃ y : Int32, y = v2 + 1 := ⟨_, rfl⟩
    have hw := hw x8 ex8
    refine lv_iinc (v := x8) (lv' := [(2, .int x8), (0, .ref (ad bs o)), (1, .ref (ad bs a1)), (3, .int v3)]) hx hb dX9_findMixed_141 hl (k := 2) rfl (by rw [ex8]; rfl) (by decide) rfl (fun ls hl => ?_)
    refine lv_goto (tgt := 83) hx hb dX9_findMixed_144 (by decide) ?_
    exact hk83 _ _ H locs ls  hw hM hS (lv_sub hl [1, 2, 0] rfl)
  · have hw := hw.2 cq
    refine lv_aload_n hx hb dX9_findMixed_107 rfl (lv_at hl 0 rfl) ?_
    refine m_getr E hM fs_X9_18 ho.1 (isO_at ho 2 rfl).1 dX9_findMixed_108 ?_
    refine lv_iload_n hx hb dX9_findMixed_111 rfl (lv_at hl 3 rfl) ?_
    obtain ⟨hv, hw⟩ := hw
    refine m_iald E hM (isO_at ho 2 rfl).2 hv dX9_findMixed_112 ?_
    refine lv_iload_n hx hb dX9_findMixed_113 rfl (lv_at hl 2 rfl) ?_
    refine m_ci (m_runSN E hM hS cs_X9_57 (c_X11_has  hw) rfl rfl ⟨Nat.le_of_ble_eq_true rfl, Nat.le_of_ble_eq_true rfl⟩ rfl hl.1 rfl (Nat.le_of_ble_eq_true rfl) dX9_findMixed_114 ⟨Nat.le_of_ble_eq_true rfl, Nat.le_of_ble_eq_true rfl⟩) hS (fun r9 u H locs hp hM hS => ?_)
    obtain ⟨b9, rfl, rfl, hw⟩ := hp
    refine lv_if_eq (tgt := 135) hx hb dX9_findMixed_117 (by decide) (fun cq => ?_) (fun cq => ?_)
    · have hw := hw.1 (bI_f cq)
      obtain ⟨x10, ex10⟩ : ∃ y : Int32, y = v3 + 1 := ⟨_, rfl⟩
      have hw := hw x10 ex10
      refine lv_iinc (v := x10) (lv' := [(3, .int x10), (0, .ref (ad bs o)), (1, .ref (ad bs a1)), (2, .int v2)]) hx hb dX9_findMixed_135 hl (k := 3) rfl (by rw [ex10]; rfl) (by decide) rfl (fun ls hl => ?_)
      refine lv_goto (tgt := 96) hx hb dX9_findMixed_138 (by decide) ?_
      exact hw H locs ls  hM hS (lv_sub hl [1, 2, 3, 0] rfl)
    · have hw := hw.2 (bI_t cq)
      refine lv_aload_n hx hb dX9_findMixed_120 rfl (lv_at hl 0 rfl) ?_
      refine m_getr E hM fs_X9_15 ho.1 (isO_at ho 1 rfl).1 dX9_findMixed_121 ?_
      refine lv_iload_n hx hb dX9_findMixed_124 rfl (lv_at hl 2 rfl) ?_
      refine lv_dup2_11 hx hb dX9_findMixed_125 rfl rfl ?_
      obtain ⟨hv, hw⟩ := hw
      refine m_iald E hM (isO_at ho 1 rfl).2 hv dX9_findMixed_126 ?_
      refine lv_aload_n hx hb dX9_findMixed_127 rfl (lv_at hl 0 rfl) ?_
      refine m_getr E hM fs_X9_18 ho.1 (isO_at ho 2 rfl).1 dX9_findMixed_128 ?_
      refine lv_iload_n hx hb dX9_findMixed_131 rfl (lv_at hl 3 rfl) ?_
      obtain ⟨hv, hw⟩ := hw
      refine m_iald E hM (isO_at ho 2 rfl).2 hv dX9_findMixed_132 ?_
      refine lv_ior hx hb dX9_findMixed_133 ?_
      obtain ⟨hv, hw⟩ := hw
      refine m_iast E hM hS (isO_at ho 1 rfl).2 hv dX9_findMixed_134 (fun I11 H locs eI11 hM hS => ?_)
      have hw := hw I11 eI11
      obtain ⟨x12, ex12⟩ : ∃ y : Int32, y = v3 + 1 := ⟨_, rfl⟩
      have hw := hw x12 ex12
      refine lv_iinc (v := x12) (lv' := [(3, .int x12), (0, .ref (ad bs o)), (1, .ref (ad bs a1)), (2, .int v2)]) hx hb dX9_findMixed_135 hl (k := 3) rfl (by rw [ex12]; rfl) (by decide) rfl (fun ls hl => ?_)
      refine lv_goto (tgt := 96) hx hb dX9_findMixed_138 (by decide) ?_
      exact hw H locs ls  hM hS (lv_sub hl [1, 2, 3, 0] rfl)
def w_X9_findMixed_83 (o : Nat) (a1 : Nat) (a1h : Nat) (post : mI → Prop) (I : mI) (v2 : Int32) : Prop := ∀ ZZ : (mI → Int32 → Prop), (∀ (I : mI) (v2 : Int32), (((I a1h 3) ≤ v2 → post I) ∧ (¬ (I a1h 3) ≤ v2 → (w_X9_findMixed_96 o a1 a1h post ZZ) I v2 0)) → ZZ I v2) → ZZ I v2
set_option maxRecDepth 100000 in
set_option maxHeartbeats 4000000 in
theorem s_X9_findMixed_83 {p : Program} {l : Launch} {e : Env} {s : State} {m : MethodId} {args : Array Value} {below : List Frame} {meth : Method} {c : Code} {D : va_G} {cA : Nat → ClassId} {Z : mZ} {bs : Ad} {n : Nat} {K : mK} {R : mR} {L : mL} (E : Ev p s m args c cX9_findMixed 4 RX9 D cA Z bs) (hr : meth.sig.returnType = none) (hlk : meth.locks = false) {o : Nat} {a1 : Nat} {a1h : Nat} (ho : isX9 K R o) (ha1 : isX2 K R a1 a1h) {post : mI → Prop} {I : mI} {v2 : Int32} {H : Heap} {locs : List Loc} {ls : Array Slot} (hw : w_X9_findMixed_83 o a1 a1h post I v2) (hM : mm D cA bs (n, K, R, I, L) H) (hS : va_S (Ab bs) s.heap H locs) (hl : lv_has ls 4 [(0, .ref (ad bs o)), (1, .ref (ad bs a1)), (2, .int v2)]) : W p l e ({ frames := 1, cells := 0, slots := 0, locals := 23 } : Room) s m args below meth c H locs 0 0 (MQ below (QV D cA bs (fun u => ∃ I', u = (n, K, R, I', L) ∧ post I')) args s 0 0 (Ab bs)) (F0 m 83 ls []) := by
  have hx := E.1.1
  have hb := E.1.2.1
  refine hw (fun I v2 => ∀ (H : Heap) (locs : List Loc) (ls : Array Slot), mm D cA bs (n, K, R, I, L) H → va_S (Ab bs) s.heap H locs → lv_has ls 4 [(0, .ref (ad bs o)), (1, .ref (ad bs a1)), (2, .int v2)] → W p l e ({ frames := 1, cells := 0, slots := 0, locals := 23 } : Room) s m args below meth c H locs 0 0 (MQ below (QV D cA bs (fun u => ∃ I', u = (n, K, R, I', L) ∧ post I')) args s 0 0 (Ab bs)) (F0 m 83 ls [])) ?_ H locs ls hM hS hl
  clear hw hM hS hl
  intro I v2 hw H locs ls hM hS hl
  refine lv_iload_n hx hb dX9_findMixed_83 rfl (lv_at hl 2 rfl) ?_
  refine lv_aload_n hx hb dX9_findMixed_84 rfl (lv_at hl 1 rfl) ?_
  refine m_getr E hM fs_X9_25 ha1.1.1 ha1.2.1 dX9_findMixed_85 ?_
  refine m_geti E hM fs_X9_31 ha1.2.2.1 dX9_findMixed_88 ?_
  refine lv_icmp_ge (tgt := 147) hx hb dX9_findMixed_91 (by decide) (fun cq => ?_) (fun cq => ?_)
  · have hw := hw.1 cq
    exact m_retv hx hb hr hlk hM hS ⟨_, rfl, hw⟩ dX9_findMixed_147
  · have hw := hw.2 cq
    refine lv_iconst (v := 0) hx hb dX9_findMixed_94 (by decide) ?_
    refine lv_istore_n (lv' := [(3, .int 0), (0, .ref (ad bs o)), (1, .ref (ad bs a1)), (2, .int v2)]) hx hb dX9_findMixed_95 rfl hl (by decide) rfl (fun ls hl => ?_)
    exact s_X9_findMixed_96 E hr hlk ho ha1 (fun I v2 H locs ls  hw hM hS hl => hw H locs ls  hM hS hl)  hw hM hS (lv_sub hl [1, 2, 3, 0] rfl)
def w_X9_findMixed (I : mI) (o : Nat) (a1 : Nat) (a1h : Nat) (post : mI → Prop) : Prop := w_J7_fill_53178 I (o + 3) 6 0 (fun I1 => w_J7_fill_53178 I1 (o + 2) 6 0 (fun I2 => (w_X9_findMixed_18 o a1 a1h post (w_X9_findMixed_83 o a1 a1h post)) I2 0))
set_option maxRecDepth 100000 in
set_option maxHeartbeats 4000000 in
theorem c_X9_findMixed {l : Launch} {D : va_G} {cA : Nat → ClassId} {Z : mZ} {bs : Ad} {n : Nat} {K : mK} {R : mR} {I : mI} {L : mL} {o : Nat} {a1 : Nat} {a1h : Nat} {post : mI → Prop} (ho : isX9 K R o) (ha1 : isX2 K R a1 a1h) (hw : w_X9_findMixed I o a1 a1h post) : Met l yX9_findMixed (.code yX9_findMixed cX9_findMixed 4 none :: gw) ({ frames := 1, cells := 0, slots := 0, locals := 23 } : Room) (PreM D cA Z bs (n, K, R, I, L) [.ref (ad bs o), .ref (ad bs a1)]) (QV D cA bs (fun u => ∃ I', u = (n, K, R, I', L) ∧ post I')) 0 0 (Ab bs) := by
  refine m_met (by decide) (Nat.le_of_ble_eq_true rfl) (fun p e s m below meth c ls E hr hlk hM hS hl => ?_)
  have E : Ev p s m _ c cX9_findMixed 4 RX9 D cA Z bs := E
  have hl : lv_has ls 4 [(0, .ref (ad bs o)), (1, .ref (ad bs a1))] := hl
  have hx := E.1.1
  have hb := E.1.2.1
  generalize hHe : s.heap = H at hM ⊢
  have hS : va_S (Ab bs) s.heap H [] := by rw [← hHe]; exact va_S.rf
  clear hHe
  refine lv_aload_n hx hb dX9_findMixed_0 rfl (lv_at hl 0 rfl) ?_
  refine m_getr E hM fs_X9_18 ho.1 (isO_at ho 2 rfl).1 dX9_findMixed_1 ?_
  refine lv_iconst (v := 0) hx hb dX9_findMixed_4 (by decide) ?_
  refine m_cv (m_runS E hM hS cs_X9_44 (c_J7_fill_53178 ((isO_at ho 2 rfl).2) hw) rfl rfl ⟨Nat.le_of_ble_eq_true rfl, Nat.le_of_ble_eq_true rfl⟩ rfl hl.1 rfl (Nat.le_of_ble_eq_true rfl) dX9_findMixed_5 ⟨Nat.le_of_ble_eq_true rfl, Nat.le_of_ble_eq_true rfl⟩) hS (fun u H locs hp hM hS => ?_)
  obtain ⟨I1, rfl, hw⟩ := hp
  refine lv_aload_n hx hb dX9_findMixed_8 rfl (lv_at hl 0 rfl) ?_
  refine m_getr E hM fs_X9_15 ho.1 (isO_at ho 1 rfl).1 dX9_findMixed_9 ?_
  refine lv_iconst (v := 0) hx hb dX9_findMixed_12 (by decide) ?_
  refine m_cv (m_runS E hM hS cs_X9_44 (c_J7_fill_53178 ((isO_at ho 1 rfl).2) hw) rfl rfl ⟨Nat.le_of_ble_eq_true rfl, Nat.le_of_ble_eq_true rfl⟩ rfl hl.1 rfl (Nat.le_of_ble_eq_true rfl) dX9_findMixed_13 ⟨Nat.le_of_ble_eq_true rfl, Nat.le_of_ble_eq_true rfl⟩) hS (fun u H locs hp hM hS => ?_)
  obtain ⟨I2, rfl, hw⟩ := hp
  refine lv_iconst (v := 0) hx hb dX9_findMixed_16 (by decide) ?_
  refine lv_istore_n (lv' := [(2, .int 0), (0, .ref (ad bs o)), (1, .ref (ad bs a1))]) hx hb dX9_findMixed_17 rfl hl (by decide) rfl (fun ls hl => ?_)
  exact s_X9_findMixed_18 E hr hlk ho ha1 (fun I v2 H locs ls  hw hM hS hl => s_X9_findMixed_83 E hr hlk ho ha1  hw hM hS hl)  hw hM hS (lv_sub hl [1, 2, 0] rfl)
theorem dX9_isFree_0 : decode cX9_isFree 0 = .ok (.iconst 0, 1) := by decide +kernel
theorem dX9_isFree_1 : decode cX9_isFree 1 = .ok (.istore_n 3, 1) := by decide +kernel
theorem dX9_isFree_2 : decode cX9_isFree 2 = .ok (.iload_n 3, 1) := by decide +kernel
theorem dX9_isFree_3 : decode cX9_isFree 3 = .ok (.iload_n 2, 1) := by decide +kernel
theorem dX9_isFree_4 : decode cX9_isFree 4 = .ok (.if_icmp .ge 30, 3) := by decide +kernel
theorem dX9_isFree_7 : decode cX9_isFree 7 = .ok (.aload_n 0, 1) := by decide +kernel
theorem dX9_isFree_8 : decode cX9_isFree 8 = .ok (.iload_n 2, 1) := by decide +kernel
theorem dX9_isFree_9 : decode cX9_isFree 9 = .ok (.iaload, 1) := by decide +kernel
theorem dX9_isFree_10 : decode cX9_isFree 10 = .ok (.iload_n 3, 1) := by decide +kernel
theorem dX9_isFree_11 : decode cX9_isFree 11 = .ok (.invokestatic 57, 3) := by decide +kernel
theorem dX9_isFree_14 : decode cX9_isFree 14 = .ok (.ifCond .eq 14, 3) := by decide +kernel
theorem dX9_isFree_17 : decode cX9_isFree 17 = .ok (.aload_n 1, 1) := by decide +kernel
theorem dX9_isFree_18 : decode cX9_isFree 18 = .ok (.iload_n 3, 1) := by decide +kernel
theorem dX9_isFree_19 : decode cX9_isFree 19 = .ok (.iaload, 1) := by decide +kernel
theorem dX9_isFree_20 : decode cX9_isFree 20 = .ok (.aload_n 1, 1) := by decide +kernel
theorem dX9_isFree_21 : decode cX9_isFree 21 = .ok (.iload_n 2, 1) := by decide +kernel
theorem dX9_isFree_22 : decode cX9_isFree 22 = .ok (.iaload, 1) := by decide +kernel
theorem dX9_isFree_23 : decode cX9_isFree 23 = .ok (.if_icmp .ne 5, 3) := by decide +kernel
theorem dX9_isFree_26 : decode cX9_isFree 26 = .ok (.iconst 0, 1) := by decide +kernel
theorem dX9_isFree_27 : decode cX9_isFree 27 = .ok (.ireturn, 1) := by decide +kernel
theorem dX9_isFree_28 : decode cX9_isFree 28 = .ok (.iinc 3 1, 3) := by decide +kernel
theorem dX9_isFree_31 : decode cX9_isFree 31 = .ok (.goto (-29), 3) := by decide +kernel
theorem dX9_isFree_34 : decode cX9_isFree 34 = .ok (.iconst 1, 1) := by decide +kernel
theorem dX9_isFree_35 : decode cX9_isFree 35 = .ok (.ireturn, 1) := by decide +kernel
def w_X9_isFree_2 (I : mI) (a1 : Nat) (a1n : Nat) (a2 : Nat) (a2n : Nat) (a3 : Int32) (post : Bool → Prop) (v3 : Int32) : Prop := ∀ ZZ : (Int32 → Prop), (∀ (v3 : Int32), ((a3 ≤ v3 → post true) ∧ (¬ a3 ≤ v3 → vp_in a3 a1n ∧ w_X11_has (I a1 a3.toNatClampNeg) v3 (fun b1 => (b1 = false → ∀ x2, x2 = v3 + 1 → ZZ x2) ∧ (b1 = true → vp_in v3 a2n ∧ vp_in a3 a2n ∧ (¬ (I a2 v3.toNatClampNeg) = (I a2 a3.toNatClampNeg) → ∀ x3, x3 = v3 + 1 → ZZ x3) ∧ ((I a2 v3.toNatClampNeg) = (I a2 a3.toNatClampNeg) → post false))))) → ZZ v3) → ZZ v3
set_option maxRecDepth 100000 in
set_option maxHeartbeats 4000000 in
theorem s_X9_isFree_2 {p : Program} {l : Launch} {e : Env} {s : State} {m : MethodId} {args : Array Value} {below : List Frame} {meth : Method} {c : Code} {D : va_G} {cA : Nat → ClassId} {Z : mZ} {bs : Ad} {n : Nat} {K : mK} {R : mR} {I : mI} {L : mL} (E : Ev p s m args c cX9_isFree 4 RX9 D cA Z bs) (hr : meth.sig.returnType = (some .boolean)) (hlk : meth.locks = false) {a1 : Nat} {a1n : Nat} {a2 : Nat} {a2n : Nat} {a3 : Int32} (ha1 : K a1 = (14, a1n)) (ha2 : K a2 = (14, a2n)) {post : Bool → Prop} {v3 : Int32} {H : Heap} {locs : List Loc} {ls : Array Slot} (hw : w_X9_isFree_2 I a1 a1n a2 a2n a3 post v3) (hM : mm D cA bs (n, K, R, I, L) H) (hS : va_S (Ab bs) s.heap H locs) (hl : lv_has ls 4 [(0, .ref (ad bs a1)), (1, .ref (ad bs a2)), (2, .int a3), (3, .int v3)]) : W p l e ({ frames := 1, cells := 0, slots := 0, locals := 21 } : Room) s m args below meth c H locs 0 0 (MQ below (QI D cA bs (fun r u => ∃ b, r = bI b ∧ u = (n, K, R, I, L) ∧ post b)) args s 0 0 (Ab bs)) (F0 m 2 ls []) := by
  have hx := E.1.1
  have hb := E.1.2.1
  refine hw (fun v3 => ∀ (H : Heap) (locs : List Loc) (ls : Array Slot), mm D cA bs (n, K, R, I, L) H → va_S (Ab bs) s.heap H locs → lv_has ls 4 [(0, .ref (ad bs a1)), (1, .ref (ad bs a2)), (2, .int a3), (3, .int v3)] → W p l e ({ frames := 1, cells := 0, slots := 0, locals := 21 } : Room) s m args below meth c H locs 0 0 (MQ below (QI D cA bs (fun r u => ∃ b, r = bI b ∧ u = (n, K, R, I, L) ∧ post b)) args s 0 0 (Ab bs)) (F0 m 2 ls [])) ?_ H locs ls hM hS hl
  clear hw hM hS hl
  intro v3 hw H locs ls hM hS hl
  refine lv_iload_n hx hb dX9_isFree_2 rfl (lv_at hl 3 rfl) ?_
  refine lv_iload_n hx hb dX9_isFree_3 rfl (lv_at hl 2 rfl) ?_
  refine lv_icmp_ge (tgt := 34) hx hb dX9_isFree_4 (by decide) (fun cq => ?_) (fun cq => ?_)
  · have hw := hw.1 cq
    refine lv_iconst (v := 1) hx hb dX9_isFree_34 (by decide) ?_
    exact m_retz hx hb hr hlk (Or.inr rfl) hM hS ⟨true, rfl, rfl, hw⟩ dX9_isFree_35
  · have hw := hw.2 cq
    refine lv_aload_n hx hb dX9_isFree_7 rfl (lv_at hl 0 rfl) ?_
    refine lv_iload_n hx hb dX9_isFree_8 rfl (lv_at hl 2 rfl) ?_
    obtain ⟨hv, hw⟩ := hw
    refine m_iald E hM ha1 hv dX9_isFree_9 ?_
    refine lv_iload_n hx hb dX9_isFree_10 rfl (lv_at hl 3 rfl) ?_
    refine m_ci (m_runSN E hM hS cs_X9_57 (c_X11_has  hw) rfl rfl ⟨Nat.le_of_ble_eq_true rfl, Nat.le_of_ble_eq_true rfl⟩ rfl hl.1 rfl (Nat.le_of_ble_eq_true rfl) dX9_isFree_11 ⟨Nat.le_of_ble_eq_true rfl, Nat.le_of_ble_eq_true rfl⟩) hS (fun r9 u H locs hp hM hS => ?_)
    obtain ⟨b1, rfl, rfl, hw⟩ := hp
    refine lv_if_eq (tgt := 28) hx hb dX9_isFree_14 (by decide) (fun cq => ?_) (fun cq => ?_)
    · have hw := hw.1 (bI_f cq)
      obtain ⟨x2, ex2⟩ : ∃ y : Int32, y = v3 + 1 := ⟨_, rfl⟩
      have hw := hw x2 ex2
      refine lv_iinc (v := x2) (lv' := [(3, .int x2), (0, .ref (ad bs a1)), (1, .ref (ad bs a2)), (2, .int a3)]) hx hb dX9_isFree_28 hl (k := 3) rfl (by rw [ex2]; rfl) (by decide) rfl (fun ls hl => ?_)
      refine lv_goto (tgt := 2) hx hb dX9_isFree_31 (by decide) ?_
      exact hw H locs ls  hM hS (lv_sub hl [1, 2, 3, 0] rfl)
    · have hw := hw.2 (bI_t cq)
      refine lv_aload_n hx hb dX9_isFree_17 rfl (lv_at hl 1 rfl) ?_
      refine lv_iload_n hx hb dX9_isFree_18 rfl (lv_at hl 3 rfl) ?_
      obtain ⟨hv, hw⟩ := hw
      refine m_iald E hM ha2 hv dX9_isFree_19 ?_
      refine lv_aload_n hx hb dX9_isFree_20 rfl (lv_at hl 1 rfl) ?_
      refine lv_iload_n hx hb dX9_isFree_21 rfl (lv_at hl 2 rfl) ?_
      obtain ⟨hv, hw⟩ := hw
      refine m_iald E hM ha2 hv dX9_isFree_22 ?_
      refine lv_icmp_ne (tgt := 28) hx hb dX9_isFree_23 (by decide) (fun cq => ?_) (fun cq => ?_)
      · have hw := hw.1 cq
        obtain ⟨x3, ex3⟩ : ∃ y : Int32, y = v3 + 1 := ⟨_, rfl⟩
        have hw := hw x3 ex3
        refine lv_iinc (v := x3) (lv' := [(3, .int x3), (0, .ref (ad bs a1)), (1, .ref (ad bs a2)), (2, .int a3)]) hx hb dX9_isFree_28 hl (k := 3) rfl (by rw [ex3]; rfl) (by decide) rfl (fun ls hl => ?_)
        refine lv_goto (tgt := 2) hx hb dX9_isFree_31 (by decide) ?_
        exact hw H locs ls  hM hS (lv_sub hl [1, 2, 3, 0] rfl)
      · have hw := hw.2 cq
        refine lv_iconst (v := 0) hx hb dX9_isFree_26 (by decide) ?_
        exact m_retz hx hb hr hlk (Or.inl rfl) hM hS ⟨false, rfl, rfl, hw⟩ dX9_isFree_27
def w_X9_isFree (I : mI) (a1 : Nat) (a1n : Nat) (a2 : Nat) (a2n : Nat) (a3 : Int32) (post : Bool → Prop) : Prop := (w_X9_isFree_2 I a1 a1n a2 a2n a3 post) 0
set_option maxRecDepth 100000 in
set_option maxHeartbeats 4000000 in
theorem c_X9_isFree {l : Launch} {D : va_G} {cA : Nat → ClassId} {Z : mZ} {bs : Ad} {n : Nat} {K : mK} {R : mR} {I : mI} {L : mL} {a1 : Nat} {a1n : Nat} {a2 : Nat} {a2n : Nat} {a3 : Int32} {post : Bool → Prop} (ha1 : K a1 = (14, a1n)) (ha2 : K a2 = (14, a2n)) (hw : w_X9_isFree I a1 a1n a2 a2n a3 post) : Met l yX9_isFree (.code yX9_isFree cX9_isFree 4 (some .boolean) :: gw) ({ frames := 1, cells := 0, slots := 0, locals := 21 } : Room) (PreM D cA Z bs (n, K, R, I, L) [.ref (ad bs a1), .ref (ad bs a2), .int a3]) (QI D cA bs (fun r u => ∃ b, r = bI b ∧ u = (n, K, R, I, L) ∧ post b)) 0 0 (Ab bs) := by
  refine m_met (by decide) (Nat.le_of_ble_eq_true rfl) (fun p e s m below meth c ls E hr hlk hM hS hl => ?_)
  have E : Ev p s m _ c cX9_isFree 4 RX9 D cA Z bs := E
  have hl : lv_has ls 4 [(0, .ref (ad bs a1)), (1, .ref (ad bs a2)), (2, .int a3)] := hl
  have hx := E.1.1
  have hb := E.1.2.1
  generalize hHe : s.heap = H at hM ⊢
  have hS : va_S (Ab bs) s.heap H [] := by rw [← hHe]; exact va_S.rf
  clear hHe
  refine lv_iconst (v := 0) hx hb dX9_isFree_0 (by decide) ?_
  refine lv_istore_n (lv' := [(3, .int 0), (0, .ref (ad bs a1)), (1, .ref (ad bs a2)), (2, .int a3)]) hx hb dX9_isFree_1 rfl hl (by decide) rfl (fun ls hl => ?_)
  exact s_X9_isFree_2 E hr hlk ha1 ha2  hw hM hS (lv_sub hl [1, 2, 3, 0] rfl)
theorem dX9_giveOut_0 : decode cX9_giveOut 0 = .ok (.iload 4, 2) := by decide +kernel
theorem dX9_giveOut_2 : decode cX9_giveOut 2 = .ok (.iload_n 3, 1) := by decide +kernel
theorem dX9_giveOut_3 : decode cX9_giveOut 3 = .ok (.if_icmp .ge 10, 3) := by decide +kernel
theorem dX9_giveOut_6 : decode cX9_giveOut 6 = .ok (.iload 4, 2) := by decide +kernel
theorem dX9_giveOut_8 : decode cX9_giveOut 8 = .ok (.aload_n 1, 1) := by decide +kernel
theorem dX9_giveOut_9 : decode cX9_giveOut 9 = .ok (.arraylength, 1) := by decide +kernel
theorem dX9_giveOut_10 : decode cX9_giveOut 10 = .ok (.if_icmp .lt 5, 3) := by decide +kernel
theorem dX9_giveOut_13 : decode cX9_giveOut 13 = .ok (.iconst 1, 1) := by decide +kernel
theorem dX9_giveOut_14 : decode cX9_giveOut 14 = .ok (.ireturn, 1) := by decide +kernel
theorem dX9_giveOut_15 : decode cX9_giveOut 15 = .ok (.iconst 0, 1) := by decide +kernel
theorem dX9_giveOut_16 : decode cX9_giveOut 16 = .ok (.istore 5, 2) := by decide +kernel
theorem dX9_giveOut_18 : decode cX9_giveOut 18 = .ok (.iload 5, 2) := by decide +kernel
theorem dX9_giveOut_20 : decode cX9_giveOut 20 = .ok (.iload_n 2, 1) := by decide +kernel
theorem dX9_giveOut_21 : decode cX9_giveOut 21 = .ok (.if_icmp .ge 41, 3) := by decide +kernel
theorem dX9_giveOut_24 : decode cX9_giveOut 24 = .ok (.aload_n 1, 1) := by decide +kernel
theorem dX9_giveOut_25 : decode cX9_giveOut 25 = .ok (.iload 4, 2) := by decide +kernel
theorem dX9_giveOut_27 : decode cX9_giveOut 27 = .ok (.iload 5, 2) := by decide +kernel
theorem dX9_giveOut_29 : decode cX9_giveOut 29 = .ok (.iastore, 1) := by decide +kernel
theorem dX9_giveOut_30 : decode cX9_giveOut 30 = .ok (.aload_n 0, 1) := by decide +kernel
theorem dX9_giveOut_31 : decode cX9_giveOut 31 = .ok (.aload_n 1, 1) := by decide +kernel
theorem dX9_giveOut_32 : decode cX9_giveOut 32 = .ok (.iload 4, 2) := by decide +kernel
theorem dX9_giveOut_34 : decode cX9_giveOut 34 = .ok (.invokestatic 64, 3) := by decide +kernel
theorem dX9_giveOut_37 : decode cX9_giveOut 37 = .ok (.ifCond .eq 19, 3) := by decide +kernel
theorem dX9_giveOut_40 : decode cX9_giveOut 40 = .ok (.aload_n 0, 1) := by decide +kernel
theorem dX9_giveOut_41 : decode cX9_giveOut 41 = .ok (.aload_n 1, 1) := by decide +kernel
theorem dX9_giveOut_42 : decode cX9_giveOut 42 = .ok (.iload_n 2, 1) := by decide +kernel
theorem dX9_giveOut_43 : decode cX9_giveOut 43 = .ok (.iload_n 3, 1) := by decide +kernel
theorem dX9_giveOut_44 : decode cX9_giveOut 44 = .ok (.iload 4, 2) := by decide +kernel
theorem dX9_giveOut_46 : decode cX9_giveOut 46 = .ok (.iconst 1, 1) := by decide +kernel
theorem dX9_giveOut_47 : decode cX9_giveOut 47 = .ok (.iadd, 1) := by decide +kernel
theorem dX9_giveOut_48 : decode cX9_giveOut 48 = .ok (.invokestatic 40, 3) := by decide +kernel
theorem dX9_giveOut_51 : decode cX9_giveOut 51 = .ok (.ifCond .eq 5, 3) := by decide +kernel
theorem dX9_giveOut_54 : decode cX9_giveOut 54 = .ok (.iconst 1, 1) := by decide +kernel
theorem dX9_giveOut_55 : decode cX9_giveOut 55 = .ok (.ireturn, 1) := by decide +kernel
theorem dX9_giveOut_56 : decode cX9_giveOut 56 = .ok (.iinc 5 1, 3) := by decide +kernel
theorem dX9_giveOut_59 : decode cX9_giveOut 59 = .ok (.goto (-41), 3) := by decide +kernel
theorem dX9_giveOut_62 : decode cX9_giveOut 62 = .ok (.iconst 0, 1) := by decide +kernel
theorem dX9_giveOut_63 : decode cX9_giveOut 63 = .ok (.ireturn, 1) := by decide +kernel
def rmG (d : Nat) : Room := { frames := d + 3, cells := 0, slots := 0, locals := 40 * d + 100 }
def w_X9_giveOut_18 (rec : mI → Nat → Nat → Nat → Nat → Int32 → Int32 → Int32 → (Bool → mI → Prop) → Prop) (a1 : Nat) (a1n : Nat) (a2 : Nat) (a2n : Nat) (a3 : Int32) (a4 : Int32) (a5 : Int32) (post : Bool → mI → Prop) (I : mI) (v5 : Int32) : Prop := ∀ ZZ : (mI → Int32 → Prop), (∀ (I : mI) (v5 : Int32), ((a3 ≤ v5 → post false I) ∧ (¬ a3 ≤ v5 → vp_in a5 a2n ∧ ∀ I1, I1 = up2 I a2 a5.toNatClampNeg v5 → w_X9_isFree I1 a1 a1n a2 a2n a5 (fun b2 => (b2 = false → ∀ x3, x3 = v5 + 1 → ZZ I1 x3) ∧ (b2 = true → rec I1 a1 a1n a2 a2n a3 a4 (a5 + 1) (fun b4 I5 => (b4 = false → ∀ x6, x6 = v5 + 1 → ZZ I5 x6) ∧ (b4 = true → post true I5)))))) → ZZ I v5) → ZZ I v5
set_option maxRecDepth 100000 in
set_option maxHeartbeats 4000000 in
theorem s_X9_giveOut_18 {p : Program} {l : Launch} {e : Env} {s : State} {m : MethodId} {args : Array Value} {below : List Frame} {meth : Method} {c : Code} {D : va_G} {cA : Nat → ClassId} {Z : mZ} {bs : Ad} {n : Nat} {K : mK} {R : mR} {L : mL} (E : Ev p s m args c cX9_giveOut 6 RX9 D cA Z bs) (hr : meth.sig.returnType = (some .boolean)) (hlk : meth.locks = false) {rec : mI → Nat → Nat → Nat → Nat → Int32 → Int32 → Int32 → (Bool → mI → Prop) → Prop} {a1 : Nat} {a1n : Nat} {a2 : Nat} {a2n : Nat} {a3 : Int32} {a4 : Int32} {a5 : Int32} {d : Nat} (hrec : ∀ {I : mI} {a1 a1n a2 a2n : Nat} {a3 a4 a5 : Int32} {post : Bool → mI → Prop}, K a1 = (14, a1n) → K a2 = (14, a2n) → rec I a1 a1n a2 a2n a3 a4 a5 post → Met l yX9_giveOut (.code yX9_giveOut cX9_giveOut 6 (some .boolean) :: gw) (rmG d) (PreM D cA Z bs (n, K, R, I, L) [.ref (ad bs a1), .ref (ad bs a2), .int a3, .int a4, .int a5]) (QI D cA bs (fun r u => ∃ b, r = bI b ∧ ∃ I', u = (n, K, R, I', L) ∧ post b I')) 0 0 (Ab bs)) (ha1 : K a1 = (14, a1n)) (ha2 : K a2 = (14, a2n)) {post : Bool → mI → Prop} {I : mI} {v5 : Int32} {H : Heap} {locs : List Loc} {ls : Array Slot} (hw : w_X9_giveOut_18 rec a1 a1n a2 a2n a3 a4 a5 post I v5) (hM : mm D cA bs (n, K, R, I, L) H) (hS : va_S (Ab bs) s.heap H locs) (hl : lv_has ls 6 [(0, .ref (ad bs a1)), (1, .ref (ad bs a2)), (2, .int a3), (3, .int a4), (4, .int a5), (5, .int v5)]) : W p l e (rmG (d + 1)) s m args below meth c H locs 0 0 (MQ below (QI D cA bs (fun r u => ∃ b, r = bI b ∧ ∃ I', u = (n, K, R, I', L) ∧ post b I')) args s 0 0 (Ab bs)) (F0 m 18 ls []) := by
  have hx := E.1.1
  have hb := E.1.2.1
  refine hw (fun I v5 => ∀ (H : Heap) (locs : List Loc) (ls : Array Slot), mm D cA bs (n, K, R, I, L) H → va_S (Ab bs) s.heap H locs → lv_has ls 6 [(0, .ref (ad bs a1)), (1, .ref (ad bs a2)), (2, .int a3), (3, .int a4), (4, .int a5), (5, .int v5)] → W p l e (rmG (d + 1)) s m args below meth c H locs 0 0 (MQ below (QI D cA bs (fun r u => ∃ b, r = bI b ∧ ∃ I', u = (n, K, R, I', L) ∧ post b I')) args s 0 0 (Ab bs)) (F0 m 18 ls [])) ?_ H locs ls hM hS hl
  clear hw hM hS hl
  intro I v5 hw H locs ls hM hS hl
  refine lv_iload hx hb dX9_giveOut_18 (lv_at hl 5 rfl) ?_
  refine lv_iload_n hx hb dX9_giveOut_20 rfl (lv_at hl 2 rfl) ?_
  refine lv_icmp_ge (tgt := 62) hx hb dX9_giveOut_21 (by decide) (fun cq => ?_) (fun cq => ?_)
  · have hw := hw.1 cq
    refine lv_iconst (v := 0) hx hb dX9_giveOut_62 (by decide) ?_
    exact m_retz hx hb hr hlk (Or.inl rfl) hM hS ⟨false, rfl, _, rfl, hw⟩ dX9_giveOut_63
  · have hw := hw.2 cq
    refine lv_aload_n hx hb dX9_giveOut_24 rfl (lv_at hl 1 rfl) ?_
    refine lv_iload hx hb dX9_giveOut_25 (lv_at hl 4 rfl) ?_
    refine lv_iload hx hb dX9_giveOut_27 (lv_at hl 5 rfl) ?_
    obtain ⟨hv, hw⟩ := hw
    refine m_iast E hM hS ha2 hv dX9_giveOut_29 (fun I1 H locs eI1 hM hS => ?_)
    have hw := hw I1 eI1
    refine lv_aload_n hx hb dX9_giveOut_30 rfl (lv_at hl 0 rfl) ?_
    refine lv_aload_n hx hb dX9_giveOut_31 rfl (lv_at hl 1 rfl) ?_
    refine lv_iload hx hb dX9_giveOut_32 (lv_at hl 4 rfl) ?_
    refine m_ci (m_runS E hM hS cs_X9_64 (c_X9_isFree ha1 ha2 hw) rfl rfl ⟨by simp only [rmG]; omega, by simp only [rmG]; omega⟩ rfl hl.1 rfl (Nat.le_of_ble_eq_true rfl) dX9_giveOut_34 ⟨Nat.le_of_ble_eq_true rfl, Nat.le_of_ble_eq_true rfl⟩) hS (fun r9 u H locs hp hM hS => ?_)
    obtain ⟨b2, rfl, rfl, hw⟩ := hp
    refine lv_if_eq (tgt := 56) hx hb dX9_giveOut_37 (by decide) (fun cq => ?_) (fun cq => ?_)
    · have hw := hw.1 (bI_f cq)
      obtain ⟨x3, ex3⟩ : ∃ y : Int32, y = v5 + 1 := ⟨_, rfl⟩
      have hw := hw x3 ex3
      refine lv_iinc (v := x3) (lv' := [(5, .int x3), (0, .ref (ad bs a1)), (1, .ref (ad bs a2)), (2, .int a3), (3, .int a4), (4, .int a5)]) hx hb dX9_giveOut_56 hl (k := 5) rfl (by rw [ex3]; rfl) (by decide) rfl (fun ls hl => ?_)
      refine lv_goto (tgt := 18) hx hb dX9_giveOut_59 (by decide) ?_
      exact hw H locs ls  hM hS (lv_sub hl [1, 2, 3, 4, 5, 0] rfl)
    · have hw := hw.2 (bI_t cq)
      refine lv_aload_n hx hb dX9_giveOut_40 rfl (lv_at hl 0 rfl) ?_
      refine lv_aload_n hx hb dX9_giveOut_41 rfl (lv_at hl 1 rfl) ?_
      refine lv_iload_n hx hb dX9_giveOut_42 rfl (lv_at hl 2 rfl) ?_
      refine lv_iload_n hx hb dX9_giveOut_43 rfl (lv_at hl 3 rfl) ?_
      refine lv_iload hx hb dX9_giveOut_44 (lv_at hl 4 rfl) ?_
      refine lv_iconst (v := 1) hx hb dX9_giveOut_46 (by decide) ?_
      refine lv_iadd hx hb dX9_giveOut_47 ?_
      refine m_ci (m_runS E hM hS cs_X9_40 (hrec ha1 ha2 hw) rfl rfl ⟨by simp only [rmG]; omega, by simp only [rmG]; omega⟩ rfl hl.1 rfl (Nat.le_of_ble_eq_true rfl) dX9_giveOut_48 ⟨Nat.le_of_ble_eq_true rfl, Nat.le_of_ble_eq_true rfl⟩) hS (fun r9 u H locs hp hM hS => ?_)
      obtain ⟨b4, rfl, I5, rfl, hw⟩ := hp
      refine lv_if_eq (tgt := 56) hx hb dX9_giveOut_51 (by decide) (fun cq => ?_) (fun cq => ?_)
      · have hw := hw.1 (bI_f cq)
        obtain ⟨x6, ex6⟩ : ∃ y : Int32, y = v5 + 1 := ⟨_, rfl⟩
        have hw := hw x6 ex6
        refine lv_iinc (v := x6) (lv' := [(5, .int x6), (0, .ref (ad bs a1)), (1, .ref (ad bs a2)), (2, .int a3), (3, .int a4), (4, .int a5)]) hx hb dX9_giveOut_56 hl (k := 5) rfl (by rw [ex6]; rfl) (by decide) rfl (fun ls hl => ?_)
        refine lv_goto (tgt := 18) hx hb dX9_giveOut_59 (by decide) ?_
        exact hw H locs ls  hM hS (lv_sub hl [1, 2, 3, 4, 5, 0] rfl)
      · have hw := hw.2 (bI_t cq)
        refine lv_iconst (v := 1) hx hb dX9_giveOut_54 (by decide) ?_
        exact m_retz hx hb hr hlk (Or.inr rfl) hM hS ⟨true, rfl, _, rfl, hw⟩ dX9_giveOut_55
def w_X9_giveOut_b (rec : mI → Nat → Nat → Nat → Nat → Int32 → Int32 → Int32 → (Bool → mI → Prop) → Prop) (I : mI) (a1 : Nat) (a1n : Nat) (a2 : Nat) (a2n : Nat) (a3 : Int32) (a4 : Int32) (a5 : Int32) (post : Bool → mI → Prop) : Prop := (a4 ≤ a5 → post true I) ∧ (¬ a4 ≤ a5 → (a5 < (Int32.ofNat a2n) → (w_X9_giveOut_18 rec a1 a1n a2 a2n a3 a4 a5 post) I 0) ∧ (¬ a5 < (Int32.ofNat a2n) → post true I))
set_option maxRecDepth 100000 in
set_option maxHeartbeats 4000000 in
theorem c_X9_giveOut_b {l : Launch} {D : va_G} {cA : Nat → ClassId} {Z : mZ} {bs : Ad} {n : Nat} {K : mK} {R : mR} {I : mI} {L : mL} {rec : mI → Nat → Nat → Nat → Nat → Int32 → Int32 → Int32 → (Bool → mI → Prop) → Prop} {a1 : Nat} {a1n : Nat} {a2 : Nat} {a2n : Nat} {a3 : Int32} {a4 : Int32} {a5 : Int32} {post : Bool → mI → Prop} {d : Nat} (hrec : ∀ {I : mI} {a1 a1n a2 a2n : Nat} {a3 a4 a5 : Int32} {post : Bool → mI → Prop}, K a1 = (14, a1n) → K a2 = (14, a2n) → rec I a1 a1n a2 a2n a3 a4 a5 post → Met l yX9_giveOut (.code yX9_giveOut cX9_giveOut 6 (some .boolean) :: gw) (rmG d) (PreM D cA Z bs (n, K, R, I, L) [.ref (ad bs a1), .ref (ad bs a2), .int a3, .int a4, .int a5]) (QI D cA bs (fun r u => ∃ b, r = bI b ∧ ∃ I', u = (n, K, R, I', L) ∧ post b I')) 0 0 (Ab bs)) (ha1 : K a1 = (14, a1n)) (ha2 : K a2 = (14, a2n)) (hw : w_X9_giveOut_b rec I a1 a1n a2 a2n a3 a4 a5 post) : Met l yX9_giveOut (.code yX9_giveOut cX9_giveOut 6 (some .boolean) :: gw) (rmG (d + 1)) (PreM D cA Z bs (n, K, R, I, L) [.ref (ad bs a1), .ref (ad bs a2), .int a3, .int a4, .int a5]) (QI D cA bs (fun r u => ∃ b, r = bI b ∧ ∃ I', u = (n, K, R, I', L) ∧ post b I')) 0 0 (Ab bs) := by
  refine m_met (by decide) (Nat.le_of_ble_eq_true rfl) (fun p e s m below meth c ls E hr hlk hM hS hl => ?_)
  have E : Ev p s m _ c cX9_giveOut 6 RX9 D cA Z bs := E
  have hl : lv_has ls 6 [(0, .ref (ad bs a1)), (1, .ref (ad bs a2)), (2, .int a3), (3, .int a4), (4, .int a5)] := hl
  have hx := E.1.1
  have hb := E.1.2.1
  generalize hHe : s.heap = H at hM ⊢
  have hS : va_S (Ab bs) s.heap H [] := by rw [← hHe]; exact va_S.rf
  clear hHe
  refine lv_iload hx hb dX9_giveOut_0 (lv_at hl 4 rfl) ?_
  refine lv_iload_n hx hb dX9_giveOut_2 rfl (lv_at hl 3 rfl) ?_
  refine lv_icmp_ge (tgt := 13) hx hb dX9_giveOut_3 (by decide) (fun cq => ?_) (fun cq => ?_)
  · have hw := hw.1 cq
    refine lv_iconst (v := 1) hx hb dX9_giveOut_13 (by decide) ?_
    exact m_retz hx hb hr hlk (Or.inr rfl) hM hS ⟨true, rfl, _, rfl, hw⟩ dX9_giveOut_14
  · have hw := hw.2 cq
    refine lv_iload hx hb dX9_giveOut_6 (lv_at hl 4 rfl) ?_
    refine lv_aload_n hx hb dX9_giveOut_8 rfl (lv_at hl 1 rfl) ?_
    refine m_alen E hM ha2 (by simp) dX9_giveOut_9 ?_
    refine lv_icmp_lt (tgt := 15) hx hb dX9_giveOut_10 (by decide) (fun cq => ?_) (fun cq => ?_)
    · have hw := hw.1 cq
      refine lv_iconst (v := 0) hx hb dX9_giveOut_15 (by decide) ?_
      refine lv_istore (lv' := [(5, .int 0), (0, .ref (ad bs a1)), (1, .ref (ad bs a2)), (2, .int a3), (3, .int a4), (4, .int a5)]) hx hb dX9_giveOut_16 hl (by decide) rfl (fun ls hl => ?_)
      exact s_X9_giveOut_18 E hr hlk hrec ha1 ha2  hw hM hS (lv_sub hl [1, 2, 3, 4, 5, 0] rfl)
    · have hw := hw.2 cq
      refine lv_iconst (v := 1) hx hb dX9_giveOut_13 (by decide) ?_
      exact m_retz hx hb hr hlk (Or.inr rfl) hM hS ⟨true, rfl, _, rfl, hw⟩ dX9_giveOut_14
def w_X9_giveOut : Nat → mI → Nat → Nat → Nat → Nat → Int32 → Int32 → Int32 → (Bool → mI → Prop) → Prop
  | 0 => fun _ _ _ _ _ _ _ _ _ => False
  | d + 1 => w_X9_giveOut_b (w_X9_giveOut d)
theorem c_X9_giveOut {l : Launch} {D : va_G} {cA : Nat → ClassId} {Z : mZ} {bs : Ad} {n : Nat} {K : mK} {R : mR} {L : mL} : ∀ (d : Nat) {I : mI} {a1 a1n a2 a2n : Nat} {a3 a4 a5 : Int32} {post : Bool → mI → Prop}, K a1 = (14, a1n) → K a2 = (14, a2n) → w_X9_giveOut d I a1 a1n a2 a2n a3 a4 a5 post → Met l yX9_giveOut (.code yX9_giveOut cX9_giveOut 6 (some .boolean) :: gw) (rmG d) (PreM D cA Z bs (n, K, R, I, L) [.ref (ad bs a1), .ref (ad bs a2), .int a3, .int a4, .int a5]) (QI D cA bs (fun r u => ∃ b, r = bI b ∧ ∃ I', u = (n, K, R, I', L) ∧ post b I')) 0 0 (Ab bs)
  | 0, _, _, _, _, _, _, _, _, _, _, _, hw => False.elim hw
  | d + 1, _, _, _, _, _, _, _, _, _, h1, h2, hw => c_X9_giveOut_b (d := d) (fun g1 g2 gw => c_X9_giveOut d g1 g2 gw) h1 h2 hw
theorem dX9_dress_0 : decode cX9_dress 0 = .ok (.aload_n 0, 1) := by decide +kernel
theorem dX9_dress_1 : decode cX9_dress 1 = .ok (.aload_n 1, 1) := by decide +kernel
theorem dX9_dress_2 : decode cX9_dress 2 = .ok (.invokevirtual 21, 3) := by decide +kernel
theorem dX9_dress_5 : decode cX9_dress 5 = .ok (.aload_n 1, 1) := by decide +kernel
theorem dX9_dress_6 : decode cX9_dress 6 = .ok (.getfield 25, 3) := by decide +kernel
theorem dX9_dress_9 : decode cX9_dress 9 = .ok (.getfield 31, 3) := by decide +kernel
theorem dX9_dress_12 : decode cX9_dress 12 = .ok (.istore_n 2, 1) := by decide +kernel
theorem dX9_dress_13 : decode cX9_dress 13 = .ok (.aload_n 0, 1) := by decide +kernel
theorem dX9_dress_14 : decode cX9_dress 14 = .ok (.iload_n 2, 1) := by decide +kernel
theorem dX9_dress_15 : decode cX9_dress 15 = .ok (.ifCond .ne 7, 3) := by decide +kernel
theorem dX9_dress_18 : decode cX9_dress 18 = .ok (.iconst 0, 1) := by decide +kernel
theorem dX9_dress_19 : decode cX9_dress 19 = .ok (.goto 4, 3) := by decide +kernel
theorem dX9_dress_22 : decode cX9_dress 22 = .ok (.iconst 1, 1) := by decide +kernel
theorem dX9_dress_23 : decode cX9_dress 23 = .ok (.putfield 37, 3) := by decide +kernel
theorem dX9_dress_26 : decode cX9_dress 26 = .ok (.aload_n 0, 1) := by decide +kernel
theorem dX9_dress_27 : decode cX9_dress 27 = .ok (.getfield 15, 3) := by decide +kernel
theorem dX9_dress_30 : decode cX9_dress 30 = .ok (.aload_n 0, 1) := by decide +kernel
theorem dX9_dress_31 : decode cX9_dress 31 = .ok (.getfield 9, 3) := by decide +kernel
theorem dX9_dress_34 : decode cX9_dress 34 = .ok (.aload_n 0, 1) := by decide +kernel
theorem dX9_dress_35 : decode cX9_dress 35 = .ok (.getfield 37, 3) := by decide +kernel
theorem dX9_dress_38 : decode cX9_dress 38 = .ok (.iload_n 2, 1) := by decide +kernel
theorem dX9_dress_39 : decode cX9_dress 39 = .ok (.iconst 0, 1) := by decide +kernel
theorem dX9_dress_40 : decode cX9_dress 40 = .ok (.invokestatic 40, 3) := by decide +kernel
theorem dX9_dress_43 : decode cX9_dress 43 = .ok (.ifCond .ne 24, 3) := by decide +kernel
theorem dX9_dress_46 : decode cX9_dress 46 = .ok (.aload_n 0, 1) := by decide +kernel
theorem dX9_dress_47 : decode cX9_dress 47 = .ok (.getfield 37, 3) := by decide +kernel
theorem dX9_dress_50 : decode cX9_dress 50 = .ok (.iload_n 2, 1) := by decide +kernel
theorem dX9_dress_51 : decode cX9_dress 51 = .ok (.if_icmp .ge 16, 3) := by decide +kernel
theorem dX9_dress_54 : decode cX9_dress 54 = .ok (.aload_n 0, 1) := by decide +kernel
theorem dX9_dress_55 : decode cX9_dress 55 = .ok (.dup, 1) := by decide +kernel
theorem dX9_dress_56 : decode cX9_dress 56 = .ok (.getfield 37, 3) := by decide +kernel
theorem dX9_dress_59 : decode cX9_dress 59 = .ok (.iconst 1, 1) := by decide +kernel
theorem dX9_dress_60 : decode cX9_dress 60 = .ok (.iadd, 1) := by decide +kernel
theorem dX9_dress_61 : decode cX9_dress 61 = .ok (.putfield 37, 3) := by decide +kernel
theorem dX9_dress_64 : decode cX9_dress 64 = .ok (.goto (-38), 3) := by decide +kernel
theorem dX9_dress_67 : decode cX9_dress 67 = .ok (.return_, 1) := by decide +kernel
def w_X9_dress_26 (o : Nat) (a1 : Nat) (a1h : Nat) (post : mI → Prop) (I : mI) (v2 : Int32) : Prop := ∀ ZZ : (mI → Int32 → Prop), (∀ (I : mI) (v2 : Int32), (w_X9_giveOut 7 I (o + 2) 6 (o + 1) 6 (I o 0) v2 0 (fun b4 I5 => (b4 = true → post I5) ∧ (b4 = false → (v2 ≤ (I5 o 0) → post I5) ∧ (¬ v2 ≤ (I5 o 0) → ∀ I6, I6 = up2 I5 o 0 ((I5 o 0) + 1) → ZZ I6 v2)))) → ZZ I v2) → ZZ I v2
set_option maxRecDepth 100000 in
set_option maxHeartbeats 4000000 in
theorem s_X9_dress_26 {p : Program} {l : Launch} {e : Env} {s : State} {m : MethodId} {args : Array Value} {below : List Frame} {meth : Method} {c : Code} {D : va_G} {cA : Nat → ClassId} {Z : mZ} {bs : Ad} {n : Nat} {K : mK} {R : mR} {L : mL} (E : Ev p s m args c cX9_dress 3 RX9 D cA Z bs) (hr : meth.sig.returnType = none) (hlk : meth.locks = false) {o : Nat} {a1 : Nat} {a1h : Nat} (ho : isX9 K R o) (ha1 : isX2 K R a1 a1h) {post : mI → Prop} {I : mI} {v2 : Int32} {H : Heap} {locs : List Loc} {ls : Array Slot} (hw : w_X9_dress_26 o a1 a1h post I v2) (hM : mm D cA bs (n, K, R, I, L) H) (hS : va_S (Ab bs) s.heap H locs) (hl : lv_has ls 3 [(0, .ref (ad bs o)), (2, .int v2)]) : W p l e ({ frames := 11, cells := 0, slots := 0, locals := 405 } : Room) s m args below meth c H locs 0 0 (MQ below (QV D cA bs (fun u => ∃ I', u = (n, K, R, I', L) ∧ post I')) args s 0 0 (Ab bs)) (F0 m 26 ls []) := by
  have hx := E.1.1
  have hb := E.1.2.1
  refine hw (fun I v2 => ∀ (H : Heap) (locs : List Loc) (ls : Array Slot), mm D cA bs (n, K, R, I, L) H → va_S (Ab bs) s.heap H locs → lv_has ls 3 [(0, .ref (ad bs o)), (2, .int v2)] → W p l e ({ frames := 11, cells := 0, slots := 0, locals := 405 } : Room) s m args below meth c H locs 0 0 (MQ below (QV D cA bs (fun u => ∃ I', u = (n, K, R, I', L) ∧ post I')) args s 0 0 (Ab bs)) (F0 m 26 ls [])) ?_ H locs ls hM hS hl
  clear hw hM hS hl
  intro I v2 hw H locs ls hM hS hl
  refine lv_aload_n hx hb dX9_dress_26 rfl (lv_at hl 0 rfl) ?_
  refine m_getr E hM fs_X9_15 ho.1 (isO_at ho 1 rfl).1 dX9_dress_27 ?_
  refine lv_aload_n hx hb dX9_dress_30 rfl (lv_at hl 0 rfl) ?_
  refine m_getr E hM fs_X9_9 ho.1 (isO_at ho 0 rfl).1 dX9_dress_31 ?_
  refine lv_aload_n hx hb dX9_dress_34 rfl (lv_at hl 0 rfl) ?_
  refine m_geti E hM fs_X9_37 ho.1 dX9_dress_35 ?_
  refine lv_iload_n hx hb dX9_dress_38 rfl (lv_at hl 1 rfl) ?_
  refine lv_iconst (v := 0) hx hb dX9_dress_39 (by decide) ?_
  refine m_ci (m_runS E hM hS cs_X9_40 (c_X9_giveOut 7 ((isO_at ho 1 rfl).2) ((isO_at ho 0 rfl).2) hw) rfl rfl ⟨Nat.le_of_ble_eq_true rfl, Nat.le_of_ble_eq_true rfl⟩ rfl hl.1 rfl (Nat.le_of_ble_eq_true rfl) dX9_dress_40 ⟨Nat.le_of_ble_eq_true rfl, Nat.le_of_ble_eq_true rfl⟩) hS (fun r9 u H locs hp hM hS => ?_)
  obtain ⟨b4, rfl, I5, rfl, hw⟩ := hp
  refine lv_if_ne (tgt := 67) hx hb dX9_dress_43 (by decide) (fun cq => ?_) (fun cq => ?_)
  · have hw := hw.1 (bI_t cq)
    exact m_retv hx hb hr hlk hM hS ⟨_, rfl, hw⟩ dX9_dress_67
  · have hw := hw.2 (bI_f cq)
    refine lv_aload_n hx hb dX9_dress_46 rfl (lv_at hl 0 rfl) ?_
    refine m_geti E hM fs_X9_37 ho.1 dX9_dress_47 ?_
    refine lv_iload_n hx hb dX9_dress_50 rfl (lv_at hl 1 rfl) ?_
    refine lv_icmp_ge (tgt := 67) hx hb dX9_dress_51 (by decide) (fun cq => ?_) (fun cq => ?_)
    · have hw := hw.1 cq
      exact m_retv hx hb hr hlk hM hS ⟨_, rfl, hw⟩ dX9_dress_67
    · have hw := hw.2 cq
      refine lv_aload_n hx hb dX9_dress_54 rfl (lv_at hl 0 rfl) ?_
      refine lv_dup hx hb dX9_dress_55 rfl ?_
      refine m_geti E hM fs_X9_37 ho.1 dX9_dress_56 ?_
      refine lv_iconst (v := 1) hx hb dX9_dress_59 (by decide) ?_
      refine lv_iadd hx hb dX9_dress_60 ?_
      refine m_puti E hM hS fp_X9_37 ho.1 rfl rfl dX9_dress_61 (fun I6 H locs eI6 hM hS => ?_)
      have hw := hw I6 eI6
      refine lv_goto (tgt := 26) hx hb dX9_dress_64 (by decide) ?_
      exact hw H locs ls  hM hS (lv_sub hl [0, 1] rfl)
def w_X9_dress_23 (o : Nat) (a1 : Nat) (a1h : Nat) (post : mI → Prop) (I : mI) (v2 : Int32) (s1 : Int32) : Prop := ∀ I3, I3 = up2 I o 0 s1 → (w_X9_dress_26 o a1 a1h post) I3 v2
set_option maxRecDepth 100000 in
set_option maxHeartbeats 4000000 in
theorem s_X9_dress_23 {p : Program} {l : Launch} {e : Env} {s : State} {m : MethodId} {args : Array Value} {below : List Frame} {meth : Method} {c : Code} {D : va_G} {cA : Nat → ClassId} {Z : mZ} {bs : Ad} {n : Nat} {K : mK} {R : mR} {L : mL} (E : Ev p s m args c cX9_dress 3 RX9 D cA Z bs) (hr : meth.sig.returnType = none) (hlk : meth.locks = false) {o : Nat} {a1 : Nat} {a1h : Nat} (ho : isX9 K R o) (ha1 : isX2 K R a1 a1h) {post : mI → Prop} {I : mI} {v2 : Int32} {s1 : Int32} {H : Heap} {locs : List Loc} {ls : Array Slot} (hw : w_X9_dress_23 o a1 a1h post I v2 s1) (hM : mm D cA bs (n, K, R, I, L) H) (hS : va_S (Ab bs) s.heap H locs) (hl : lv_has ls 3 [(0, .ref (ad bs o)), (2, .int v2)]) : W p l e ({ frames := 11, cells := 0, slots := 0, locals := 405 } : Room) s m args below meth c H locs 0 0 (MQ below (QV D cA bs (fun u => ∃ I', u = (n, K, R, I', L) ∧ post I')) args s 0 0 (Ab bs)) (F0 m 23 ls [.int s1, .ref (ad bs o)]) := by
  have hx := E.1.1
  have hb := E.1.2.1
  refine m_puti E hM hS fp_X9_37 ho.1 rfl rfl dX9_dress_23 (fun I3 H locs eI3 hM hS => ?_)
  have hw := hw I3 eI3
  exact s_X9_dress_26 E hr hlk ho ha1  hw hM hS (lv_sub hl [0, 1] rfl)
def w_X9_dress (I : mI) (o : Nat) (a1 : Nat) (a1h : Nat) (post : mI → Prop) : Prop := w_X9_findMixed I o a1 a1h (fun I1 => ∀ x2, x2 = (I1 a1h 3) → (¬ x2 = 0 → (w_X9_dress_23 o a1 a1h post) I1 x2 1) ∧ (x2 = 0 → (w_X9_dress_23 o a1 a1h post) I1 x2 0))
set_option maxRecDepth 100000 in
set_option maxHeartbeats 4000000 in
theorem c_X9_dress {l : Launch} {D : va_G} {cA : Nat → ClassId} {Z : mZ} {bs : Ad} {n : Nat} {K : mK} {R : mR} {I : mI} {L : mL} {o : Nat} {a1 : Nat} {a1h : Nat} {post : mI → Prop} (ho : isX9 K R o) (ha1 : isX2 K R a1 a1h) (hw : w_X9_dress I o a1 a1h post) : Met l yX9_dress (.code yX9_dress cX9_dress 3 none :: gw) ({ frames := 11, cells := 0, slots := 0, locals := 405 } : Room) (PreM D cA Z bs (n, K, R, I, L) [.ref (ad bs o), .ref (ad bs a1)]) (QV D cA bs (fun u => ∃ I', u = (n, K, R, I', L) ∧ post I')) 0 0 (Ab bs) := by
  refine m_met (by decide) (Nat.le_of_ble_eq_true rfl) (fun p e s m below meth c ls E hr hlk hM hS hl => ?_)
  have E : Ev p s m _ c cX9_dress 3 RX9 D cA Z bs := E
  have hl : lv_has ls 3 [(0, .ref (ad bs o)), (1, .ref (ad bs a1))] := hl
  have hx := E.1.1
  have hb := E.1.2.1
  generalize hHe : s.heap = H at hM ⊢
  have hS : va_S (Ab bs) s.heap H [] := by rw [← hHe]; exact va_S.rf
  clear hHe
  refine lv_aload_n hx hb dX9_dress_0 rfl (lv_at hl 0 rfl) ?_
  refine lv_aload_n hx hb dX9_dress_1 rfl (lv_at hl 1 rfl) ?_
  refine m_cv (m_runV E hM hS cs_X9_21 ho.1 (by decide) rfl rfl (c_X9_findMixed ho ha1 hw) rfl rfl ⟨Nat.le_of_ble_eq_true rfl, Nat.le_of_ble_eq_true rfl⟩ rfl hl.1 rfl (Nat.le_of_ble_eq_true rfl) dX9_dress_2 ⟨Nat.le_of_ble_eq_true rfl, Nat.le_of_ble_eq_true rfl⟩) hS (fun u H locs hp hM hS => ?_)
  obtain ⟨I1, rfl, hw⟩ := hp
  refine lv_aload_n hx hb dX9_dress_5 rfl (lv_at hl 1 rfl) ?_
  refine m_getr E hM fs_X9_25 ha1.1.1 ha1.2.1 dX9_dress_6 ?_
  refine m_geti E hM fs_X9_31 ha1.2.2.1 dX9_dress_9 ?_
  refine lv_topi (fun x2 ex2 => ?_)
  have hw := hw x2 ex2
  refine lv_istore_n (lv' := [(2, .int x2), (0, .ref (ad bs o)), (1, .ref (ad bs a1))]) hx hb dX9_dress_12 rfl hl (by decide) rfl (fun ls hl => ?_)
  refine lv_aload_n hx hb dX9_dress_13 rfl (lv_at hl 1 rfl) ?_
  refine lv_iload_n hx hb dX9_dress_14 rfl (lv_at hl 0 rfl) ?_
  refine lv_if_ne (tgt := 22) hx hb dX9_dress_15 (by decide) (fun cq => ?_) (fun cq => ?_)
  · have hw := hw.1 cq
    refine lv_iconst (v := 1) hx hb dX9_dress_22 (by decide) ?_
    exact s_X9_dress_23 E hr hlk ho ha1  hw hM hS (lv_sub hl [1, 0] rfl)
  · have hw := hw.2 cq
    refine lv_iconst (v := 0) hx hb dX9_dress_18 (by decide) ?_
    refine lv_goto (tgt := 23) hx hb dX9_dress_19 (by decide) ?_
    exact s_X9_dress_23 E hr hlk ho ha1  hw hM hS (lv_sub hl [1, 0] rfl)
theorem dX10_echoFits_0 : decode cX10_echoFits 0 = .ok (.iload_n 3, 1) := by decide +kernel
theorem dX10_echoFits_1 : decode cX10_echoFits 1 = .ok (.iconst (-1), 1) := by decide +kernel
theorem dX10_echoFits_2 : decode cX10_echoFits 2 = .ok (.if_icmp .ne 5, 3) := by decide +kernel
theorem dX10_echoFits_5 : decode cX10_echoFits 5 = .ok (.iconst 1, 1) := by decide +kernel
theorem dX10_echoFits_6 : decode cX10_echoFits 6 = .ok (.ireturn, 1) := by decide +kernel
theorem dX10_echoFits_7 : decode cX10_echoFits 7 = .ok (.iconst 0, 1) := by decide +kernel
theorem dX10_echoFits_8 : decode cX10_echoFits 8 = .ok (.istore 4, 2) := by decide +kernel
theorem dX10_echoFits_10 : decode cX10_echoFits 10 = .ok (.iload 4, 2) := by decide +kernel
theorem dX10_echoFits_12 : decode cX10_echoFits 12 = .ok (.aload_n 0, 1) := by decide +kernel
theorem dX10_echoFits_13 : decode cX10_echoFits 13 = .ok (.getfield 35, 3) := by decide +kernel
theorem dX10_echoFits_16 : decode cX10_echoFits 16 = .ok (.if_icmp .ge 41, 3) := by decide +kernel
theorem dX10_echoFits_19 : decode cX10_echoFits 19 = .ok (.aload_n 0, 1) := by decide +kernel
theorem dX10_echoFits_20 : decode cX10_echoFits 20 = .ok (.getfield 78, 3) := by decide +kernel
theorem dX10_echoFits_23 : decode cX10_echoFits 23 = .ok (.iload 4, 2) := by decide +kernel
theorem dX10_echoFits_25 : decode cX10_echoFits 25 = .ok (.iaload, 1) := by decide +kernel
theorem dX10_echoFits_26 : decode cX10_echoFits 26 = .ok (.iload_n 3, 1) := by decide +kernel
theorem dX10_echoFits_27 : decode cX10_echoFits 27 = .ok (.if_icmp .ne 24, 3) := by decide +kernel
theorem dX10_echoFits_30 : decode cX10_echoFits 30 = .ok (.aload_n 0, 1) := by decide +kernel
theorem dX10_echoFits_31 : decode cX10_echoFits 31 = .ok (.iload_n 1, 1) := by decide +kernel
theorem dX10_echoFits_32 : decode cX10_echoFits 32 = .ok (.iload_n 2, 1) := by decide +kernel
theorem dX10_echoFits_33 : decode cX10_echoFits 33 = .ok (.aload_n 0, 1) := by decide +kernel
theorem dX10_echoFits_34 : decode cX10_echoFits 34 = .ok (.iload 4, 2) := by decide +kernel
theorem dX10_echoFits_36 : decode cX10_echoFits 36 = .ok (.iload_n 2, 1) := by decide +kernel
theorem dX10_echoFits_37 : decode cX10_echoFits 37 = .ok (.iload_n 3, 1) := by decide +kernel
theorem dX10_echoFits_38 : decode cX10_echoFits 38 = .ok (.invokevirtual 63, 3) := by decide +kernel
theorem dX10_echoFits_41 : decode cX10_echoFits 41 = .ok (.iconst 2, 1) := by decide +kernel
theorem dX10_echoFits_42 : decode cX10_echoFits 42 = .ok (.idiv, 1) := by decide +kernel
theorem dX10_echoFits_43 : decode cX10_echoFits 43 = .ok (.invokevirtual 67, 3) := by decide +kernel
theorem dX10_echoFits_46 : decode cX10_echoFits 46 = .ok (.ifCond .eq 5, 3) := by decide +kernel
theorem dX10_echoFits_49 : decode cX10_echoFits 49 = .ok (.iconst 1, 1) := by decide +kernel
theorem dX10_echoFits_50 : decode cX10_echoFits 50 = .ok (.ireturn, 1) := by decide +kernel
theorem dX10_echoFits_51 : decode cX10_echoFits 51 = .ok (.iinc 4 1, 3) := by decide +kernel
theorem dX10_echoFits_54 : decode cX10_echoFits 54 = .ok (.goto (-44), 3) := by decide +kernel
theorem dX10_echoFits_57 : decode cX10_echoFits 57 = .ok (.iconst 0, 1) := by decide +kernel
theorem dX10_echoFits_58 : decode cX10_echoFits 58 = .ok (.ireturn, 1) := by decide +kernel
def w_X10_echoFits_10 (I : mI) (a1 : Nat) (a2 : Int32) (a3 : Int32) (a4 : Int32) (post : Bool → Prop) (v4 : Int32) : Prop := ∀ ZZ : (Int32 → Prop), (∀ (v4 : Int32), (((I a1 3) ≤ v4 → post false) ∧ (¬ (I a1 3) ≤ v4 → vp_in v4 6 ∧ (¬ (I (a1 + 4) v4.toNatClampNeg) = a4 → ∀ x1, x1 = v4 + 1 → ZZ x1) ∧ ((I (a1 + 4) v4.toNatClampNeg) = a4 → w_X3_loudOf I a1 v4 a3 a4 (fun r2 => w_X3_hears I a1 a2 a3 (r2 / 2) (fun b3 => (b3 = false → ∀ x4, x4 = v4 + 1 → ZZ x4) ∧ (b3 = true → post true)))))) → ZZ v4) → ZZ v4
set_option maxRecDepth 100000 in
set_option maxHeartbeats 4000000 in
theorem s_X10_echoFits_10 {p : Program} {l : Launch} {e : Env} {s : State} {m : MethodId} {args : Array Value} {below : List Frame} {meth : Method} {c : Code} {D : va_G} {cA : Nat → ClassId} {Z : mZ} {bs : Ad} {n : Nat} {K : mK} {R : mR} {I : mI} {L : mL} (E : Ev p s m args c cX10_echoFits 5 RX10 D cA Z bs) (hr : meth.sig.returnType = (some .boolean)) (hlk : meth.locks = false) {a1 : Nat} {a2 : Int32} {a3 : Int32} {a4 : Int32} (ha1 : isX3 K R a1) {post : Bool → Prop} {v4 : Int32} {H : Heap} {locs : List Loc} {ls : Array Slot} (hw : w_X10_echoFits_10 I a1 a2 a3 a4 post v4) (hM : mm D cA bs (n, K, R, I, L) H) (hS : va_S (Ab bs) s.heap H locs) (hl : lv_has ls 5 [(0, .ref (ad bs a1)), (1, .int a2), (2, .int a3), (3, .int a4), (4, .int v4)]) : W p l e ({ frames := 2, cells := 0, slots := 0, locals := 63 } : Room) s m args below meth c H locs 0 0 (MQ below (QI D cA bs (fun r u => ∃ b, r = bI b ∧ u = (n, K, R, I, L) ∧ post b)) args s 0 0 (Ab bs)) (F0 m 10 ls []) := by
  have hx := E.1.1
  have hb := E.1.2.1
  refine hw (fun v4 => ∀ (H : Heap) (locs : List Loc) (ls : Array Slot), mm D cA bs (n, K, R, I, L) H → va_S (Ab bs) s.heap H locs → lv_has ls 5 [(0, .ref (ad bs a1)), (1, .int a2), (2, .int a3), (3, .int a4), (4, .int v4)] → W p l e ({ frames := 2, cells := 0, slots := 0, locals := 63 } : Room) s m args below meth c H locs 0 0 (MQ below (QI D cA bs (fun r u => ∃ b, r = bI b ∧ u = (n, K, R, I, L) ∧ post b)) args s 0 0 (Ab bs)) (F0 m 10 ls [])) ?_ H locs ls hM hS hl
  clear hw hM hS hl
  intro v4 hw H locs ls hM hS hl
  refine lv_iload hx hb dX10_echoFits_10 (lv_at hl 4 rfl) ?_
  refine lv_aload_n hx hb dX10_echoFits_12 rfl (lv_at hl 0 rfl) ?_
  refine m_geti E hM fs_X10_35 ha1.1 dX10_echoFits_13 ?_
  refine lv_icmp_ge (tgt := 57) hx hb dX10_echoFits_16 (by decide) (fun cq => ?_) (fun cq => ?_)
  · have hw := hw.1 cq
    refine lv_iconst (v := 0) hx hb dX10_echoFits_57 (by decide) ?_
    exact m_retz hx hb hr hlk (Or.inl rfl) hM hS ⟨false, rfl, rfl, hw⟩ dX10_echoFits_58
  · have hw := hw.2 cq
    refine lv_aload_n hx hb dX10_echoFits_19 rfl (lv_at hl 0 rfl) ?_
    refine m_getr E hM fs_X10_78 ha1.1 (isO_at ha1 3 rfl).1 dX10_echoFits_20 ?_
    refine lv_iload hx hb dX10_echoFits_23 (lv_at hl 4 rfl) ?_
    obtain ⟨hv, hw⟩ := hw
    refine m_iald E hM (isO_at ha1 3 rfl).2 hv dX10_echoFits_25 ?_
    refine lv_iload_n hx hb dX10_echoFits_26 rfl (lv_at hl 3 rfl) ?_
    refine lv_icmp_ne (tgt := 51) hx hb dX10_echoFits_27 (by decide) (fun cq => ?_) (fun cq => ?_)
    · have hw := hw.1 cq
      obtain ⟨x1, ex1⟩ : ∃ y : Int32, y = v4 + 1 := ⟨_, rfl⟩
      have hw := hw x1 ex1
      refine lv_iinc (v := x1) (lv' := [(4, .int x1), (0, .ref (ad bs a1)), (1, .int a2), (2, .int a3), (3, .int a4)]) hx hb dX10_echoFits_51 hl (k := 4) rfl (by rw [ex1]; rfl) (by decide) rfl (fun ls hl => ?_)
      refine lv_goto (tgt := 10) hx hb dX10_echoFits_54 (by decide) ?_
      exact hw H locs ls  hM hS (lv_sub hl [1, 2, 3, 4, 0] rfl)
    · have hw := hw.2 cq
      refine lv_aload_n hx hb dX10_echoFits_30 rfl (lv_at hl 0 rfl) ?_
      refine lv_iload_n hx hb dX10_echoFits_31 rfl (lv_at hl 1 rfl) ?_
      refine lv_iload_n hx hb dX10_echoFits_32 rfl (lv_at hl 2 rfl) ?_
      refine lv_aload_n hx hb dX10_echoFits_33 rfl (lv_at hl 0 rfl) ?_
      refine lv_iload hx hb dX10_echoFits_34 (lv_at hl 4 rfl) ?_
      refine lv_iload_n hx hb dX10_echoFits_36 rfl (lv_at hl 2 rfl) ?_
      refine lv_iload_n hx hb dX10_echoFits_37 rfl (lv_at hl 3 rfl) ?_
      refine m_ci (m_runV E hM hS cs_X10_63 ha1.1 (by decide) rfl rfl (c_X3_loudOf ha1 hw) rfl rfl ⟨Nat.le_of_ble_eq_true rfl, Nat.le_of_ble_eq_true rfl⟩ rfl hl.1 rfl (Nat.le_of_ble_eq_true rfl) dX10_echoFits_38 ⟨Nat.le_of_ble_eq_true rfl, Nat.le_of_ble_eq_true rfl⟩) hS (fun r2 u H locs hp hM hS => ?_)
      obtain ⟨rfl, hw⟩ := hp
      refine lv_iconst (v := 2) hx hb dX10_echoFits_41 (by decide) ?_
      refine lv_idiv hx hb dX10_echoFits_42 (by decide) ?_
      refine m_ci (m_runV E hM hS cs_X10_67 ha1.1 (by decide) rfl rfl (c_X3_hears ha1 hw) rfl rfl ⟨Nat.le_of_ble_eq_true rfl, Nat.le_of_ble_eq_true rfl⟩ rfl hl.1 rfl (Nat.le_of_ble_eq_true rfl) dX10_echoFits_43 ⟨Nat.le_of_ble_eq_true rfl, Nat.le_of_ble_eq_true rfl⟩) hS (fun r9 u H locs hp hM hS => ?_)
      obtain ⟨b3, rfl, rfl, hw⟩ := hp
      refine lv_if_eq (tgt := 51) hx hb dX10_echoFits_46 (by decide) (fun cq => ?_) (fun cq => ?_)
      · have hw := hw.1 (bI_f cq)
        obtain ⟨x4, ex4⟩ : ∃ y : Int32, y = v4 + 1 := ⟨_, rfl⟩
        have hw := hw x4 ex4
        refine lv_iinc (v := x4) (lv' := [(4, .int x4), (0, .ref (ad bs a1)), (1, .int a2), (2, .int a3), (3, .int a4)]) hx hb dX10_echoFits_51 hl (k := 4) rfl (by rw [ex4]; rfl) (by decide) rfl (fun ls hl => ?_)
        refine lv_goto (tgt := 10) hx hb dX10_echoFits_54 (by decide) ?_
        exact hw H locs ls  hM hS (lv_sub hl [1, 2, 3, 4, 0] rfl)
      · have hw := hw.2 (bI_t cq)
        refine lv_iconst (v := 1) hx hb dX10_echoFits_49 (by decide) ?_
        exact m_retz hx hb hr hlk (Or.inr rfl) hM hS ⟨true, rfl, rfl, hw⟩ dX10_echoFits_50
def w_X10_echoFits (I : mI) (a1 : Nat) (a2 : Int32) (a3 : Int32) (a4 : Int32) (post : Bool → Prop) : Prop := (¬ a4 = (-1) → (w_X10_echoFits_10 I a1 a2 a3 a4 post) 0) ∧ (a4 = (-1) → post true)
set_option maxRecDepth 100000 in
set_option maxHeartbeats 4000000 in
theorem c_X10_echoFits {l : Launch} {D : va_G} {cA : Nat → ClassId} {Z : mZ} {bs : Ad} {n : Nat} {K : mK} {R : mR} {I : mI} {L : mL} {a1 : Nat} {a2 : Int32} {a3 : Int32} {a4 : Int32} {post : Bool → Prop} (ha1 : isX3 K R a1) (hw : w_X10_echoFits I a1 a2 a3 a4 post) : Met l yX10_echoFits (.code yX10_echoFits cX10_echoFits 5 (some .boolean) :: gw) ({ frames := 2, cells := 0, slots := 0, locals := 63 } : Room) (PreM D cA Z bs (n, K, R, I, L) [.ref (ad bs a1), .int a2, .int a3, .int a4]) (QI D cA bs (fun r u => ∃ b, r = bI b ∧ u = (n, K, R, I, L) ∧ post b)) 0 0 (Ab bs) := by
  refine m_met (by decide) (Nat.le_of_ble_eq_true rfl) (fun p e s m below meth c ls E hr hlk hM hS hl => ?_)
  have E : Ev p s m _ c cX10_echoFits 5 RX10 D cA Z bs := E
  have hl : lv_has ls 5 [(0, .ref (ad bs a1)), (1, .int a2), (2, .int a3), (3, .int a4)] := hl
  have hx := E.1.1
  have hb := E.1.2.1
  generalize hHe : s.heap = H at hM ⊢
  have hS : va_S (Ab bs) s.heap H [] := by rw [← hHe]; exact va_S.rf
  clear hHe
  refine lv_iload_n hx hb dX10_echoFits_0 rfl (lv_at hl 3 rfl) ?_
  refine lv_iconst (v := (-1)) hx hb dX10_echoFits_1 (by decide) ?_
  refine lv_icmp_ne (tgt := 7) hx hb dX10_echoFits_2 (by decide) (fun cq => ?_) (fun cq => ?_)
  · have hw := hw.1 cq
    refine lv_iconst (v := 0) hx hb dX10_echoFits_7 (by decide) ?_
    refine lv_istore (lv' := [(4, .int 0), (0, .ref (ad bs a1)), (1, .int a2), (2, .int a3), (3, .int a4)]) hx hb dX10_echoFits_8 hl (by decide) rfl (fun ls hl => ?_)
    exact s_X10_echoFits_10 E hr hlk ha1  hw hM hS (lv_sub hl [1, 2, 3, 4, 0] rfl)
  · have hw := hw.2 cq
    refine lv_iconst (v := 1) hx hb dX10_echoFits_5 (by decide) ?_
    exact m_retz hx hb hr hlk (Or.inr rfl) hM hS ⟨true, rfl, rfl, hw⟩ dX10_echoFits_6
theorem dX10_stepsOf_0 : decode cX10_stepsOf 0 = .ok (.aload_n 1, 1) := by decide +kernel
theorem dX10_stepsOf_1 : decode cX10_stepsOf 1 = .ok (.getfield 44, 3) := by decide +kernel
theorem dX10_stepsOf_4 : decode cX10_stepsOf 4 = .ok (.iload_n 2, 1) := by decide +kernel
theorem dX10_stepsOf_5 : decode cX10_stepsOf 5 = .ok (.iaload, 1) := by decide +kernel
theorem dX10_stepsOf_6 : decode cX10_stepsOf 6 = .ok (.istore 4, 2) := by decide +kernel
theorem dX10_stepsOf_8 : decode cX10_stepsOf 8 = .ok (.aload_n 0, 1) := by decide +kernel
theorem dX10_stepsOf_9 : decode cX10_stepsOf 9 = .ok (.iload 4, 2) := by decide +kernel
theorem dX10_stepsOf_11 : decode cX10_stepsOf 11 = .ok (.invokevirtual 47, 3) := by decide +kernel
theorem dX10_stepsOf_14 : decode cX10_stepsOf 14 = .ok (.ifCond .eq 23, 3) := by decide +kernel
theorem dX10_stepsOf_17 : decode cX10_stepsOf 17 = .ok (.aload_n 0, 1) := by decide +kernel
theorem dX10_stepsOf_18 : decode cX10_stepsOf 18 = .ok (.iload_n 3, 1) := by decide +kernel
theorem dX10_stepsOf_19 : decode cX10_stepsOf 19 = .ok (.aload_n 1, 1) := by decide +kernel
theorem dX10_stepsOf_20 : decode cX10_stepsOf 20 = .ok (.getfield 51, 3) := by decide +kernel
theorem dX10_stepsOf_23 : decode cX10_stepsOf 23 = .ok (.iload_n 2, 1) := by decide +kernel
theorem dX10_stepsOf_24 : decode cX10_stepsOf 24 = .ok (.iaload, 1) := by decide +kernel
theorem dX10_stepsOf_25 : decode cX10_stepsOf 25 = .ok (.invokevirtual 54, 3) := by decide +kernel
theorem dX10_stepsOf_28 : decode cX10_stepsOf 28 = .ok (.aload_n 1, 1) := by decide +kernel
theorem dX10_stepsOf_29 : decode cX10_stepsOf 29 = .ok (.getfield 58, 3) := by decide +kernel
theorem dX10_stepsOf_32 : decode cX10_stepsOf 32 = .ok (.iload_n 2, 1) := by decide +kernel
theorem dX10_stepsOf_33 : decode cX10_stepsOf 33 = .ok (.iaload, 1) := by decide +kernel
theorem dX10_stepsOf_34 : decode cX10_stepsOf 34 = .ok (.if_icmp .eq 5, 3) := by decide +kernel
theorem dX10_stepsOf_37 : decode cX10_stepsOf 37 = .ok (.iconst 0, 1) := by decide +kernel
theorem dX10_stepsOf_38 : decode cX10_stepsOf 38 = .ok (.ireturn, 1) := by decide +kernel
theorem dX10_stepsOf_39 : decode cX10_stepsOf 39 = .ok (.iconst 0, 1) := by decide +kernel
theorem dX10_stepsOf_40 : decode cX10_stepsOf 40 = .ok (.istore 5, 2) := by decide +kernel
theorem dX10_stepsOf_42 : decode cX10_stepsOf 42 = .ok (.iconst 0, 1) := by decide +kernel
theorem dX10_stepsOf_43 : decode cX10_stepsOf 43 = .ok (.istore 6, 2) := by decide +kernel
theorem dX10_stepsOf_45 : decode cX10_stepsOf 45 = .ok (.iload 6, 2) := by decide +kernel
theorem dX10_stepsOf_47 : decode cX10_stepsOf 47 = .ok (.aload_n 0, 1) := by decide +kernel
theorem dX10_stepsOf_48 : decode cX10_stepsOf 48 = .ok (.getfield 61, 3) := by decide +kernel
theorem dX10_stepsOf_51 : decode cX10_stepsOf 51 = .ok (.if_icmp .ge 59, 3) := by decide +kernel
theorem dX10_stepsOf_54 : decode cX10_stepsOf 54 = .ok (.aload_n 0, 1) := by decide +kernel
theorem dX10_stepsOf_55 : decode cX10_stepsOf 55 = .ok (.iload 4, 2) := by decide +kernel
theorem dX10_stepsOf_57 : decode cX10_stepsOf 57 = .ok (.iload 6, 2) := by decide +kernel
theorem dX10_stepsOf_59 : decode cX10_stepsOf 59 = .ok (.aload_n 0, 1) := by decide +kernel
theorem dX10_stepsOf_60 : decode cX10_stepsOf 60 = .ok (.iload_n 3, 1) := by decide +kernel
theorem dX10_stepsOf_61 : decode cX10_stepsOf 61 = .ok (.iload 6, 2) := by decide +kernel
theorem dX10_stepsOf_63 : decode cX10_stepsOf 63 = .ok (.aload_n 1, 1) := by decide +kernel
theorem dX10_stepsOf_64 : decode cX10_stepsOf 64 = .ok (.getfield 58, 3) := by decide +kernel
theorem dX10_stepsOf_67 : decode cX10_stepsOf 67 = .ok (.iload_n 2, 1) := by decide +kernel
theorem dX10_stepsOf_68 : decode cX10_stepsOf 68 = .ok (.iaload, 1) := by decide +kernel
theorem dX10_stepsOf_69 : decode cX10_stepsOf 69 = .ok (.invokevirtual 63, 3) := by decide +kernel
theorem dX10_stepsOf_72 : decode cX10_stepsOf 72 = .ok (.invokevirtual 67, 3) := by decide +kernel
theorem dX10_stepsOf_75 : decode cX10_stepsOf 75 = .ok (.ifCond .eq 29, 3) := by decide +kernel
theorem dX10_stepsOf_78 : decode cX10_stepsOf 78 = .ok (.aload_n 0, 1) := by decide +kernel
theorem dX10_stepsOf_79 : decode cX10_stepsOf 79 = .ok (.iload 4, 2) := by decide +kernel
theorem dX10_stepsOf_81 : decode cX10_stepsOf 81 = .ok (.iload 6, 2) := by decide +kernel
theorem dX10_stepsOf_83 : decode cX10_stepsOf 83 = .ok (.aload_n 1, 1) := by decide +kernel
theorem dX10_stepsOf_84 : decode cX10_stepsOf 84 = .ok (.getfield 71, 3) := by decide +kernel
theorem dX10_stepsOf_87 : decode cX10_stepsOf 87 = .ok (.iload_n 2, 1) := by decide +kernel
theorem dX10_stepsOf_88 : decode cX10_stepsOf 88 = .ok (.iaload, 1) := by decide +kernel
theorem dX10_stepsOf_89 : decode cX10_stepsOf 89 = .ok (.invokestatic 74, 3) := by decide +kernel
theorem dX10_stepsOf_92 : decode cX10_stepsOf 92 = .ok (.ifCond .eq 12, 3) := by decide +kernel
theorem dX10_stepsOf_95 : decode cX10_stepsOf 95 = .ok (.iload 5, 2) := by decide +kernel
theorem dX10_stepsOf_97 : decode cX10_stepsOf 97 = .ok (.iconst 1, 1) := by decide +kernel
theorem dX10_stepsOf_98 : decode cX10_stepsOf 98 = .ok (.iload 6, 2) := by decide +kernel
theorem dX10_stepsOf_100 : decode cX10_stepsOf 100 = .ok (.ishl, 1) := by decide +kernel
theorem dX10_stepsOf_101 : decode cX10_stepsOf 101 = .ok (.ior, 1) := by decide +kernel
theorem dX10_stepsOf_102 : decode cX10_stepsOf 102 = .ok (.istore 5, 2) := by decide +kernel
theorem dX10_stepsOf_104 : decode cX10_stepsOf 104 = .ok (.iinc 6 1, 3) := by decide +kernel
theorem dX10_stepsOf_107 : decode cX10_stepsOf 107 = .ok (.goto (-62), 3) := by decide +kernel
theorem dX10_stepsOf_110 : decode cX10_stepsOf 110 = .ok (.iload 5, 2) := by decide +kernel
theorem dX10_stepsOf_112 : decode cX10_stepsOf 112 = .ok (.ireturn, 1) := by decide +kernel
def w_X10_stepsOf_45 (I : mI) (a1 : Nat) (a2 : Nat) (a3 : Int32) (a4 : Int32) (post : Int32 → Prop) (v4 : Int32) (v5 : Int32) (v6 : Int32) : Prop := ∀ ZZ : (Int32 → Int32 → Int32 → Prop), (∀ (v4 : Int32) (v5 : Int32) (v6 : Int32), (((I a1 0) ≤ v6 → post v5) ∧ (¬ (I a1 0) ≤ v6 → vp_in a3 10 ∧ w_X3_loudOf I a1 a4 v6 (I (a2 + 3) a3.toNatClampNeg) (fun r4 => w_X3_hears I a1 v4 v6 r4 (fun b5 => (b5 = false → ∀ x6, x6 = v6 + 1 → ZZ v4 v5 x6) ∧ (b5 = true → vp_in a3 10 ∧ w_X10_echoFits I a1 v4 v6 (I (a2 + 4) a3.toNatClampNeg) (fun b7 => (b7 = false → ∀ x8, x8 = v6 + 1 → ZZ v4 v5 x8) ∧ (b7 = true → ∀ x9, x9 = (v5 ||| (1 <<< (v6 &&& 31))) → ∀ x10, x10 = v6 + 1 → ZZ v4 x9 x10))))))) → ZZ v4 v5 v6) → ZZ v4 v5 v6
set_option maxRecDepth 100000 in
set_option maxHeartbeats 4000000 in
theorem s_X10_stepsOf_45 {p : Program} {l : Launch} {e : Env} {s : State} {m : MethodId} {args : Array Value} {below : List Frame} {meth : Method} {c : Code} {D : va_G} {cA : Nat → ClassId} {Z : mZ} {bs : Ad} {n : Nat} {K : mK} {R : mR} {I : mI} {L : mL} (E : Ev p s m args c cX10_stepsOf 7 RX10 D cA Z bs) (hr : meth.sig.returnType = (some .int)) (hlk : meth.locks = false) {a1 : Nat} {a2 : Nat} {a3 : Int32} {a4 : Int32} (ha1 : isX3 K R a1) (ha2 : isX6 K R a2) {post : Int32 → Prop} {v4 : Int32} {v5 : Int32} {v6 : Int32} {H : Heap} {locs : List Loc} {ls : Array Slot} (hw : w_X10_stepsOf_45 I a1 a2 a3 a4 post v4 v5 v6) (hM : mm D cA bs (n, K, R, I, L) H) (hS : va_S (Ab bs) s.heap H locs) (hl : lv_has ls 7 [(0, .ref (ad bs a1)), (1, .ref (ad bs a2)), (2, .int a3), (3, .int a4), (4, .int v4), (5, .int v5), (6, .int v6)]) : W p l e ({ frames := 3, cells := 0, slots := 0, locals := 87 } : Room) s m args below meth c H locs 0 0 (MQ below (QI D cA bs (fun r u => u = (n, K, R, I, L) ∧ post r)) args s 0 0 (Ab bs)) (F0 m 45 ls []) := by
  have hx := E.1.1
  have hb := E.1.2.1
  refine hw (fun v4 v5 v6 => ∀ (H : Heap) (locs : List Loc) (ls : Array Slot), mm D cA bs (n, K, R, I, L) H → va_S (Ab bs) s.heap H locs → lv_has ls 7 [(0, .ref (ad bs a1)), (1, .ref (ad bs a2)), (2, .int a3), (3, .int a4), (4, .int v4), (5, .int v5), (6, .int v6)] → W p l e ({ frames := 3, cells := 0, slots := 0, locals := 87 } : Room) s m args below meth c H locs 0 0 (MQ below (QI D cA bs (fun r u => u = (n, K, R, I, L) ∧ post r)) args s 0 0 (Ab bs)) (F0 m 45 ls [])) ?_ H locs ls hM hS hl
  clear hw hM hS hl
  intro v4 v5 v6 hw H locs ls hM hS hl
  refine lv_iload hx hb dX10_stepsOf_45 (lv_at hl 6 rfl) ?_
  refine lv_aload_n hx hb dX10_stepsOf_47 rfl (lv_at hl 0 rfl) ?_
  refine m_geti E hM fs_X10_61 ha1.1 dX10_stepsOf_48 ?_
  refine lv_icmp_ge (tgt := 110) hx hb dX10_stepsOf_51 (by decide) (fun cq => ?_) (fun cq => ?_)
  · have hw := hw.1 cq
    refine lv_iload hx hb dX10_stepsOf_110 (lv_at hl 5 rfl) ?_
    exact m_reti hx hb hr hlk hM hS ⟨rfl, hw⟩ dX10_stepsOf_112
  · have hw := hw.2 cq
    refine lv_aload_n hx hb dX10_stepsOf_54 rfl (lv_at hl 0 rfl) ?_
    refine lv_iload hx hb dX10_stepsOf_55 (lv_at hl 4 rfl) ?_
    refine lv_iload hx hb dX10_stepsOf_57 (lv_at hl 6 rfl) ?_
    refine lv_aload_n hx hb dX10_stepsOf_59 rfl (lv_at hl 0 rfl) ?_
    refine lv_iload_n hx hb dX10_stepsOf_60 rfl (lv_at hl 3 rfl) ?_
    refine lv_iload hx hb dX10_stepsOf_61 (lv_at hl 6 rfl) ?_
    refine lv_aload_n hx hb dX10_stepsOf_63 rfl (lv_at hl 1 rfl) ?_
    refine m_getr E hM fs_X10_58 ha2.1 (isO_at ha2 2 rfl).1 dX10_stepsOf_64 ?_
    refine lv_iload_n hx hb dX10_stepsOf_67 rfl (lv_at hl 2 rfl) ?_
    obtain ⟨hv, hw⟩ := hw
    refine m_iald E hM (isO_at ha2 2 rfl).2 hv dX10_stepsOf_68 ?_
    refine m_ci (m_runV E hM hS cs_X10_63 ha1.1 (by decide) rfl rfl (c_X3_loudOf ha1 hw) rfl rfl ⟨Nat.le_of_ble_eq_true rfl, Nat.le_of_ble_eq_true rfl⟩ rfl hl.1 rfl (Nat.le_of_ble_eq_true rfl) dX10_stepsOf_69 ⟨Nat.le_of_ble_eq_true rfl, Nat.le_of_ble_eq_true rfl⟩) hS (fun r4 u H locs hp hM hS => ?_)
    obtain ⟨rfl, hw⟩ := hp
    refine m_ci (m_runV E hM hS cs_X10_67 ha1.1 (by decide) rfl rfl (c_X3_hears ha1 hw) rfl rfl ⟨Nat.le_of_ble_eq_true rfl, Nat.le_of_ble_eq_true rfl⟩ rfl hl.1 rfl (Nat.le_of_ble_eq_true rfl) dX10_stepsOf_72 ⟨Nat.le_of_ble_eq_true rfl, Nat.le_of_ble_eq_true rfl⟩) hS (fun r9 u H locs hp hM hS => ?_)
    obtain ⟨b5, rfl, rfl, hw⟩ := hp
    refine lv_if_eq (tgt := 104) hx hb dX10_stepsOf_75 (by decide) (fun cq => ?_) (fun cq => ?_)
    · have hw := hw.1 (bI_f cq)
      obtain ⟨x6, ex6⟩ : ∃ y : Int32, y = v6 + 1 := ⟨_, rfl⟩
      have hw := hw x6 ex6
      refine lv_iinc (v := x6) (lv' := [(6, .int x6), (0, .ref (ad bs a1)), (1, .ref (ad bs a2)), (2, .int a3), (3, .int a4), (4, .int v4), (5, .int v5)]) hx hb dX10_stepsOf_104 hl (k := 6) rfl (by rw [ex6]; rfl) (by decide) rfl (fun ls hl => ?_)
      refine lv_goto (tgt := 45) hx hb dX10_stepsOf_107 (by decide) ?_
      exact hw H locs ls  hM hS (lv_sub hl [1, 2, 3, 4, 5, 6, 0] rfl)
    · have hw := hw.2 (bI_t cq)
      refine lv_aload_n hx hb dX10_stepsOf_78 rfl (lv_at hl 0 rfl) ?_
      refine lv_iload hx hb dX10_stepsOf_79 (lv_at hl 4 rfl) ?_
      refine lv_iload hx hb dX10_stepsOf_81 (lv_at hl 6 rfl) ?_
      refine lv_aload_n hx hb dX10_stepsOf_83 rfl (lv_at hl 1 rfl) ?_
      refine m_getr E hM fs_X10_71 ha2.1 (isO_at ha2 3 rfl).1 dX10_stepsOf_84 ?_
      refine lv_iload_n hx hb dX10_stepsOf_87 rfl (lv_at hl 2 rfl) ?_
      obtain ⟨hv, hw⟩ := hw
      refine m_iald E hM (isO_at ha2 3 rfl).2 hv dX10_stepsOf_88 ?_
      refine m_ci (m_runS E hM hS cs_X10_74 (c_X10_echoFits ha1 hw) rfl rfl ⟨Nat.le_of_ble_eq_true rfl, Nat.le_of_ble_eq_true rfl⟩ rfl hl.1 rfl (Nat.le_of_ble_eq_true rfl) dX10_stepsOf_89 ⟨Nat.le_of_ble_eq_true rfl, Nat.le_of_ble_eq_true rfl⟩) hS (fun r9 u H locs hp hM hS => ?_)
      obtain ⟨b7, rfl, rfl, hw⟩ := hp
      refine lv_if_eq (tgt := 104) hx hb dX10_stepsOf_92 (by decide) (fun cq => ?_) (fun cq => ?_)
      · have hw := hw.1 (bI_f cq)
        obtain ⟨x8, ex8⟩ : ∃ y : Int32, y = v6 + 1 := ⟨_, rfl⟩
        have hw := hw x8 ex8
        refine lv_iinc (v := x8) (lv' := [(6, .int x8), (0, .ref (ad bs a1)), (1, .ref (ad bs a2)), (2, .int a3), (3, .int a4), (4, .int v4), (5, .int v5)]) hx hb dX10_stepsOf_104 hl (k := 6) rfl (by rw [ex8]; rfl) (by decide) rfl (fun ls hl => ?_)
        refine lv_goto (tgt := 45) hx hb dX10_stepsOf_107 (by decide) ?_
        exact hw H locs ls  hM hS (lv_sub hl [1, 2, 3, 4, 5, 6, 0] rfl)
      · have hw := hw.2 (bI_t cq)
        refine lv_iload hx hb dX10_stepsOf_95 (lv_at hl 5 rfl) ?_
        refine lv_iconst (v := 1) hx hb dX10_stepsOf_97 (by decide) ?_
        refine lv_iload hx hb dX10_stepsOf_98 (lv_at hl 6 rfl) ?_
        refine lv_ishl hx hb dX10_stepsOf_100 ?_
        refine lv_ior hx hb dX10_stepsOf_101 ?_
        refine lv_topi (fun x9 ex9 => ?_)
        have hw := hw x9 ex9
        refine lv_istore (lv' := [(5, .int x9), (0, .ref (ad bs a1)), (1, .ref (ad bs a2)), (2, .int a3), (3, .int a4), (4, .int v4), (6, .int v6)]) hx hb dX10_stepsOf_102 hl (by decide) rfl (fun ls hl => ?_)
        obtain ⟨x10, ex10⟩ : ∃ y : Int32, y = v6 + 1 := ⟨_, rfl⟩
        have hw := hw x10 ex10
        refine lv_iinc (v := x10) (lv' := [(6, .int x10), (5, .int x9), (0, .ref (ad bs a1)), (1, .ref (ad bs a2)), (2, .int a3), (3, .int a4), (4, .int v4)]) hx hb dX10_stepsOf_104 hl (k := 6) rfl (by rw [ex10]; rfl) (by decide) rfl (fun ls hl => ?_)
        refine lv_goto (tgt := 45) hx hb dX10_stepsOf_107 (by decide) ?_
        exact hw H locs ls  hM hS (lv_sub hl [2, 3, 4, 5, 6, 1, 0] rfl)
def w_X10_stepsOf (I : mI) (a1 : Nat) (a2 : Nat) (a3 : Int32) (a4 : Int32) (post : Int32 → Prop) : Prop := vp_in a3 10 ∧ ∀ x1, x1 = (I (a2 + 1) a3.toNatClampNeg) → w_X3_hasFlat I a1 x1 (fun b2 => (b2 = false → post 0) ∧ (b2 = true → vp_in a3 10 ∧ w_X3_shoeAt I a1 a4 (I (a2 + 2) a3.toNatClampNeg) (fun r3 => vp_in a3 10 ∧ (r3 = (I (a2 + 3) a3.toNatClampNeg) → (w_X10_stepsOf_45 I a1 a2 a3 a4 post) x1 0 0) ∧ (¬ r3 = (I (a2 + 3) a3.toNatClampNeg) → post 0))))
set_option maxRecDepth 100000 in
set_option maxHeartbeats 4000000 in
theorem c_X10_stepsOf {l : Launch} {D : va_G} {cA : Nat → ClassId} {Z : mZ} {bs : Ad} {n : Nat} {K : mK} {R : mR} {I : mI} {L : mL} {a1 : Nat} {a2 : Nat} {a3 : Int32} {a4 : Int32} {post : Int32 → Prop} (ha1 : isX3 K R a1) (ha2 : isX6 K R a2) (hw : w_X10_stepsOf I a1 a2 a3 a4 post) : Met l yX10_stepsOf (.code yX10_stepsOf cX10_stepsOf 7 (some .int) :: gw) ({ frames := 3, cells := 0, slots := 0, locals := 87 } : Room) (PreM D cA Z bs (n, K, R, I, L) [.ref (ad bs a1), .ref (ad bs a2), .int a3, .int a4]) (QI D cA bs (fun r u => u = (n, K, R, I, L) ∧ post r)) 0 0 (Ab bs) := by
  refine m_met (by decide) (Nat.le_of_ble_eq_true rfl) (fun p e s m below meth c ls E hr hlk hM hS hl => ?_)
  have E : Ev p s m _ c cX10_stepsOf 7 RX10 D cA Z bs := E
  have hl : lv_has ls 7 [(0, .ref (ad bs a1)), (1, .ref (ad bs a2)), (2, .int a3), (3, .int a4)] := hl
  have hx := E.1.1
  have hb := E.1.2.1
  generalize hHe : s.heap = H at hM ⊢
  have hS : va_S (Ab bs) s.heap H [] := by rw [← hHe]; exact va_S.rf
  clear hHe
  refine lv_aload_n hx hb dX10_stepsOf_0 rfl (lv_at hl 1 rfl) ?_
  refine m_getr E hM fs_X10_44 ha2.1 (isO_at ha2 0 rfl).1 dX10_stepsOf_1 ?_
  refine lv_iload_n hx hb dX10_stepsOf_4 rfl (lv_at hl 2 rfl) ?_
  obtain ⟨hv, hw⟩ := hw
  refine m_iald E hM (isO_at ha2 0 rfl).2 hv dX10_stepsOf_5 ?_
  refine lv_topi (fun x1 ex1 => ?_)
  have hw := hw x1 ex1
  refine lv_istore (lv' := [(4, .int x1), (0, .ref (ad bs a1)), (1, .ref (ad bs a2)), (2, .int a3), (3, .int a4)]) hx hb dX10_stepsOf_6 hl (by decide) rfl (fun ls hl => ?_)
  refine lv_aload_n hx hb dX10_stepsOf_8 rfl (lv_at hl 1 rfl) ?_
  refine lv_iload hx hb dX10_stepsOf_9 (lv_at hl 0 rfl) ?_
  refine m_ci (m_runV E hM hS cs_X10_47 ha1.1 (by decide) rfl rfl (c_X3_hasFlat ha1 hw) rfl rfl ⟨Nat.le_of_ble_eq_true rfl, Nat.le_of_ble_eq_true rfl⟩ rfl hl.1 rfl (Nat.le_of_ble_eq_true rfl) dX10_stepsOf_11 ⟨Nat.le_of_ble_eq_true rfl, Nat.le_of_ble_eq_true rfl⟩) hS (fun r9 u H locs hp hM hS => ?_)
  obtain ⟨b2, rfl, rfl, hw⟩ := hp
  refine lv_if_eq (tgt := 37) hx hb dX10_stepsOf_14 (by decide) (fun cq => ?_) (fun cq => ?_)
  · have hw := hw.1 (bI_f cq)
    refine lv_iconst (v := 0) hx hb dX10_stepsOf_37 (by decide) ?_
    exact m_reti hx hb hr hlk hM hS ⟨rfl, hw⟩ dX10_stepsOf_38
  · have hw := hw.2 (bI_t cq)
    refine lv_aload_n hx hb dX10_stepsOf_17 rfl (lv_at hl 1 rfl) ?_
    refine lv_iload_n hx hb dX10_stepsOf_18 rfl (lv_at hl 4 rfl) ?_
    refine lv_aload_n hx hb dX10_stepsOf_19 rfl (lv_at hl 2 rfl) ?_
    refine m_getr E hM fs_X10_51 ha2.1 (isO_at ha2 1 rfl).1 dX10_stepsOf_20 ?_
    refine lv_iload_n hx hb dX10_stepsOf_23 rfl (lv_at hl 3 rfl) ?_
    obtain ⟨hv, hw⟩ := hw
    refine m_iald E hM (isO_at ha2 1 rfl).2 hv dX10_stepsOf_24 ?_
    refine m_ci (m_runV E hM hS cs_X10_54 ha1.1 (by decide) rfl rfl (c_X3_shoeAt ha1 hw) rfl rfl ⟨Nat.le_of_ble_eq_true rfl, Nat.le_of_ble_eq_true rfl⟩ rfl hl.1 rfl (Nat.le_of_ble_eq_true rfl) dX10_stepsOf_25 ⟨Nat.le_of_ble_eq_true rfl, Nat.le_of_ble_eq_true rfl⟩) hS (fun r3 u H locs hp hM hS => ?_)
    obtain ⟨rfl, hw⟩ := hp
    refine lv_aload_n hx hb dX10_stepsOf_28 rfl (lv_at hl 2 rfl) ?_
    refine m_getr E hM fs_X10_58 ha2.1 (isO_at ha2 2 rfl).1 dX10_stepsOf_29 ?_
    refine lv_iload_n hx hb dX10_stepsOf_32 rfl (lv_at hl 3 rfl) ?_
    obtain ⟨hv, hw⟩ := hw
    refine m_iald E hM (isO_at ha2 2 rfl).2 hv dX10_stepsOf_33 ?_
    refine lv_icmp_eq (tgt := 39) hx hb dX10_stepsOf_34 (by decide) (fun cq => ?_) (fun cq => ?_)
    · have hw := hw.1 cq
      refine lv_iconst (v := 0) hx hb dX10_stepsOf_39 (by decide) ?_
      refine lv_istore (lv' := [(5, .int 0), (4, .int x1), (0, .ref (ad bs a1)), (1, .ref (ad bs a2)), (2, .int a3), (3, .int a4)]) hx hb dX10_stepsOf_40 hl (by decide) rfl (fun ls hl => ?_)
      refine lv_iconst (v := 0) hx hb dX10_stepsOf_42 (by decide) ?_
      refine lv_istore (lv' := [(6, .int 0), (5, .int 0), (4, .int x1), (0, .ref (ad bs a1)), (1, .ref (ad bs a2)), (2, .int a3), (3, .int a4)]) hx hb dX10_stepsOf_43 hl (by decide) rfl (fun ls hl => ?_)
      exact s_X10_stepsOf_45 E hr hlk ha1 ha2  hw hM hS (lv_sub hl [3, 4, 5, 6, 2, 1, 0] rfl)
    · have hw := hw.2 cq
      refine lv_iconst (v := 0) hx hb dX10_stepsOf_37 (by decide) ?_
      exact m_reti hx hb hr hlk hM hS ⟨rfl, hw⟩ dX10_stepsOf_38
theorem dX10_makersOf_0 : decode cX10_makersOf 0 = .ok (.iconst 0, 1) := by decide +kernel
theorem dX10_makersOf_1 : decode cX10_makersOf 1 = .ok (.istore_n 3, 1) := by decide +kernel
theorem dX10_makersOf_2 : decode cX10_makersOf 2 = .ok (.iconst 0, 1) := by decide +kernel
theorem dX10_makersOf_3 : decode cX10_makersOf 3 = .ok (.istore 4, 2) := by decide +kernel
theorem dX10_makersOf_5 : decode cX10_makersOf 5 = .ok (.iload 4, 2) := by decide +kernel
theorem dX10_makersOf_7 : decode cX10_makersOf 7 = .ok (.aload_n 0, 1) := by decide +kernel
theorem dX10_makersOf_8 : decode cX10_makersOf 8 = .ok (.getfield 35, 3) := by decide +kernel
theorem dX10_makersOf_11 : decode cX10_makersOf 11 = .ok (.if_icmp .ge 27, 3) := by decide +kernel
theorem dX10_makersOf_14 : decode cX10_makersOf 14 = .ok (.aload_n 0, 1) := by decide +kernel
theorem dX10_makersOf_15 : decode cX10_makersOf 15 = .ok (.aload_n 1, 1) := by decide +kernel
theorem dX10_makersOf_16 : decode cX10_makersOf 16 = .ok (.iload_n 2, 1) := by decide +kernel
theorem dX10_makersOf_17 : decode cX10_makersOf 17 = .ok (.iload 4, 2) := by decide +kernel
theorem dX10_makersOf_19 : decode cX10_makersOf 19 = .ok (.invokestatic 40, 3) := by decide +kernel
theorem dX10_makersOf_22 : decode cX10_makersOf 22 = .ok (.ifCond .eq 10, 3) := by decide +kernel
theorem dX10_makersOf_25 : decode cX10_makersOf 25 = .ok (.iload_n 3, 1) := by decide +kernel
theorem dX10_makersOf_26 : decode cX10_makersOf 26 = .ok (.iconst 1, 1) := by decide +kernel
theorem dX10_makersOf_27 : decode cX10_makersOf 27 = .ok (.iload 4, 2) := by decide +kernel
theorem dX10_makersOf_29 : decode cX10_makersOf 29 = .ok (.ishl, 1) := by decide +kernel
theorem dX10_makersOf_30 : decode cX10_makersOf 30 = .ok (.ior, 1) := by decide +kernel
theorem dX10_makersOf_31 : decode cX10_makersOf 31 = .ok (.istore_n 3, 1) := by decide +kernel
theorem dX10_makersOf_32 : decode cX10_makersOf 32 = .ok (.iinc 4 1, 3) := by decide +kernel
theorem dX10_makersOf_35 : decode cX10_makersOf 35 = .ok (.goto (-30), 3) := by decide +kernel
theorem dX10_makersOf_38 : decode cX10_makersOf 38 = .ok (.iload_n 3, 1) := by decide +kernel
theorem dX10_makersOf_39 : decode cX10_makersOf 39 = .ok (.ireturn, 1) := by decide +kernel
def w_X10_makersOf_5 (I : mI) (a1 : Nat) (a2 : Nat) (a3 : Int32) (post : Int32 → Prop) (v3 : Int32) (v4 : Int32) : Prop := ∀ ZZ : (Int32 → Int32 → Prop), (∀ (v3 : Int32) (v4 : Int32), (((I a1 3) ≤ v4 → post v3) ∧ (¬ (I a1 3) ≤ v4 → w_X10_stepsOf I a1 a2 a3 v4 (fun r1 => (r1 = 0 → ∀ x2, x2 = v4 + 1 → ZZ v3 x2) ∧ (¬ r1 = 0 → ∀ x3, x3 = (v3 ||| (1 <<< (v4 &&& 31))) → ∀ x4, x4 = v4 + 1 → ZZ x3 x4)))) → ZZ v3 v4) → ZZ v3 v4
set_option maxRecDepth 100000 in
set_option maxHeartbeats 4000000 in
theorem s_X10_makersOf_5 {p : Program} {l : Launch} {e : Env} {s : State} {m : MethodId} {args : Array Value} {below : List Frame} {meth : Method} {c : Code} {D : va_G} {cA : Nat → ClassId} {Z : mZ} {bs : Ad} {n : Nat} {K : mK} {R : mR} {I : mI} {L : mL} (E : Ev p s m args c cX10_makersOf 5 RX10 D cA Z bs) (hr : meth.sig.returnType = (some .int)) (hlk : meth.locks = false) {a1 : Nat} {a2 : Nat} {a3 : Int32} (ha1 : isX3 K R a1) (ha2 : isX6 K R a2) {post : Int32 → Prop} {v3 : Int32} {v4 : Int32} {H : Heap} {locs : List Loc} {ls : Array Slot} (hw : w_X10_makersOf_5 I a1 a2 a3 post v3 v4) (hM : mm D cA bs (n, K, R, I, L) H) (hS : va_S (Ab bs) s.heap H locs) (hl : lv_has ls 5 [(0, .ref (ad bs a1)), (1, .ref (ad bs a2)), (2, .int a3), (3, .int v3), (4, .int v4)]) : W p l e ({ frames := 4, cells := 0, slots := 0, locals := 113 } : Room) s m args below meth c H locs 0 0 (MQ below (QI D cA bs (fun r u => u = (n, K, R, I, L) ∧ post r)) args s 0 0 (Ab bs)) (F0 m 5 ls []) := by
  have hx := E.1.1
  have hb := E.1.2.1
  refine hw (fun v3 v4 => ∀ (H : Heap) (locs : List Loc) (ls : Array Slot), mm D cA bs (n, K, R, I, L) H → va_S (Ab bs) s.heap H locs → lv_has ls 5 [(0, .ref (ad bs a1)), (1, .ref (ad bs a2)), (2, .int a3), (3, .int v3), (4, .int v4)] → W p l e ({ frames := 4, cells := 0, slots := 0, locals := 113 } : Room) s m args below meth c H locs 0 0 (MQ below (QI D cA bs (fun r u => u = (n, K, R, I, L) ∧ post r)) args s 0 0 (Ab bs)) (F0 m 5 ls [])) ?_ H locs ls hM hS hl
  clear hw hM hS hl
  intro v3 v4 hw H locs ls hM hS hl
  refine lv_iload hx hb dX10_makersOf_5 (lv_at hl 4 rfl) ?_
  refine lv_aload_n hx hb dX10_makersOf_7 rfl (lv_at hl 0 rfl) ?_
  refine m_geti E hM fs_X10_35 ha1.1 dX10_makersOf_8 ?_
  refine lv_icmp_ge (tgt := 38) hx hb dX10_makersOf_11 (by decide) (fun cq => ?_) (fun cq => ?_)
  · have hw := hw.1 cq
    refine lv_iload_n hx hb dX10_makersOf_38 rfl (lv_at hl 3 rfl) ?_
    exact m_reti hx hb hr hlk hM hS ⟨rfl, hw⟩ dX10_makersOf_39
  · have hw := hw.2 cq
    refine lv_aload_n hx hb dX10_makersOf_14 rfl (lv_at hl 0 rfl) ?_
    refine lv_aload_n hx hb dX10_makersOf_15 rfl (lv_at hl 1 rfl) ?_
    refine lv_iload_n hx hb dX10_makersOf_16 rfl (lv_at hl 2 rfl) ?_
    refine lv_iload hx hb dX10_makersOf_17 (lv_at hl 4 rfl) ?_
    refine m_ci (m_runS E hM hS cs_X10_40 (c_X10_stepsOf ha1 ha2 hw) rfl rfl ⟨Nat.le_of_ble_eq_true rfl, Nat.le_of_ble_eq_true rfl⟩ rfl hl.1 rfl (Nat.le_of_ble_eq_true rfl) dX10_makersOf_19 ⟨Nat.le_of_ble_eq_true rfl, Nat.le_of_ble_eq_true rfl⟩) hS (fun r1 u H locs hp hM hS => ?_)
    obtain ⟨rfl, hw⟩ := hp
    refine lv_if_eq (tgt := 32) hx hb dX10_makersOf_22 (by decide) (fun cq => ?_) (fun cq => ?_)
    · have hw := hw.1 cq
      obtain ⟨x2, ex2⟩ : ∃ y : Int32, y = v4 + 1 := ⟨_, rfl⟩
      have hw := hw x2 ex2
      refine lv_iinc (v := x2) (lv' := [(4, .int x2), (0, .ref (ad bs a1)), (1, .ref (ad bs a2)), (2, .int a3), (3, .int v3)]) hx hb dX10_makersOf_32 hl (k := 4) rfl (by rw [ex2]; rfl) (by decide) rfl (fun ls hl => ?_)
      refine lv_goto (tgt := 5) hx hb dX10_makersOf_35 (by decide) ?_
      exact hw H locs ls  hM hS (lv_sub hl [1, 2, 3, 4, 0] rfl)
    · have hw := hw.2 cq
      refine lv_iload_n hx hb dX10_makersOf_25 rfl (lv_at hl 3 rfl) ?_
      refine lv_iconst (v := 1) hx hb dX10_makersOf_26 (by decide) ?_
      refine lv_iload hx hb dX10_makersOf_27 (lv_at hl 4 rfl) ?_
      refine lv_ishl hx hb dX10_makersOf_29 ?_
      refine lv_ior hx hb dX10_makersOf_30 ?_
      refine lv_topi (fun x3 ex3 => ?_)
      have hw := hw x3 ex3
      refine lv_istore_n (lv' := [(3, .int x3), (0, .ref (ad bs a1)), (1, .ref (ad bs a2)), (2, .int a3), (4, .int v4)]) hx hb dX10_makersOf_31 rfl hl (by decide) rfl (fun ls hl => ?_)
      obtain ⟨x4, ex4⟩ : ∃ y : Int32, y = v4 + 1 := ⟨_, rfl⟩
      have hw := hw x4 ex4
      refine lv_iinc (v := x4) (lv' := [(4, .int x4), (3, .int x3), (0, .ref (ad bs a1)), (1, .ref (ad bs a2)), (2, .int a3)]) hx hb dX10_makersOf_32 hl (k := 4) rfl (by rw [ex4]; rfl) (by decide) rfl (fun ls hl => ?_)
      refine lv_goto (tgt := 5) hx hb dX10_makersOf_35 (by decide) ?_
      exact hw H locs ls  hM hS (lv_sub hl [2, 3, 4, 1, 0] rfl)
def w_X10_makersOf (I : mI) (a1 : Nat) (a2 : Nat) (a3 : Int32) (post : Int32 → Prop) : Prop := (w_X10_makersOf_5 I a1 a2 a3 post) 0 0
set_option maxRecDepth 100000 in
set_option maxHeartbeats 4000000 in
theorem c_X10_makersOf {l : Launch} {D : va_G} {cA : Nat → ClassId} {Z : mZ} {bs : Ad} {n : Nat} {K : mK} {R : mR} {I : mI} {L : mL} {a1 : Nat} {a2 : Nat} {a3 : Int32} {post : Int32 → Prop} (ha1 : isX3 K R a1) (ha2 : isX6 K R a2) (hw : w_X10_makersOf I a1 a2 a3 post) : Met l yX10_makersOf (.code yX10_makersOf cX10_makersOf 5 (some .int) :: gw) ({ frames := 4, cells := 0, slots := 0, locals := 113 } : Room) (PreM D cA Z bs (n, K, R, I, L) [.ref (ad bs a1), .ref (ad bs a2), .int a3]) (QI D cA bs (fun r u => u = (n, K, R, I, L) ∧ post r)) 0 0 (Ab bs) := by
  refine m_met (by decide) (Nat.le_of_ble_eq_true rfl) (fun p e s m below meth c ls E hr hlk hM hS hl => ?_)
  have E : Ev p s m _ c cX10_makersOf 5 RX10 D cA Z bs := E
  have hl : lv_has ls 5 [(0, .ref (ad bs a1)), (1, .ref (ad bs a2)), (2, .int a3)] := hl
  have hx := E.1.1
  have hb := E.1.2.1
  generalize hHe : s.heap = H at hM ⊢
  have hS : va_S (Ab bs) s.heap H [] := by rw [← hHe]; exact va_S.rf
  clear hHe
  refine lv_iconst (v := 0) hx hb dX10_makersOf_0 (by decide) ?_
  refine lv_istore_n (lv' := [(3, .int 0), (0, .ref (ad bs a1)), (1, .ref (ad bs a2)), (2, .int a3)]) hx hb dX10_makersOf_1 rfl hl (by decide) rfl (fun ls hl => ?_)
  refine lv_iconst (v := 0) hx hb dX10_makersOf_2 (by decide) ?_
  refine lv_istore (lv' := [(4, .int 0), (3, .int 0), (0, .ref (ad bs a1)), (1, .ref (ad bs a2)), (2, .int a3)]) hx hb dX10_makersOf_3 hl (by decide) rfl (fun ls hl => ?_)
  exact s_X10_makersOf_5 E hr hlk ha1 ha2  hw hM hS (lv_sub hl [2, 3, 4, 1, 0] rfl)
theorem dX10_liesOf_0 : decode cX10_liesOf 0 = .ok (.iconst 0, 1) := by decide +kernel
theorem dX10_liesOf_1 : decode cX10_liesOf 1 = .ok (.istore_n 2, 1) := by decide +kernel
theorem dX10_liesOf_2 : decode cX10_liesOf 2 = .ok (.iconst 0, 1) := by decide +kernel
theorem dX10_liesOf_3 : decode cX10_liesOf 3 = .ok (.istore_n 3, 1) := by decide +kernel
theorem dX10_liesOf_4 : decode cX10_liesOf 4 = .ok (.iload_n 3, 1) := by decide +kernel
theorem dX10_liesOf_5 : decode cX10_liesOf 5 = .ok (.aload_n 1, 1) := by decide +kernel
theorem dX10_liesOf_6 : decode cX10_liesOf 6 = .ok (.getfield 25, 3) := by decide +kernel
theorem dX10_liesOf_9 : decode cX10_liesOf 9 = .ok (.if_icmp .ge 24, 3) := by decide +kernel
theorem dX10_liesOf_12 : decode cX10_liesOf 12 = .ok (.aload_n 0, 1) := by decide +kernel
theorem dX10_liesOf_13 : decode cX10_liesOf 13 = .ok (.aload_n 1, 1) := by decide +kernel
theorem dX10_liesOf_14 : decode cX10_liesOf 14 = .ok (.iload_n 3, 1) := by decide +kernel
theorem dX10_liesOf_15 : decode cX10_liesOf 15 = .ok (.invokestatic 31, 3) := by decide +kernel
theorem dX10_liesOf_18 : decode cX10_liesOf 18 = .ok (.ifCond .ne 9, 3) := by decide +kernel
theorem dX10_liesOf_21 : decode cX10_liesOf 21 = .ok (.iload_n 2, 1) := by decide +kernel
theorem dX10_liesOf_22 : decode cX10_liesOf 22 = .ok (.iconst 1, 1) := by decide +kernel
theorem dX10_liesOf_23 : decode cX10_liesOf 23 = .ok (.iload_n 3, 1) := by decide +kernel
theorem dX10_liesOf_24 : decode cX10_liesOf 24 = .ok (.ishl, 1) := by decide +kernel
theorem dX10_liesOf_25 : decode cX10_liesOf 25 = .ok (.ior, 1) := by decide +kernel
theorem dX10_liesOf_26 : decode cX10_liesOf 26 = .ok (.istore_n 2, 1) := by decide +kernel
theorem dX10_liesOf_27 : decode cX10_liesOf 27 = .ok (.iinc 3 1, 3) := by decide +kernel
theorem dX10_liesOf_30 : decode cX10_liesOf 30 = .ok (.goto (-26), 3) := by decide +kernel
theorem dX10_liesOf_33 : decode cX10_liesOf 33 = .ok (.iload_n 2, 1) := by decide +kernel
theorem dX10_liesOf_34 : decode cX10_liesOf 34 = .ok (.ireturn, 1) := by decide +kernel
def w_X10_liesOf_4 (I : mI) (a1 : Nat) (a2 : Nat) (post : Int32 → Prop) (v2 : Int32) (v3 : Int32) : Prop := ∀ ZZ : (Int32 → Int32 → Prop), (∀ (v2 : Int32) (v3 : Int32), (((I a2 0) ≤ v3 → post v2) ∧ (¬ (I a2 0) ≤ v3 → w_X10_makersOf I a1 a2 v3 (fun r1 => (¬ r1 = 0 → ∀ x2, x2 = v3 + 1 → ZZ v2 x2) ∧ (r1 = 0 → ∀ x3, x3 = (v2 ||| (1 <<< (v3 &&& 31))) → ∀ x4, x4 = v3 + 1 → ZZ x3 x4)))) → ZZ v2 v3) → ZZ v2 v3
set_option maxRecDepth 100000 in
set_option maxHeartbeats 4000000 in
theorem s_X10_liesOf_4 {p : Program} {l : Launch} {e : Env} {s : State} {m : MethodId} {args : Array Value} {below : List Frame} {meth : Method} {c : Code} {D : va_G} {cA : Nat → ClassId} {Z : mZ} {bs : Ad} {n : Nat} {K : mK} {R : mR} {I : mI} {L : mL} (E : Ev p s m args c cX10_liesOf 4 RX10 D cA Z bs) (hr : meth.sig.returnType = (some .int)) (hlk : meth.locks = false) {a1 : Nat} {a2 : Nat} (ha1 : isX3 K R a1) (ha2 : isX6 K R a2) {post : Int32 → Prop} {v2 : Int32} {v3 : Int32} {H : Heap} {locs : List Loc} {ls : Array Slot} (hw : w_X10_liesOf_4 I a1 a2 post v2 v3) (hM : mm D cA bs (n, K, R, I, L) H) (hS : va_S (Ab bs) s.heap H locs) (hl : lv_has ls 4 [(0, .ref (ad bs a1)), (1, .ref (ad bs a2)), (2, .int v2), (3, .int v3)]) : W p l e ({ frames := 5, cells := 0, slots := 0, locals := 137 } : Room) s m args below meth c H locs 0 0 (MQ below (QI D cA bs (fun r u => u = (n, K, R, I, L) ∧ post r)) args s 0 0 (Ab bs)) (F0 m 4 ls []) := by
  have hx := E.1.1
  have hb := E.1.2.1
  refine hw (fun v2 v3 => ∀ (H : Heap) (locs : List Loc) (ls : Array Slot), mm D cA bs (n, K, R, I, L) H → va_S (Ab bs) s.heap H locs → lv_has ls 4 [(0, .ref (ad bs a1)), (1, .ref (ad bs a2)), (2, .int v2), (3, .int v3)] → W p l e ({ frames := 5, cells := 0, slots := 0, locals := 137 } : Room) s m args below meth c H locs 0 0 (MQ below (QI D cA bs (fun r u => u = (n, K, R, I, L) ∧ post r)) args s 0 0 (Ab bs)) (F0 m 4 ls [])) ?_ H locs ls hM hS hl
  clear hw hM hS hl
  intro v2 v3 hw H locs ls hM hS hl
  refine lv_iload_n hx hb dX10_liesOf_4 rfl (lv_at hl 3 rfl) ?_
  refine lv_aload_n hx hb dX10_liesOf_5 rfl (lv_at hl 1 rfl) ?_
  refine m_geti E hM fs_X10_25 ha2.1 dX10_liesOf_6 ?_
  refine lv_icmp_ge (tgt := 33) hx hb dX10_liesOf_9 (by decide) (fun cq => ?_) (fun cq => ?_)
  · have hw := hw.1 cq
    refine lv_iload_n hx hb dX10_liesOf_33 rfl (lv_at hl 2 rfl) ?_
    exact m_reti hx hb hr hlk hM hS ⟨rfl, hw⟩ dX10_liesOf_34
  · have hw := hw.2 cq
    refine lv_aload_n hx hb dX10_liesOf_12 rfl (lv_at hl 0 rfl) ?_
    refine lv_aload_n hx hb dX10_liesOf_13 rfl (lv_at hl 1 rfl) ?_
    refine lv_iload_n hx hb dX10_liesOf_14 rfl (lv_at hl 3 rfl) ?_
    refine m_ci (m_runS E hM hS cs_X10_31 (c_X10_makersOf ha1 ha2 hw) rfl rfl ⟨Nat.le_of_ble_eq_true rfl, Nat.le_of_ble_eq_true rfl⟩ rfl hl.1 rfl (Nat.le_of_ble_eq_true rfl) dX10_liesOf_15 ⟨Nat.le_of_ble_eq_true rfl, Nat.le_of_ble_eq_true rfl⟩) hS (fun r1 u H locs hp hM hS => ?_)
    obtain ⟨rfl, hw⟩ := hp
    refine lv_if_ne (tgt := 27) hx hb dX10_liesOf_18 (by decide) (fun cq => ?_) (fun cq => ?_)
    · have hw := hw.1 cq
      obtain ⟨x2, ex2⟩ : ∃ y : Int32, y = v3 + 1 := ⟨_, rfl⟩
      have hw := hw x2 ex2
      refine lv_iinc (v := x2) (lv' := [(3, .int x2), (0, .ref (ad bs a1)), (1, .ref (ad bs a2)), (2, .int v2)]) hx hb dX10_liesOf_27 hl (k := 3) rfl (by rw [ex2]; rfl) (by decide) rfl (fun ls hl => ?_)
      refine lv_goto (tgt := 4) hx hb dX10_liesOf_30 (by decide) ?_
      exact hw H locs ls  hM hS (lv_sub hl [1, 2, 3, 0] rfl)
    · have hw := hw.2 cq
      refine lv_iload_n hx hb dX10_liesOf_21 rfl (lv_at hl 2 rfl) ?_
      refine lv_iconst (v := 1) hx hb dX10_liesOf_22 (by decide) ?_
      refine lv_iload_n hx hb dX10_liesOf_23 rfl (lv_at hl 3 rfl) ?_
      refine lv_ishl hx hb dX10_liesOf_24 ?_
      refine lv_ior hx hb dX10_liesOf_25 ?_
      refine lv_topi (fun x3 ex3 => ?_)
      have hw := hw x3 ex3
      refine lv_istore_n (lv' := [(2, .int x3), (0, .ref (ad bs a1)), (1, .ref (ad bs a2)), (3, .int v3)]) hx hb dX10_liesOf_26 rfl hl (by decide) rfl (fun ls hl => ?_)
      obtain ⟨x4, ex4⟩ : ∃ y : Int32, y = v3 + 1 := ⟨_, rfl⟩
      have hw := hw x4 ex4
      refine lv_iinc (v := x4) (lv' := [(3, .int x4), (2, .int x3), (0, .ref (ad bs a1)), (1, .ref (ad bs a2))]) hx hb dX10_liesOf_27 hl (k := 3) rfl (by rw [ex4]; rfl) (by decide) rfl (fun ls hl => ?_)
      refine lv_goto (tgt := 4) hx hb dX10_liesOf_30 (by decide) ?_
      exact hw H locs ls  hM hS (lv_sub hl [2, 3, 1, 0] rfl)
def w_X10_liesOf (I : mI) (a1 : Nat) (a2 : Nat) (post : Int32 → Prop) : Prop := (w_X10_liesOf_4 I a1 a2 post) 0 0
set_option maxRecDepth 100000 in
set_option maxHeartbeats 4000000 in
theorem c_X10_liesOf {l : Launch} {D : va_G} {cA : Nat → ClassId} {Z : mZ} {bs : Ad} {n : Nat} {K : mK} {R : mR} {I : mI} {L : mL} {a1 : Nat} {a2 : Nat} {post : Int32 → Prop} (ha1 : isX3 K R a1) (ha2 : isX6 K R a2) (hw : w_X10_liesOf I a1 a2 post) : Met l yX10_liesOf (.code yX10_liesOf cX10_liesOf 4 (some .int) :: gw) ({ frames := 5, cells := 0, slots := 0, locals := 137 } : Room) (PreM D cA Z bs (n, K, R, I, L) [.ref (ad bs a1), .ref (ad bs a2)]) (QI D cA bs (fun r u => u = (n, K, R, I, L) ∧ post r)) 0 0 (Ab bs) := by
  refine m_met (by decide) (Nat.le_of_ble_eq_true rfl) (fun p e s m below meth c ls E hr hlk hM hS hl => ?_)
  have E : Ev p s m _ c cX10_liesOf 4 RX10 D cA Z bs := E
  have hl : lv_has ls 4 [(0, .ref (ad bs a1)), (1, .ref (ad bs a2))] := hl
  have hx := E.1.1
  have hb := E.1.2.1
  generalize hHe : s.heap = H at hM ⊢
  have hS : va_S (Ab bs) s.heap H [] := by rw [← hHe]; exact va_S.rf
  clear hHe
  refine lv_iconst (v := 0) hx hb dX10_liesOf_0 (by decide) ?_
  refine lv_istore_n (lv' := [(2, .int 0), (0, .ref (ad bs a1)), (1, .ref (ad bs a2))]) hx hb dX10_liesOf_1 rfl hl (by decide) rfl (fun ls hl => ?_)
  refine lv_iconst (v := 0) hx hb dX10_liesOf_2 (by decide) ?_
  refine lv_istore_n (lv' := [(3, .int 0), (2, .int 0), (0, .ref (ad bs a1)), (1, .ref (ad bs a2))]) hx hb dX10_liesOf_3 rfl hl (by decide) rfl (fun ls hl => ?_)
  exact s_X10_liesOf_4 E hr hlk ha1 ha2  hw hM hS (lv_sub hl [2, 3, 1, 0] rfl)
theorem dX10_insert_0 : decode cX10_insert 0 = .ok (.aload_n 0, 1) := by decide +kernel
theorem dX10_insert_1 : decode cX10_insert 1 = .ok (.getfield 84, 3) := by decide +kernel
theorem dX10_insert_4 : decode cX10_insert 4 = .ok (.istore_n 3, 1) := by decide +kernel
theorem dX10_insert_5 : decode cX10_insert 5 = .ok (.iload_n 3, 1) := by decide +kernel
theorem dX10_insert_6 : decode cX10_insert 6 = .ok (.ifCond .le 45, 3) := by decide +kernel
theorem dX10_insert_9 : decode cX10_insert 9 = .ok (.aload_n 1, 1) := by decide +kernel
theorem dX10_insert_10 : decode cX10_insert 10 = .ok (.getfield 51, 3) := by decide +kernel
theorem dX10_insert_13 : decode cX10_insert 13 = .ok (.aload_n 0, 1) := by decide +kernel
theorem dX10_insert_14 : decode cX10_insert 14 = .ok (.getfield 9, 3) := by decide +kernel
theorem dX10_insert_17 : decode cX10_insert 17 = .ok (.iload_n 3, 1) := by decide +kernel
theorem dX10_insert_18 : decode cX10_insert 18 = .ok (.iconst 1, 1) := by decide +kernel
theorem dX10_insert_19 : decode cX10_insert 19 = .ok (.isub, 1) := by decide +kernel
theorem dX10_insert_20 : decode cX10_insert 20 = .ok (.iaload, 1) := by decide +kernel
theorem dX10_insert_21 : decode cX10_insert 21 = .ok (.iaload, 1) := by decide +kernel
theorem dX10_insert_22 : decode cX10_insert 22 = .ok (.aload_n 1, 1) := by decide +kernel
theorem dX10_insert_23 : decode cX10_insert 23 = .ok (.getfield 51, 3) := by decide +kernel
theorem dX10_insert_26 : decode cX10_insert 26 = .ok (.iload_n 2, 1) := by decide +kernel
theorem dX10_insert_27 : decode cX10_insert 27 = .ok (.iaload, 1) := by decide +kernel
theorem dX10_insert_28 : decode cX10_insert 28 = .ok (.if_icmp .le 23, 3) := by decide +kernel
theorem dX10_insert_31 : decode cX10_insert 31 = .ok (.aload_n 0, 1) := by decide +kernel
theorem dX10_insert_32 : decode cX10_insert 32 = .ok (.getfield 9, 3) := by decide +kernel
theorem dX10_insert_35 : decode cX10_insert 35 = .ok (.iload_n 3, 1) := by decide +kernel
theorem dX10_insert_36 : decode cX10_insert 36 = .ok (.aload_n 0, 1) := by decide +kernel
theorem dX10_insert_37 : decode cX10_insert 37 = .ok (.getfield 9, 3) := by decide +kernel
theorem dX10_insert_40 : decode cX10_insert 40 = .ok (.iload_n 3, 1) := by decide +kernel
theorem dX10_insert_41 : decode cX10_insert 41 = .ok (.iconst 1, 1) := by decide +kernel
theorem dX10_insert_42 : decode cX10_insert 42 = .ok (.isub, 1) := by decide +kernel
theorem dX10_insert_43 : decode cX10_insert 43 = .ok (.iaload, 1) := by decide +kernel
theorem dX10_insert_44 : decode cX10_insert 44 = .ok (.iastore, 1) := by decide +kernel
theorem dX10_insert_45 : decode cX10_insert 45 = .ok (.iinc 3 (-1), 3) := by decide +kernel
theorem dX10_insert_48 : decode cX10_insert 48 = .ok (.goto (-43), 3) := by decide +kernel
theorem dX10_insert_51 : decode cX10_insert 51 = .ok (.aload_n 0, 1) := by decide +kernel
theorem dX10_insert_52 : decode cX10_insert 52 = .ok (.getfield 9, 3) := by decide +kernel
theorem dX10_insert_55 : decode cX10_insert 55 = .ok (.iload_n 3, 1) := by decide +kernel
theorem dX10_insert_56 : decode cX10_insert 56 = .ok (.iload_n 2, 1) := by decide +kernel
theorem dX10_insert_57 : decode cX10_insert 57 = .ok (.iastore, 1) := by decide +kernel
theorem dX10_insert_58 : decode cX10_insert 58 = .ok (.aload_n 0, 1) := by decide +kernel
theorem dX10_insert_59 : decode cX10_insert 59 = .ok (.dup, 1) := by decide +kernel
theorem dX10_insert_60 : decode cX10_insert 60 = .ok (.getfield 84, 3) := by decide +kernel
theorem dX10_insert_63 : decode cX10_insert 63 = .ok (.iconst 1, 1) := by decide +kernel
theorem dX10_insert_64 : decode cX10_insert 64 = .ok (.iadd, 1) := by decide +kernel
theorem dX10_insert_65 : decode cX10_insert 65 = .ok (.putfield 84, 3) := by decide +kernel
theorem dX10_insert_68 : decode cX10_insert 68 = .ok (.return_, 1) := by decide +kernel
def w_X10_insert_5 (o : Nat) (a1 : Nat) (a2 : Int32) (post : mI → Prop) (k51 : mI → Int32 → Prop) (I : mI) (v3 : Int32) : Prop := ∀ ZZ : (mI → Int32 → Prop), (∀ (I : mI) (v3 : Int32), ((v3 ≤ 0 → k51 I v3) ∧ (¬ v3 ≤ 0 → vp_in (v3 - 1) 10 ∧ vp_in (I (o + 1) (v3 - 1).toNatClampNeg) 10 ∧ vp_in a2 10 ∧ ((I (a1 + 2) (I (o + 1) (v3 - 1).toNatClampNeg).toNatClampNeg) ≤ (I (a1 + 2) a2.toNatClampNeg) → k51 I v3) ∧ (¬ (I (a1 + 2) (I (o + 1) (v3 - 1).toNatClampNeg).toNatClampNeg) ≤ (I (a1 + 2) a2.toNatClampNeg) → vp_in (v3 - 1) 10 ∧ vp_in v3 10 ∧ ∀ I2, I2 = up2 I (o + 1) v3.toNatClampNeg (I (o + 1) (v3 - 1).toNatClampNeg) → ∀ x3, x3 = v3 + (-1) → ZZ I2 x3))) → ZZ I v3) → ZZ I v3
set_option maxRecDepth 100000 in
set_option maxHeartbeats 4000000 in
theorem s_X10_insert_5 {p : Program} {l : Launch} {e : Env} {s : State} {m : MethodId} {args : Array Value} {below : List Frame} {meth : Method} {c : Code} {D : va_G} {cA : Nat → ClassId} {Z : mZ} {bs : Ad} {n : Nat} {K : mK} {R : mR} {L : mL} (E : Ev p s m args c cX10_insert 4 RX10 D cA Z bs) (hr : meth.sig.returnType = none) (hlk : meth.locks = false) {o : Nat} {a1 : Nat} {a2 : Int32} (ho : isX10 K R o) (ha1 : isX6 K R a1) {post : mI → Prop} {k51 : mI → Int32 → Prop} (hk51 : ∀ (I : mI) (v3 : Int32) (H : Heap) (locs : List Loc) (ls : Array Slot), k51 I v3 → mm D cA bs (n, K, R, I, L) H → va_S (Ab bs) s.heap H locs → lv_has ls 4 [(0, .ref (ad bs o)), (2, .int a2), (3, .int v3)] → W p l e ({ frames := 0, cells := 0, slots := 0, locals := 0 } : Room) s m args below meth c H locs 0 0 (MQ below (QV D cA bs (fun u => ∃ I', u = (n, K, R, I', L) ∧ post I')) args s 0 0 (Ab bs)) (F0 m 51 ls [])) {I : mI} {v3 : Int32} {H : Heap} {locs : List Loc} {ls : Array Slot} (hw : w_X10_insert_5 o a1 a2 post k51 I v3) (hM : mm D cA bs (n, K, R, I, L) H) (hS : va_S (Ab bs) s.heap H locs) (hl : lv_has ls 4 [(0, .ref (ad bs o)), (1, .ref (ad bs a1)), (2, .int a2), (3, .int v3)]) : W p l e ({ frames := 0, cells := 0, slots := 0, locals := 0 } : Room) s m args below meth c H locs 0 0 (MQ below (QV D cA bs (fun u => ∃ I', u = (n, K, R, I', L) ∧ post I')) args s 0 0 (Ab bs)) (F0 m 5 ls []) := by
  have hx := E.1.1
  have hb := E.1.2.1
  refine hw (fun I v3 => ∀ (H : Heap) (locs : List Loc) (ls : Array Slot), mm D cA bs (n, K, R, I, L) H → va_S (Ab bs) s.heap H locs → lv_has ls 4 [(0, .ref (ad bs o)), (1, .ref (ad bs a1)), (2, .int a2), (3, .int v3)] → W p l e ({ frames := 0, cells := 0, slots := 0, locals := 0 } : Room) s m args below meth c H locs 0 0 (MQ below (QV D cA bs (fun u => ∃ I', u = (n, K, R, I', L) ∧ post I')) args s 0 0 (Ab bs)) (F0 m 5 ls [])) ?_ H locs ls hM hS hl
  clear hw hM hS hl
  intro I v3 hw H locs ls hM hS hl
  refine lv_iload_n hx hb dX10_insert_5 rfl (lv_at hl 3 rfl) ?_
  refine lv_if_le (tgt := 51) hx hb dX10_insert_6 (by decide) (fun cq => ?_) (fun cq => ?_)
  · have hw := hw.1 cq
    exact hk51 _ _ H locs ls  hw hM hS (lv_sub hl [0, 2, 3] rfl)
  · have hw := hw.2 cq
    refine lv_aload_n hx hb dX10_insert_9 rfl (lv_at hl 1 rfl) ?_
    refine m_getr E hM fs_X10_51 ha1.1 (isO_at ha1 1 rfl).1 dX10_insert_10 ?_
    refine lv_aload_n hx hb dX10_insert_13 rfl (lv_at hl 0 rfl) ?_
    refine m_getr E hM fs_X10_9 ho.1 (isO_at ho 0 rfl).1 dX10_insert_14 ?_
    refine lv_iload_n hx hb dX10_insert_17 rfl (lv_at hl 3 rfl) ?_
    refine lv_iconst (v := 1) hx hb dX10_insert_18 (by decide) ?_
    refine lv_isub hx hb dX10_insert_19 ?_
    obtain ⟨hv, hw⟩ := hw
    refine m_iald E hM (isO_at ho 0 rfl).2 hv dX10_insert_20 ?_
    obtain ⟨hv, hw⟩ := hw
    refine m_iald E hM (isO_at ha1 1 rfl).2 hv dX10_insert_21 ?_
    refine lv_aload_n hx hb dX10_insert_22 rfl (lv_at hl 1 rfl) ?_
    refine m_getr E hM fs_X10_51 ha1.1 (isO_at ha1 1 rfl).1 dX10_insert_23 ?_
    refine lv_iload_n hx hb dX10_insert_26 rfl (lv_at hl 2 rfl) ?_
    obtain ⟨hv, hw⟩ := hw
    refine m_iald E hM (isO_at ha1 1 rfl).2 hv dX10_insert_27 ?_
    refine lv_icmp_le (tgt := 51) hx hb dX10_insert_28 (by decide) (fun cq => ?_) (fun cq => ?_)
    · have hw := hw.1 cq
      exact hk51 _ _ H locs ls  hw hM hS (lv_sub hl [0, 2, 3] rfl)
    · have hw := hw.2 cq
      refine lv_aload_n hx hb dX10_insert_31 rfl (lv_at hl 0 rfl) ?_
      refine m_getr E hM fs_X10_9 ho.1 (isO_at ho 0 rfl).1 dX10_insert_32 ?_
      refine lv_iload_n hx hb dX10_insert_35 rfl (lv_at hl 3 rfl) ?_
      refine lv_aload_n hx hb dX10_insert_36 rfl (lv_at hl 0 rfl) ?_
      refine m_getr E hM fs_X10_9 ho.1 (isO_at ho 0 rfl).1 dX10_insert_37 ?_
      refine lv_iload_n hx hb dX10_insert_40 rfl (lv_at hl 3 rfl) ?_
      refine lv_iconst (v := 1) hx hb dX10_insert_41 (by decide) ?_
      refine lv_isub hx hb dX10_insert_42 ?_
      obtain ⟨hv, hw⟩ := hw
      refine m_iald E hM (isO_at ho 0 rfl).2 hv dX10_insert_43 ?_
      obtain ⟨hv, hw⟩ := hw
      refine m_iast E hM hS (isO_at ho 0 rfl).2 hv dX10_insert_44 (fun I2 H locs eI2 hM hS => ?_)
      have hw := hw I2 eI2
      obtain ⟨x3, ex3⟩ : ∃ y : Int32, y = v3 + (-1) := ⟨_, rfl⟩
      have hw := hw x3 ex3
      refine lv_iinc (v := x3) (lv' := [(3, .int x3), (0, .ref (ad bs o)), (1, .ref (ad bs a1)), (2, .int a2)]) hx hb dX10_insert_45 hl (k := 3) rfl (by rw [ex3]; rfl) (by decide) rfl (fun ls hl => ?_)
      refine lv_goto (tgt := 5) hx hb dX10_insert_48 (by decide) ?_
      exact hw H locs ls  hM hS (lv_sub hl [1, 2, 3, 0] rfl)
def w_X10_insert_51 (o : Nat) (a1 : Nat) (a2 : Int32) (post : mI → Prop) (I : mI) (v3 : Int32) : Prop := vp_in v3 10 ∧ ∀ I4, I4 = up2 I (o + 1) v3.toNatClampNeg a2 → ∀ I5, I5 = up2 I4 o 1 ((I4 o 1) + 1) → post I5
set_option maxRecDepth 100000 in
set_option maxHeartbeats 4000000 in
theorem s_X10_insert_51 {p : Program} {l : Launch} {e : Env} {s : State} {m : MethodId} {args : Array Value} {below : List Frame} {meth : Method} {c : Code} {D : va_G} {cA : Nat → ClassId} {Z : mZ} {bs : Ad} {n : Nat} {K : mK} {R : mR} {L : mL} (E : Ev p s m args c cX10_insert 4 RX10 D cA Z bs) (hr : meth.sig.returnType = none) (hlk : meth.locks = false) {o : Nat} {a1 : Nat} {a2 : Int32} (ho : isX10 K R o) (ha1 : isX6 K R a1) {post : mI → Prop} {I : mI} {v3 : Int32} {H : Heap} {locs : List Loc} {ls : Array Slot} (hw : w_X10_insert_51 o a1 a2 post I v3) (hM : mm D cA bs (n, K, R, I, L) H) (hS : va_S (Ab bs) s.heap H locs) (hl : lv_has ls 4 [(0, .ref (ad bs o)), (2, .int a2), (3, .int v3)]) : W p l e ({ frames := 0, cells := 0, slots := 0, locals := 0 } : Room) s m args below meth c H locs 0 0 (MQ below (QV D cA bs (fun u => ∃ I', u = (n, K, R, I', L) ∧ post I')) args s 0 0 (Ab bs)) (F0 m 51 ls []) := by
  have hx := E.1.1
  have hb := E.1.2.1
  refine lv_aload_n hx hb dX10_insert_51 rfl (lv_at hl 0 rfl) ?_
  refine m_getr E hM fs_X10_9 ho.1 (isO_at ho 0 rfl).1 dX10_insert_52 ?_
  refine lv_iload_n hx hb dX10_insert_55 rfl (lv_at hl 2 rfl) ?_
  refine lv_iload_n hx hb dX10_insert_56 rfl (lv_at hl 1 rfl) ?_
  obtain ⟨hv, hw⟩ := hw
  refine m_iast E hM hS (isO_at ho 0 rfl).2 hv dX10_insert_57 (fun I4 H locs eI4 hM hS => ?_)
  have hw := hw I4 eI4
  refine lv_aload_n hx hb dX10_insert_58 rfl (lv_at hl 0 rfl) ?_
  refine lv_dup hx hb dX10_insert_59 rfl ?_
  refine m_geti E hM fs_X10_84 ho.1 dX10_insert_60 ?_
  refine lv_iconst (v := 1) hx hb dX10_insert_63 (by decide) ?_
  refine lv_iadd hx hb dX10_insert_64 ?_
  refine m_puti E hM hS fp_X10_84 ho.1 rfl rfl dX10_insert_65 (fun I5 H locs eI5 hM hS => ?_)
  have hw := hw I5 eI5
  exact m_retv hx hb hr hlk hM hS ⟨_, rfl, hw⟩ dX10_insert_68
def w_X10_insert (I : mI) (o : Nat) (a1 : Nat) (a2 : Int32) (post : mI → Prop) : Prop := ∀ x1, x1 = (I o 1) → (w_X10_insert_5 o a1 a2 post (w_X10_insert_51 o a1 a2 post)) I x1
set_option maxRecDepth 100000 in
set_option maxHeartbeats 4000000 in
theorem c_X10_insert {l : Launch} {D : va_G} {cA : Nat → ClassId} {Z : mZ} {bs : Ad} {n : Nat} {K : mK} {R : mR} {I : mI} {L : mL} {o : Nat} {a1 : Nat} {a2 : Int32} {post : mI → Prop} (ho : isX10 K R o) (ha1 : isX6 K R a1) (hw : w_X10_insert I o a1 a2 post) : Met l yX10_insert (.code yX10_insert cX10_insert 4 none :: gw) ({ frames := 0, cells := 0, slots := 0, locals := 0 } : Room) (PreM D cA Z bs (n, K, R, I, L) [.ref (ad bs o), .ref (ad bs a1), .int a2]) (QV D cA bs (fun u => ∃ I', u = (n, K, R, I', L) ∧ post I')) 0 0 (Ab bs) := by
  refine m_met (by decide) (Nat.le_of_ble_eq_true rfl) (fun p e s m below meth c ls E hr hlk hM hS hl => ?_)
  have E : Ev p s m _ c cX10_insert 4 RX10 D cA Z bs := E
  have hl : lv_has ls 4 [(0, .ref (ad bs o)), (1, .ref (ad bs a1)), (2, .int a2)] := hl
  have hx := E.1.1
  have hb := E.1.2.1
  generalize hHe : s.heap = H at hM ⊢
  have hS : va_S (Ab bs) s.heap H [] := by rw [← hHe]; exact va_S.rf
  clear hHe
  refine lv_aload_n hx hb dX10_insert_0 rfl (lv_at hl 0 rfl) ?_
  refine m_geti E hM fs_X10_84 ho.1 dX10_insert_1 ?_
  refine lv_topi (fun x1 ex1 => ?_)
  have hw := hw x1 ex1
  refine lv_istore_n (lv' := [(3, .int x1), (0, .ref (ad bs o)), (1, .ref (ad bs a1)), (2, .int a2)]) hx hb dX10_insert_4 rfl hl (by decide) rfl (fun ls hl => ?_)
  exact s_X10_insert_5 E hr hlk ho ha1 (fun I v3 H locs ls  hw hM hS hl => s_X10_insert_51 E hr hlk ho ha1  hw hM hS hl)  hw hM hS (lv_sub hl [1, 2, 3, 0] rfl)
theorem dX10_follow_0 : decode cX10_follow 0 = .ok (.aload_n 0, 1) := by decide +kernel
theorem dX10_follow_1 : decode cX10_follow 1 = .ok (.aload_n 1, 1) := by decide +kernel
theorem dX10_follow_2 : decode cX10_follow 2 = .ok (.getfield 79, 3) := by decide +kernel
theorem dX10_follow_5 : decode cX10_follow 5 = .ok (.iload_n 3, 1) := by decide +kernel
theorem dX10_follow_6 : decode cX10_follow 6 = .ok (.iaload, 1) := by decide +kernel
theorem dX10_follow_7 : decode cX10_follow 7 = .ok (.putfield 82, 3) := by decide +kernel
theorem dX10_follow_10 : decode cX10_follow 10 = .ok (.aload_n 0, 1) := by decide +kernel
theorem dX10_follow_11 : decode cX10_follow 11 = .ok (.iconst 0, 1) := by decide +kernel
theorem dX10_follow_12 : decode cX10_follow 12 = .ok (.putfield 84, 3) := by decide +kernel
theorem dX10_follow_15 : decode cX10_follow 15 = .ok (.iconst 0, 1) := by decide +kernel
theorem dX10_follow_16 : decode cX10_follow 16 = .ok (.istore 4, 2) := by decide +kernel
theorem dX10_follow_18 : decode cX10_follow 18 = .ok (.iload 4, 2) := by decide +kernel
theorem dX10_follow_20 : decode cX10_follow 20 = .ok (.aload_n 2, 1) := by decide +kernel
theorem dX10_follow_21 : decode cX10_follow 21 = .ok (.getfield 25, 3) := by decide +kernel
theorem dX10_follow_24 : decode cX10_follow 24 = .ok (.if_icmp .ge 38, 3) := by decide +kernel
theorem dX10_follow_27 : decode cX10_follow 27 = .ok (.aload_n 1, 1) := by decide +kernel
theorem dX10_follow_28 : decode cX10_follow 28 = .ok (.iload_n 3, 1) := by decide +kernel
theorem dX10_follow_29 : decode cX10_follow 29 = .ok (.aload_n 2, 1) := by decide +kernel
theorem dX10_follow_30 : decode cX10_follow 30 = .ok (.getfield 51, 3) := by decide +kernel
theorem dX10_follow_33 : decode cX10_follow 33 = .ok (.iload 4, 2) := by decide +kernel
theorem dX10_follow_35 : decode cX10_follow 35 = .ok (.iaload, 1) := by decide +kernel
theorem dX10_follow_36 : decode cX10_follow 36 = .ok (.invokevirtual 54, 3) := by decide +kernel
theorem dX10_follow_39 : decode cX10_follow 39 = .ok (.aload_n 2, 1) := by decide +kernel
theorem dX10_follow_40 : decode cX10_follow 40 = .ok (.getfield 58, 3) := by decide +kernel
theorem dX10_follow_43 : decode cX10_follow 43 = .ok (.iload 4, 2) := by decide +kernel
theorem dX10_follow_45 : decode cX10_follow 45 = .ok (.iaload, 1) := by decide +kernel
theorem dX10_follow_46 : decode cX10_follow 46 = .ok (.if_icmp .ne 10, 3) := by decide +kernel
theorem dX10_follow_49 : decode cX10_follow 49 = .ok (.aload_n 0, 1) := by decide +kernel
theorem dX10_follow_50 : decode cX10_follow 50 = .ok (.aload_n 2, 1) := by decide +kernel
theorem dX10_follow_51 : decode cX10_follow 51 = .ok (.iload 4, 2) := by decide +kernel
theorem dX10_follow_53 : decode cX10_follow 53 = .ok (.invokevirtual 87, 3) := by decide +kernel
theorem dX10_follow_56 : decode cX10_follow 56 = .ok (.iinc 4 1, 3) := by decide +kernel
theorem dX10_follow_59 : decode cX10_follow 59 = .ok (.goto (-41), 3) := by decide +kernel
theorem dX10_follow_62 : decode cX10_follow 62 = .ok (.iconst 0, 1) := by decide +kernel
theorem dX10_follow_63 : decode cX10_follow 63 = .ok (.istore 4, 2) := by decide +kernel
theorem dX10_follow_65 : decode cX10_follow 65 = .ok (.iload 4, 2) := by decide +kernel
theorem dX10_follow_67 : decode cX10_follow 67 = .ok (.aload_n 0, 1) := by decide +kernel
theorem dX10_follow_68 : decode cX10_follow 68 = .ok (.getfield 84, 3) := by decide +kernel
theorem dX10_follow_71 : decode cX10_follow 71 = .ok (.if_icmp .ge 29, 3) := by decide +kernel
theorem dX10_follow_74 : decode cX10_follow 74 = .ok (.aload_n 0, 1) := by decide +kernel
theorem dX10_follow_75 : decode cX10_follow 75 = .ok (.getfield 15, 3) := by decide +kernel
theorem dX10_follow_78 : decode cX10_follow 78 = .ok (.iload 4, 2) := by decide +kernel
theorem dX10_follow_80 : decode cX10_follow 80 = .ok (.aload_n 1, 1) := by decide +kernel
theorem dX10_follow_81 : decode cX10_follow 81 = .ok (.aload_n 2, 1) := by decide +kernel
theorem dX10_follow_82 : decode cX10_follow 82 = .ok (.aload_n 0, 1) := by decide +kernel
theorem dX10_follow_83 : decode cX10_follow 83 = .ok (.getfield 9, 3) := by decide +kernel
theorem dX10_follow_86 : decode cX10_follow 86 = .ok (.iload 4, 2) := by decide +kernel
theorem dX10_follow_88 : decode cX10_follow 88 = .ok (.iaload, 1) := by decide +kernel
theorem dX10_follow_89 : decode cX10_follow 89 = .ok (.iload_n 3, 1) := by decide +kernel
theorem dX10_follow_90 : decode cX10_follow 90 = .ok (.invokestatic 40, 3) := by decide +kernel
theorem dX10_follow_93 : decode cX10_follow 93 = .ok (.iastore, 1) := by decide +kernel
theorem dX10_follow_94 : decode cX10_follow 94 = .ok (.iinc 4 1, 3) := by decide +kernel
theorem dX10_follow_97 : decode cX10_follow 97 = .ok (.goto (-32), 3) := by decide +kernel
theorem dX10_follow_100 : decode cX10_follow 100 = .ok (.return_, 1) := by decide +kernel
def w_X10_follow_18 (o : Nat) (a1 : Nat) (a2 : Nat) (a3 : Int32) (post : mI → Prop) (k65 : mI → Int32 → Prop) (I : mI) (v4 : Int32) : Prop := ∀ ZZ : (mI → Int32 → Prop), (∀ (I : mI) (v4 : Int32), (((I a2 0) ≤ v4 → k65 I 0) ∧ (¬ (I a2 0) ≤ v4 → vp_in v4 10 ∧ w_X3_shoeAt I a1 a3 (I (a2 + 2) v4.toNatClampNeg) (fun r3 => vp_in v4 10 ∧ (¬ r3 = (I (a2 + 3) v4.toNatClampNeg) → ∀ x4, x4 = v4 + 1 → ZZ I x4) ∧ (r3 = (I (a2 + 3) v4.toNatClampNeg) → w_X10_insert I o a2 v4 (fun I5 => ∀ x6, x6 = v4 + 1 → ZZ I5 x6))))) → ZZ I v4) → ZZ I v4
set_option maxRecDepth 100000 in
set_option maxHeartbeats 4000000 in
theorem s_X10_follow_18 {p : Program} {l : Launch} {e : Env} {s : State} {m : MethodId} {args : Array Value} {below : List Frame} {meth : Method} {c : Code} {D : va_G} {cA : Nat → ClassId} {Z : mZ} {bs : Ad} {n : Nat} {K : mK} {R : mR} {L : mL} (E : Ev p s m args c cX10_follow 5 RX10 D cA Z bs) (hr : meth.sig.returnType = none) (hlk : meth.locks = false) {o : Nat} {a1 : Nat} {a2 : Nat} {a3 : Int32} (ho : isX10 K R o) (ha1 : isX3 K R a1) (ha2 : isX6 K R a2) {post : mI → Prop} {k65 : mI → Int32 → Prop} (hk65 : ∀ (I : mI) (v4 : Int32) (H : Heap) (locs : List Loc) (ls : Array Slot), k65 I v4 → mm D cA bs (n, K, R, I, L) H → va_S (Ab bs) s.heap H locs → lv_has ls 5 [(0, .ref (ad bs o)), (1, .ref (ad bs a1)), (2, .ref (ad bs a2)), (3, .int a3), (4, .int v4)] → W p l e ({ frames := 4, cells := 0, slots := 0, locals := 113 } : Room) s m args below meth c H locs 0 0 (MQ below (QV D cA bs (fun u => ∃ I', u = (n, K, R, I', L) ∧ post I')) args s 0 0 (Ab bs)) (F0 m 65 ls [])) {I : mI} {v4 : Int32} {H : Heap} {locs : List Loc} {ls : Array Slot} (hw : w_X10_follow_18 o a1 a2 a3 post k65 I v4) (hM : mm D cA bs (n, K, R, I, L) H) (hS : va_S (Ab bs) s.heap H locs) (hl : lv_has ls 5 [(0, .ref (ad bs o)), (1, .ref (ad bs a1)), (2, .ref (ad bs a2)), (3, .int a3), (4, .int v4)]) : W p l e ({ frames := 4, cells := 0, slots := 0, locals := 113 } : Room) s m args below meth c H locs 0 0 (MQ below (QV D cA bs (fun u => ∃ I', u = (n, K, R, I', L) ∧ post I')) args s 0 0 (Ab bs)) (F0 m 18 ls []) := by
  have hx := E.1.1
  have hb := E.1.2.1
  refine hw (fun I v4 => ∀ (H : Heap) (locs : List Loc) (ls : Array Slot), mm D cA bs (n, K, R, I, L) H → va_S (Ab bs) s.heap H locs → lv_has ls 5 [(0, .ref (ad bs o)), (1, .ref (ad bs a1)), (2, .ref (ad bs a2)), (3, .int a3), (4, .int v4)] → W p l e ({ frames := 4, cells := 0, slots := 0, locals := 113 } : Room) s m args below meth c H locs 0 0 (MQ below (QV D cA bs (fun u => ∃ I', u = (n, K, R, I', L) ∧ post I')) args s 0 0 (Ab bs)) (F0 m 18 ls [])) ?_ H locs ls hM hS hl
  clear hw hM hS hl
  intro I v4 hw H locs ls hM hS hl
  refine lv_iload hx hb dX10_follow_18 (lv_at hl 4 rfl) ?_
  refine lv_aload_n hx hb dX10_follow_20 rfl (lv_at hl 2 rfl) ?_
  refine m_geti E hM fs_X10_25 ha2.1 dX10_follow_21 ?_
  refine lv_icmp_ge (tgt := 62) hx hb dX10_follow_24 (by decide) (fun cq => ?_) (fun cq => ?_)
  · have hw := hw.1 cq
    refine lv_iconst (v := 0) hx hb dX10_follow_62 (by decide) ?_
    refine lv_istore (lv' := [(4, .int 0), (0, .ref (ad bs o)), (1, .ref (ad bs a1)), (2, .ref (ad bs a2)), (3, .int a3)]) hx hb dX10_follow_63 hl (by decide) rfl (fun ls hl => ?_)
    exact hk65 _ _ H locs ls  hw hM hS (lv_sub hl [1, 2, 3, 4, 0] rfl)
  · have hw := hw.2 cq
    refine lv_aload_n hx hb dX10_follow_27 rfl (lv_at hl 1 rfl) ?_
    refine lv_iload_n hx hb dX10_follow_28 rfl (lv_at hl 3 rfl) ?_
    refine lv_aload_n hx hb dX10_follow_29 rfl (lv_at hl 2 rfl) ?_
    refine m_getr E hM fs_X10_51 ha2.1 (isO_at ha2 1 rfl).1 dX10_follow_30 ?_
    refine lv_iload hx hb dX10_follow_33 (lv_at hl 4 rfl) ?_
    obtain ⟨hv, hw⟩ := hw
    refine m_iald E hM (isO_at ha2 1 rfl).2 hv dX10_follow_35 ?_
    refine m_ci (m_runV E hM hS cs_X10_54 ha1.1 (by decide) rfl rfl (c_X3_shoeAt ha1 hw) rfl rfl ⟨Nat.le_of_ble_eq_true rfl, Nat.le_of_ble_eq_true rfl⟩ rfl hl.1 rfl (Nat.le_of_ble_eq_true rfl) dX10_follow_36 ⟨Nat.le_of_ble_eq_true rfl, Nat.le_of_ble_eq_true rfl⟩) hS (fun r3 u H locs hp hM hS => ?_)
    obtain ⟨rfl, hw⟩ := hp
    refine lv_aload_n hx hb dX10_follow_39 rfl (lv_at hl 2 rfl) ?_
    refine m_getr E hM fs_X10_58 ha2.1 (isO_at ha2 2 rfl).1 dX10_follow_40 ?_
    refine lv_iload hx hb dX10_follow_43 (lv_at hl 4 rfl) ?_
    obtain ⟨hv, hw⟩ := hw
    refine m_iald E hM (isO_at ha2 2 rfl).2 hv dX10_follow_45 ?_
    refine lv_icmp_ne (tgt := 56) hx hb dX10_follow_46 (by decide) (fun cq => ?_) (fun cq => ?_)
    · have hw := hw.1 cq
      obtain ⟨x4, ex4⟩ : ∃ y : Int32, y = v4 + 1 := ⟨_, rfl⟩
      have hw := hw x4 ex4
      refine lv_iinc (v := x4) (lv' := [(4, .int x4), (0, .ref (ad bs o)), (1, .ref (ad bs a1)), (2, .ref (ad bs a2)), (3, .int a3)]) hx hb dX10_follow_56 hl (k := 4) rfl (by rw [ex4]; rfl) (by decide) rfl (fun ls hl => ?_)
      refine lv_goto (tgt := 18) hx hb dX10_follow_59 (by decide) ?_
      exact hw H locs ls  hM hS (lv_sub hl [1, 2, 3, 4, 0] rfl)
    · have hw := hw.2 cq
      refine lv_aload_n hx hb dX10_follow_49 rfl (lv_at hl 0 rfl) ?_
      refine lv_aload_n hx hb dX10_follow_50 rfl (lv_at hl 2 rfl) ?_
      refine lv_iload hx hb dX10_follow_51 (lv_at hl 4 rfl) ?_
      refine m_cv (m_runV E hM hS cs_X10_87 ho.1 (by decide) rfl rfl (c_X10_insert ho ha2 hw) rfl rfl ⟨Nat.le_of_ble_eq_true rfl, Nat.le_of_ble_eq_true rfl⟩ rfl hl.1 rfl (Nat.le_of_ble_eq_true rfl) dX10_follow_53 ⟨Nat.le_of_ble_eq_true rfl, Nat.le_of_ble_eq_true rfl⟩) hS (fun u H locs hp hM hS => ?_)
      obtain ⟨I5, rfl, hw⟩ := hp
      obtain ⟨x6, ex6⟩ : ∃ y : Int32, y = v4 + 1 := ⟨_, rfl⟩
      have hw := hw x6 ex6
      refine lv_iinc (v := x6) (lv' := [(4, .int x6), (0, .ref (ad bs o)), (1, .ref (ad bs a1)), (2, .ref (ad bs a2)), (3, .int a3)]) hx hb dX10_follow_56 hl (k := 4) rfl (by rw [ex6]; rfl) (by decide) rfl (fun ls hl => ?_)
      refine lv_goto (tgt := 18) hx hb dX10_follow_59 (by decide) ?_
      exact hw H locs ls  hM hS (lv_sub hl [1, 2, 3, 4, 0] rfl)
def w_X10_follow_65 (o : Nat) (a1 : Nat) (a2 : Nat) (a3 : Int32) (post : mI → Prop) (I : mI) (v4 : Int32) : Prop := ∀ ZZ : (mI → Int32 → Prop), (∀ (I : mI) (v4 : Int32), (((I o 1) ≤ v4 → post I) ∧ (¬ (I o 1) ≤ v4 → vp_in v4 10 ∧ w_X10_stepsOf I a1 a2 (I (o + 1) v4.toNatClampNeg) a3 (fun r7 => vp_in v4 10 ∧ ∀ I8, I8 = up2 I (o + 2) v4.toNatClampNeg r7 → ∀ x9, x9 = v4 + 1 → ZZ I8 x9))) → ZZ I v4) → ZZ I v4
set_option maxRecDepth 100000 in
set_option maxHeartbeats 4000000 in
theorem s_X10_follow_65 {p : Program} {l : Launch} {e : Env} {s : State} {m : MethodId} {args : Array Value} {below : List Frame} {meth : Method} {c : Code} {D : va_G} {cA : Nat → ClassId} {Z : mZ} {bs : Ad} {n : Nat} {K : mK} {R : mR} {L : mL} (E : Ev p s m args c cX10_follow 5 RX10 D cA Z bs) (hr : meth.sig.returnType = none) (hlk : meth.locks = false) {o : Nat} {a1 : Nat} {a2 : Nat} {a3 : Int32} (ho : isX10 K R o) (ha1 : isX3 K R a1) (ha2 : isX6 K R a2) {post : mI → Prop} {I : mI} {v4 : Int32} {H : Heap} {locs : List Loc} {ls : Array Slot} (hw : w_X10_follow_65 o a1 a2 a3 post I v4) (hM : mm D cA bs (n, K, R, I, L) H) (hS : va_S (Ab bs) s.heap H locs) (hl : lv_has ls 5 [(0, .ref (ad bs o)), (1, .ref (ad bs a1)), (2, .ref (ad bs a2)), (3, .int a3), (4, .int v4)]) : W p l e ({ frames := 4, cells := 0, slots := 0, locals := 113 } : Room) s m args below meth c H locs 0 0 (MQ below (QV D cA bs (fun u => ∃ I', u = (n, K, R, I', L) ∧ post I')) args s 0 0 (Ab bs)) (F0 m 65 ls []) := by
  have hx := E.1.1
  have hb := E.1.2.1
  refine hw (fun I v4 => ∀ (H : Heap) (locs : List Loc) (ls : Array Slot), mm D cA bs (n, K, R, I, L) H → va_S (Ab bs) s.heap H locs → lv_has ls 5 [(0, .ref (ad bs o)), (1, .ref (ad bs a1)), (2, .ref (ad bs a2)), (3, .int a3), (4, .int v4)] → W p l e ({ frames := 4, cells := 0, slots := 0, locals := 113 } : Room) s m args below meth c H locs 0 0 (MQ below (QV D cA bs (fun u => ∃ I', u = (n, K, R, I', L) ∧ post I')) args s 0 0 (Ab bs)) (F0 m 65 ls [])) ?_ H locs ls hM hS hl
  clear hw hM hS hl
  intro I v4 hw H locs ls hM hS hl
  refine lv_iload hx hb dX10_follow_65 (lv_at hl 4 rfl) ?_
  refine lv_aload_n hx hb dX10_follow_67 rfl (lv_at hl 0 rfl) ?_
  refine m_geti E hM fs_X10_84 ho.1 dX10_follow_68 ?_
  refine lv_icmp_ge (tgt := 100) hx hb dX10_follow_71 (by decide) (fun cq => ?_) (fun cq => ?_)
  · have hw := hw.1 cq
    exact m_retv hx hb hr hlk hM hS ⟨_, rfl, hw⟩ dX10_follow_100
  · have hw := hw.2 cq
    refine lv_aload_n hx hb dX10_follow_74 rfl (lv_at hl 0 rfl) ?_
    refine m_getr E hM fs_X10_15 ho.1 (isO_at ho 1 rfl).1 dX10_follow_75 ?_
    refine lv_iload hx hb dX10_follow_78 (lv_at hl 4 rfl) ?_
    refine lv_aload_n hx hb dX10_follow_80 rfl (lv_at hl 1 rfl) ?_
    refine lv_aload_n hx hb dX10_follow_81 rfl (lv_at hl 2 rfl) ?_
    refine lv_aload_n hx hb dX10_follow_82 rfl (lv_at hl 0 rfl) ?_
    refine m_getr E hM fs_X10_9 ho.1 (isO_at ho 0 rfl).1 dX10_follow_83 ?_
    refine lv_iload hx hb dX10_follow_86 (lv_at hl 4 rfl) ?_
    obtain ⟨hv, hw⟩ := hw
    refine m_iald E hM (isO_at ho 0 rfl).2 hv dX10_follow_88 ?_
    refine lv_iload_n hx hb dX10_follow_89 rfl (lv_at hl 3 rfl) ?_
    refine m_ci (m_runS E hM hS cs_X10_40 (c_X10_stepsOf ha1 ha2 hw) rfl rfl ⟨Nat.le_of_ble_eq_true rfl, Nat.le_of_ble_eq_true rfl⟩ rfl hl.1 rfl (Nat.le_of_ble_eq_true rfl) dX10_follow_90 ⟨Nat.le_of_ble_eq_true rfl, Nat.le_of_ble_eq_true rfl⟩) hS (fun r7 u H locs hp hM hS => ?_)
    obtain ⟨rfl, hw⟩ := hp
    obtain ⟨hv, hw⟩ := hw
    refine m_iast E hM hS (isO_at ho 1 rfl).2 hv dX10_follow_93 (fun I8 H locs eI8 hM hS => ?_)
    have hw := hw I8 eI8
    obtain ⟨x9, ex9⟩ : ∃ y : Int32, y = v4 + 1 := ⟨_, rfl⟩
    have hw := hw x9 ex9
    refine lv_iinc (v := x9) (lv' := [(4, .int x9), (0, .ref (ad bs o)), (1, .ref (ad bs a1)), (2, .ref (ad bs a2)), (3, .int a3)]) hx hb dX10_follow_94 hl (k := 4) rfl (by rw [ex9]; rfl) (by decide) rfl (fun ls hl => ?_)
    refine lv_goto (tgt := 65) hx hb dX10_follow_97 (by decide) ?_
    exact hw H locs ls  hM hS (lv_sub hl [1, 2, 3, 4, 0] rfl)
def w_X10_follow (I : mI) (o : Nat) (a1 : Nat) (a2 : Nat) (a3 : Int32) (post : mI → Prop) : Prop := vp_in a3 6 ∧ ∀ I1, I1 = up2 I o 0 (I (a1 + 6) a3.toNatClampNeg) → ∀ I2, I2 = up2 I1 o 1 0 → (w_X10_follow_18 o a1 a2 a3 post (w_X10_follow_65 o a1 a2 a3 post)) I2 0
set_option maxRecDepth 100000 in
set_option maxHeartbeats 4000000 in
theorem c_X10_follow {l : Launch} {D : va_G} {cA : Nat → ClassId} {Z : mZ} {bs : Ad} {n : Nat} {K : mK} {R : mR} {I : mI} {L : mL} {o : Nat} {a1 : Nat} {a2 : Nat} {a3 : Int32} {post : mI → Prop} (ho : isX10 K R o) (ha1 : isX3 K R a1) (ha2 : isX6 K R a2) (hw : w_X10_follow I o a1 a2 a3 post) : Met l yX10_follow (.code yX10_follow cX10_follow 5 none :: gw) ({ frames := 4, cells := 0, slots := 0, locals := 113 } : Room) (PreM D cA Z bs (n, K, R, I, L) [.ref (ad bs o), .ref (ad bs a1), .ref (ad bs a2), .int a3]) (QV D cA bs (fun u => ∃ I', u = (n, K, R, I', L) ∧ post I')) 0 0 (Ab bs) := by
  refine m_met (by decide) (Nat.le_of_ble_eq_true rfl) (fun p e s m below meth c ls E hr hlk hM hS hl => ?_)
  have E : Ev p s m _ c cX10_follow 5 RX10 D cA Z bs := E
  have hl : lv_has ls 5 [(0, .ref (ad bs o)), (1, .ref (ad bs a1)), (2, .ref (ad bs a2)), (3, .int a3)] := hl
  have hx := E.1.1
  have hb := E.1.2.1
  generalize hHe : s.heap = H at hM ⊢
  have hS : va_S (Ab bs) s.heap H [] := by rw [← hHe]; exact va_S.rf
  clear hHe
  refine lv_aload_n hx hb dX10_follow_0 rfl (lv_at hl 0 rfl) ?_
  refine lv_aload_n hx hb dX10_follow_1 rfl (lv_at hl 1 rfl) ?_
  refine m_getr E hM fs_X10_79 ha1.1 (isO_at ha1 5 rfl).1 dX10_follow_2 ?_
  refine lv_iload_n hx hb dX10_follow_5 rfl (lv_at hl 3 rfl) ?_
  obtain ⟨hv, hw⟩ := hw
  refine m_iald E hM (isO_at ha1 5 rfl).2 hv dX10_follow_6 ?_
  refine m_puti E hM hS fp_X10_82 ho.1 rfl rfl dX10_follow_7 (fun I1 H locs eI1 hM hS => ?_)
  have hw := hw I1 eI1
  refine lv_aload_n hx hb dX10_follow_10 rfl (lv_at hl 0 rfl) ?_
  refine lv_iconst (v := 0) hx hb dX10_follow_11 (by decide) ?_
  refine m_puti E hM hS fp_X10_84 ho.1 rfl rfl dX10_follow_12 (fun I2 H locs eI2 hM hS => ?_)
  have hw := hw I2 eI2
  refine lv_iconst (v := 0) hx hb dX10_follow_15 (by decide) ?_
  refine lv_istore (lv' := [(4, .int 0), (0, .ref (ad bs o)), (1, .ref (ad bs a1)), (2, .ref (ad bs a2)), (3, .int a3)]) hx hb dX10_follow_16 hl (by decide) rfl (fun ls hl => ?_)
  exact s_X10_follow_18 E hr hlk ho ha1 ha2 (fun I v4 H locs ls  hw hM hS hl => s_X10_follow_65 E hr hlk ho ha1 ha2  hw hM hS hl)  hw hM hS (lv_sub hl [1, 2, 3, 4, 0] rfl)
theorem dX10_reachTo_0 : decode cX10_reachTo 0 = .ok (.aload_n 0, 1) := by decide +kernel
theorem dX10_reachTo_1 : decode cX10_reachTo 1 = .ok (.getfield 82, 3) := by decide +kernel
theorem dX10_reachTo_4 : decode cX10_reachTo 4 = .ok (.aload_n 1, 1) := by decide +kernel
theorem dX10_reachTo_5 : decode cX10_reachTo 5 = .ok (.getfield 51, 3) := by decide +kernel
theorem dX10_reachTo_8 : decode cX10_reachTo 8 = .ok (.aload_n 0, 1) := by decide +kernel
theorem dX10_reachTo_9 : decode cX10_reachTo 9 = .ok (.getfield 9, 3) := by decide +kernel
theorem dX10_reachTo_12 : decode cX10_reachTo 12 = .ok (.iload_n 2, 1) := by decide +kernel
theorem dX10_reachTo_13 : decode cX10_reachTo 13 = .ok (.iaload, 1) := by decide +kernel
theorem dX10_reachTo_14 : decode cX10_reachTo 14 = .ok (.iaload, 1) := by decide +kernel
theorem dX10_reachTo_15 : decode cX10_reachTo 15 = .ok (.aload_n 1, 1) := by decide +kernel
theorem dX10_reachTo_16 : decode cX10_reachTo 16 = .ok (.getfield 51, 3) := by decide +kernel
theorem dX10_reachTo_19 : decode cX10_reachTo 19 = .ok (.aload_n 0, 1) := by decide +kernel
theorem dX10_reachTo_20 : decode cX10_reachTo 20 = .ok (.getfield 9, 3) := by decide +kernel
theorem dX10_reachTo_23 : decode cX10_reachTo 23 = .ok (.iload_n 2, 1) := by decide +kernel
theorem dX10_reachTo_24 : decode cX10_reachTo 24 = .ok (.iconst 1, 1) := by decide +kernel
theorem dX10_reachTo_25 : decode cX10_reachTo 25 = .ok (.isub, 1) := by decide +kernel
theorem dX10_reachTo_26 : decode cX10_reachTo 26 = .ok (.iaload, 1) := by decide +kernel
theorem dX10_reachTo_27 : decode cX10_reachTo 27 = .ok (.iaload, 1) := by decide +kernel
theorem dX10_reachTo_28 : decode cX10_reachTo 28 = .ok (.isub, 1) := by decide +kernel
theorem dX10_reachTo_29 : decode cX10_reachTo 29 = .ok (.imul, 1) := by decide +kernel
theorem dX10_reachTo_30 : decode cX10_reachTo 30 = .ok (.ireturn, 1) := by decide +kernel
def w_X10_reachTo (I : mI) (o : Nat) (a1 : Nat) (a2 : Int32) (post : Int32 → Prop) : Prop := vp_in a2 10 ∧ vp_in (I (o + 1) a2.toNatClampNeg) 10 ∧ vp_in (a2 - 1) 10 ∧ vp_in (I (o + 1) (a2 - 1).toNatClampNeg) 10 ∧ post ((I o 0) * ((I (a1 + 2) (I (o + 1) a2.toNatClampNeg).toNatClampNeg) - (I (a1 + 2) (I (o + 1) (a2 - 1).toNatClampNeg).toNatClampNeg)))
set_option maxRecDepth 100000 in
set_option maxHeartbeats 4000000 in
theorem c_X10_reachTo {l : Launch} {D : va_G} {cA : Nat → ClassId} {Z : mZ} {bs : Ad} {n : Nat} {K : mK} {R : mR} {I : mI} {L : mL} {o : Nat} {a1 : Nat} {a2 : Int32} {post : Int32 → Prop} (ho : isX10 K R o) (ha1 : isX6 K R a1) (hw : w_X10_reachTo I o a1 a2 post) : Met l yX10_reachTo (.code yX10_reachTo cX10_reachTo 3 (some .int) :: gw) ({ frames := 0, cells := 0, slots := 0, locals := 0 } : Room) (PreM D cA Z bs (n, K, R, I, L) [.ref (ad bs o), .ref (ad bs a1), .int a2]) (QI D cA bs (fun r u => u = (n, K, R, I, L) ∧ post r)) 0 0 (Ab bs) := by
  refine m_met (by decide) (Nat.le_of_ble_eq_true rfl) (fun p e s m below meth c ls E hr hlk hM hS hl => ?_)
  have E : Ev p s m _ c cX10_reachTo 3 RX10 D cA Z bs := E
  have hl : lv_has ls 3 [(0, .ref (ad bs o)), (1, .ref (ad bs a1)), (2, .int a2)] := hl
  have hx := E.1.1
  have hb := E.1.2.1
  generalize hHe : s.heap = H at hM ⊢
  have hS : va_S (Ab bs) s.heap H [] := by rw [← hHe]; exact va_S.rf
  clear hHe
  refine lv_aload_n hx hb dX10_reachTo_0 rfl (lv_at hl 0 rfl) ?_
  refine m_geti E hM fs_X10_82 ho.1 dX10_reachTo_1 ?_
  refine lv_aload_n hx hb dX10_reachTo_4 rfl (lv_at hl 1 rfl) ?_
  refine m_getr E hM fs_X10_51 ha1.1 (isO_at ha1 1 rfl).1 dX10_reachTo_5 ?_
  refine lv_aload_n hx hb dX10_reachTo_8 rfl (lv_at hl 0 rfl) ?_
  refine m_getr E hM fs_X10_9 ho.1 (isO_at ho 0 rfl).1 dX10_reachTo_9 ?_
  refine lv_iload_n hx hb dX10_reachTo_12 rfl (lv_at hl 2 rfl) ?_
  obtain ⟨hv, hw⟩ := hw
  refine m_iald E hM (isO_at ho 0 rfl).2 hv dX10_reachTo_13 ?_
  obtain ⟨hv, hw⟩ := hw
  refine m_iald E hM (isO_at ha1 1 rfl).2 hv dX10_reachTo_14 ?_
  refine lv_aload_n hx hb dX10_reachTo_15 rfl (lv_at hl 1 rfl) ?_
  refine m_getr E hM fs_X10_51 ha1.1 (isO_at ha1 1 rfl).1 dX10_reachTo_16 ?_
  refine lv_aload_n hx hb dX10_reachTo_19 rfl (lv_at hl 0 rfl) ?_
  refine m_getr E hM fs_X10_9 ho.1 (isO_at ho 0 rfl).1 dX10_reachTo_20 ?_
  refine lv_iload_n hx hb dX10_reachTo_23 rfl (lv_at hl 2 rfl) ?_
  refine lv_iconst (v := 1) hx hb dX10_reachTo_24 (by decide) ?_
  refine lv_isub hx hb dX10_reachTo_25 ?_
  obtain ⟨hv, hw⟩ := hw
  refine m_iald E hM (isO_at ho 0 rfl).2 hv dX10_reachTo_26 ?_
  obtain ⟨hv, hw⟩ := hw
  refine m_iald E hM (isO_at ha1 1 rfl).2 hv dX10_reachTo_27 ?_
  refine lv_isub hx hb dX10_reachTo_28 ?_
  refine lv_imul hx hb dX10_reachTo_29 ?_
  exact m_reti hx hb hr hlk hM hS ⟨rfl, hw⟩ dX10_reachTo_30
theorem dX10_waysWithin_0 : decode cX10_waysWithin 0 = .ok (.lconst 0, 1) := by decide +kernel
theorem dX10_waysWithin_1 : decode cX10_waysWithin 1 = .ok (.lstore 4, 2) := by decide +kernel
theorem dX10_waysWithin_3 : decode cX10_waysWithin 3 = .ok (.aload_n 1, 1) := by decide +kernel
theorem dX10_waysWithin_4 : decode cX10_waysWithin 4 = .ok (.getfield 61, 3) := by decide +kernel
theorem dX10_waysWithin_7 : decode cX10_waysWithin 7 = .ok (.iconst 1, 1) := by decide +kernel
theorem dX10_waysWithin_8 : decode cX10_waysWithin 8 = .ok (.isub, 1) := by decide +kernel
theorem dX10_waysWithin_9 : decode cX10_waysWithin 9 = .ok (.iload_n 2, 1) := by decide +kernel
theorem dX10_waysWithin_10 : decode cX10_waysWithin 10 = .ok (.iload_n 3, 1) := by decide +kernel
theorem dX10_waysWithin_11 : decode cX10_waysWithin 11 = .ok (.iadd, 1) := by decide +kernel
theorem dX10_waysWithin_12 : decode cX10_waysWithin 12 = .ok (.invokestatic 103, 3) := by decide +kernel
theorem dX10_waysWithin_15 : decode cX10_waysWithin 15 = .ok (.istore 6, 2) := by decide +kernel
theorem dX10_waysWithin_17 : decode cX10_waysWithin 17 = .ok (.iconst 0, 1) := by decide +kernel
theorem dX10_waysWithin_18 : decode cX10_waysWithin 18 = .ok (.iload_n 2, 1) := by decide +kernel
theorem dX10_waysWithin_19 : decode cX10_waysWithin 19 = .ok (.iload_n 3, 1) := by decide +kernel
theorem dX10_waysWithin_20 : decode cX10_waysWithin 20 = .ok (.isub, 1) := by decide +kernel
theorem dX10_waysWithin_21 : decode cX10_waysWithin 21 = .ok (.invokestatic 108, 3) := by decide +kernel
theorem dX10_waysWithin_24 : decode cX10_waysWithin 24 = .ok (.istore 7, 2) := by decide +kernel
theorem dX10_waysWithin_26 : decode cX10_waysWithin 26 = .ok (.iload 7, 2) := by decide +kernel
theorem dX10_waysWithin_28 : decode cX10_waysWithin 28 = .ok (.iload 6, 2) := by decide +kernel
theorem dX10_waysWithin_30 : decode cX10_waysWithin 30 = .ok (.if_icmp .gt 21, 3) := by decide +kernel
theorem dX10_waysWithin_33 : decode cX10_waysWithin 33 = .ok (.lload 4, 2) := by decide +kernel
theorem dX10_waysWithin_35 : decode cX10_waysWithin 35 = .ok (.aload_n 0, 1) := by decide +kernel
theorem dX10_waysWithin_36 : decode cX10_waysWithin 36 = .ok (.getfield 18, 3) := by decide +kernel
theorem dX10_waysWithin_39 : decode cX10_waysWithin 39 = .ok (.iload 7, 2) := by decide +kernel
theorem dX10_waysWithin_41 : decode cX10_waysWithin 41 = .ok (.laload, 1) := by decide +kernel
theorem dX10_waysWithin_42 : decode cX10_waysWithin 42 = .ok (.ladd, 1) := by decide +kernel
theorem dX10_waysWithin_43 : decode cX10_waysWithin 43 = .ok (.lstore 4, 2) := by decide +kernel
theorem dX10_waysWithin_45 : decode cX10_waysWithin 45 = .ok (.iinc 7 1, 3) := by decide +kernel
theorem dX10_waysWithin_48 : decode cX10_waysWithin 48 = .ok (.goto (-22), 3) := by decide +kernel
theorem dX10_waysWithin_51 : decode cX10_waysWithin 51 = .ok (.lload 4, 2) := by decide +kernel
theorem dX10_waysWithin_53 : decode cX10_waysWithin 53 = .ok (.lreturn, 1) := by decide +kernel
def w_X10_waysWithin_26 (K : mK) (R : mR) (I : mI) (L : mL) (o : Nat) (a1 : Nat) (a2 : Int32) (a3 : Int32) (post : Int64 → Prop) (v4 : Int64) (v6 : Int32) (v7 : Int32) : Prop := ∀ ZZ : (Int64 → Int32 → Int32 → Prop), (∀ (v4 : Int64) (v6 : Int32) (v7 : Int32), ((v6 < v7 → post v4) ∧ (¬ v6 < v7 → ∃ w4, R o 4 = some w4 ∧ K w4 = (15, 24) ∧ vp_in v7 24 ∧ ∀ x5, x5 = (v4 + (L w4 v7.toNatClampNeg)) → ∀ x6, x6 = v7 + 1 → ZZ x5 v6 x6)) → ZZ v4 v6 v7) → ZZ v4 v6 v7
set_option maxRecDepth 100000 in
set_option maxHeartbeats 4000000 in
theorem s_X10_waysWithin_26 {p : Program} {l : Launch} {e : Env} {s : State} {m : MethodId} {args : Array Value} {below : List Frame} {meth : Method} {c : Code} {D : va_G} {cA : Nat → ClassId} {Z : mZ} {bs : Ad} {n : Nat} {K : mK} {R : mR} {I : mI} {L : mL} (E : Ev p s m args c cX10_waysWithin 8 RX10 D cA Z bs) (hr : meth.sig.returnType = (some .long)) (hlk : meth.locks = false) {o : Nat} {a1 : Nat} {a2 : Int32} {a3 : Int32} (ho : isX10 K R o) (ha1 : isX3 K R a1) {post : Int64 → Prop} {v4 : Int64} {v6 : Int32} {v7 : Int32} {H : Heap} {locs : List Loc} {ls : Array Slot} (hw : w_X10_waysWithin_26 K R I L o a1 a2 a3 post v4 v6 v7) (hM : mm D cA bs (n, K, R, I, L) H) (hS : va_S (Ab bs) s.heap H locs) (hl : lv_has ls 8 [(0, .ref (ad bs o)), (4, .long v4), (6, .int v6), (7, .int v7)]) : W p l e ({ frames := 1, cells := 0, slots := 0, locals := 40 } : Room) s m args below meth c H locs 0 0 (MQ below (QL D cA bs (fun r u => u = (n, K, R, I, L) ∧ post r)) args s 0 0 (Ab bs)) (F0 m 26 ls []) := by
  have hx := E.1.1
  have hb := E.1.2.1
  refine hw (fun v4 v6 v7 => ∀ (H : Heap) (locs : List Loc) (ls : Array Slot), mm D cA bs (n, K, R, I, L) H → va_S (Ab bs) s.heap H locs → lv_has ls 8 [(0, .ref (ad bs o)), (4, .long v4), (6, .int v6), (7, .int v7)] → W p l e ({ frames := 1, cells := 0, slots := 0, locals := 40 } : Room) s m args below meth c H locs 0 0 (MQ below (QL D cA bs (fun r u => u = (n, K, R, I, L) ∧ post r)) args s 0 0 (Ab bs)) (F0 m 26 ls [])) ?_ H locs ls hM hS hl
  clear hw hM hS hl
  intro v4 v6 v7 hw H locs ls hM hS hl
  refine lv_iload hx hb dX10_waysWithin_26 (lv_at hl 3 rfl) ?_
  refine lv_iload hx hb dX10_waysWithin_28 (lv_at hl 2 rfl) ?_
  refine lv_icmp_gt (tgt := 51) hx hb dX10_waysWithin_30 (by decide) (fun cq => ?_) (fun cq => ?_)
  · have hw := hw.1 cq
    refine lv_lload hx hb dX10_waysWithin_51 (lv_at hl 1 rfl) ?_
    exact m_retl hx hb hr hlk hM hS ⟨rfl, hw⟩ dX10_waysWithin_53
  · have hw := hw.2 cq
    refine lv_lload hx hb dX10_waysWithin_33 (lv_at hl 1 rfl) ?_
    refine lv_aload_n hx hb dX10_waysWithin_35 rfl (lv_at hl 0 rfl) ?_
    obtain ⟨w4, hRw4, hKw4, hw⟩ := hw
    refine m_getr E hM fs_X10_18 ho.1 hRw4 dX10_waysWithin_36 ?_
    refine lv_iload hx hb dX10_waysWithin_39 (lv_at hl 3 rfl) ?_
    obtain ⟨hv, hw⟩ := hw
    refine m_lald E hM hKw4 hv dX10_waysWithin_41 ?_
    refine lv_ladd hx hb dX10_waysWithin_42 ?_
    refine lv_topl (fun x5 ex5 => ?_)
    have hw := hw x5 ex5
    refine lv_lstore (lv' := [(4, .long x5), (0, .ref (ad bs o)), (6, .int v6), (7, .int v7)]) hx hb dX10_waysWithin_43 hl (by decide) rfl (fun ls hl => ?_)
    obtain ⟨x6, ex6⟩ : ∃ y : Int32, y = v7 + 1 := ⟨_, rfl⟩
    have hw := hw x6 ex6
    refine lv_iinc (v := x6) (lv' := [(7, .int x6), (4, .long x5), (0, .ref (ad bs o)), (6, .int v6)]) hx hb dX10_waysWithin_45 hl (k := 3) rfl (by rw [ex6]; rfl) (by decide) rfl (fun ls hl => ?_)
    refine lv_goto (tgt := 26) hx hb dX10_waysWithin_48 (by decide) ?_
    exact hw H locs ls  hM hS (lv_sub hl [2, 1, 3, 0] rfl)
def w_X10_waysWithin (K : mK) (R : mR) (I : mI) (L : mL) (o : Nat) (a1 : Nat) (a2 : Int32) (a3 : Int32) (post : Int64 → Prop) : Prop := ∀ x1, x1 = (0 : Int64) → ∀ x2, x2 = (imin ((I a1 0) - 1) (a2 + a3)) → ∀ x3, x3 = (imax 0 (a2 - a3)) → (w_X10_waysWithin_26 K R I L o a1 a2 a3 post) x1 x2 x3
set_option maxRecDepth 100000 in
set_option maxHeartbeats 4000000 in
theorem c_X10_waysWithin {l : Launch} {D : va_G} {cA : Nat → ClassId} {Z : mZ} {bs : Ad} {n : Nat} {K : mK} {R : mR} {I : mI} {L : mL} {o : Nat} {a1 : Nat} {a2 : Int32} {a3 : Int32} {post : Int64 → Prop} (ho : isX10 K R o) (ha1 : isX3 K R a1) (hw : w_X10_waysWithin K R I L o a1 a2 a3 post) : Met l yX10_waysWithin (.code yX10_waysWithin cX10_waysWithin 8 (some .long) :: gw) ({ frames := 1, cells := 0, slots := 0, locals := 40 } : Room) (PreM D cA Z bs (n, K, R, I, L) [.ref (ad bs o), .ref (ad bs a1), .int a2, .int a3]) (QL D cA bs (fun r u => u = (n, K, R, I, L) ∧ post r)) 0 0 (Ab bs) := by
  refine m_met (by decide) (Nat.le_of_ble_eq_true rfl) (fun p e s m below meth c ls E hr hlk hM hS hl => ?_)
  have E : Ev p s m _ c cX10_waysWithin 8 RX10 D cA Z bs := E
  have hl : lv_has ls 8 [(0, .ref (ad bs o)), (1, .ref (ad bs a1)), (2, .int a2), (3, .int a3)] := hl
  have hx := E.1.1
  have hb := E.1.2.1
  generalize hHe : s.heap = H at hM ⊢
  have hS : va_S (Ab bs) s.heap H [] := by rw [← hHe]; exact va_S.rf
  clear hHe
  refine lv_lconst (v := 0) hx hb dX10_waysWithin_0 (by decide) ?_
  refine lv_topl (fun x1 ex1 => ?_)
  have hw := hw x1 ex1
  refine lv_lstore (lv' := [(4, .long x1), (0, .ref (ad bs o)), (1, .ref (ad bs a1)), (2, .int a2), (3, .int a3)]) hx hb dX10_waysWithin_1 hl (by decide) rfl (fun ls hl => ?_)
  refine lv_aload_n hx hb dX10_waysWithin_3 rfl (lv_at hl 2 rfl) ?_
  refine m_geti E hM fs_X10_61 ha1.1 dX10_waysWithin_4 ?_
  refine lv_iconst (v := 1) hx hb dX10_waysWithin_7 (by decide) ?_
  refine lv_isub hx hb dX10_waysWithin_8 ?_
  refine lv_iload_n hx hb dX10_waysWithin_9 rfl (lv_at hl 3 rfl) ?_
  refine lv_iload_n hx hb dX10_waysWithin_10 rfl (lv_at hl 4 rfl) ?_
  refine lv_iadd hx hb dX10_waysWithin_11 ?_
  refine m_min E ml_X10_103 hl.1 (Nat.le_of_ble_eq_true rfl) (Nat.le_of_ble_eq_true rfl) (Nat.le_of_ble_eq_true rfl) (Nat.le_of_ble_eq_true rfl) dX10_waysWithin_12 ?_
  refine lv_topi (fun x2 ex2 => ?_)
  have hw := hw x2 ex2
  refine lv_istore (lv' := [(6, .int x2), (4, .long x1), (0, .ref (ad bs o)), (1, .ref (ad bs a1)), (2, .int a2), (3, .int a3)]) hx hb dX10_waysWithin_15 hl (by decide) rfl (fun ls hl => ?_)
  refine lv_iconst (v := 0) hx hb dX10_waysWithin_17 (by decide) ?_
  refine lv_iload_n hx hb dX10_waysWithin_18 rfl (lv_at hl 4 rfl) ?_
  refine lv_iload_n hx hb dX10_waysWithin_19 rfl (lv_at hl 5 rfl) ?_
  refine lv_isub hx hb dX10_waysWithin_20 ?_
  refine m_max E ml_X10_108 hl.1 (Nat.le_of_ble_eq_true rfl) (Nat.le_of_ble_eq_true rfl) (Nat.le_of_ble_eq_true rfl) (Nat.le_of_ble_eq_true rfl) dX10_waysWithin_21 ?_
  refine lv_topi (fun x3 ex3 => ?_)
  have hw := hw x3 ex3
  refine lv_istore (lv' := [(7, .int x3), (6, .int x2), (4, .long x1), (0, .ref (ad bs o)), (1, .ref (ad bs a1)), (2, .int a2), (3, .int a3)]) hx hb dX10_waysWithin_24 hl (by decide) rfl (fun ls hl => ?_)
  exact s_X10_waysWithin_26 E hr hlk ho ha1  hw hM hS (lv_sub hl [3, 2, 1, 0] rfl)
theorem dX10_waysOf_0 : decode cX10_waysOf 0 = .ok (.aload_n 0, 1) := by decide +kernel
theorem dX10_waysOf_1 : decode cX10_waysOf 1 = .ok (.getfield 84, 3) := by decide +kernel
theorem dX10_waysOf_4 : decode cX10_waysOf 4 = .ok (.ifCond .ne 5, 3) := by decide +kernel
theorem dX10_waysOf_7 : decode cX10_waysOf 7 = .ok (.lconst 1, 1) := by decide +kernel
theorem dX10_waysOf_8 : decode cX10_waysOf 8 = .ok (.lreturn, 1) := by decide +kernel
theorem dX10_waysOf_9 : decode cX10_waysOf 9 = .ok (.iconst 0, 1) := by decide +kernel
theorem dX10_waysOf_10 : decode cX10_waysOf 10 = .ok (.istore_n 3, 1) := by decide +kernel
theorem dX10_waysOf_11 : decode cX10_waysOf 11 = .ok (.iload_n 3, 1) := by decide +kernel
theorem dX10_waysOf_12 : decode cX10_waysOf 12 = .ok (.aload_n 1, 1) := by decide +kernel
theorem dX10_waysOf_13 : decode cX10_waysOf 13 = .ok (.getfield 61, 3) := by decide +kernel
theorem dX10_waysOf_16 : decode cX10_waysOf 16 = .ok (.if_icmp .ge 33, 3) := by decide +kernel
theorem dX10_waysOf_19 : decode cX10_waysOf 19 = .ok (.aload_n 0, 1) := by decide +kernel
theorem dX10_waysOf_20 : decode cX10_waysOf 20 = .ok (.getfield 18, 3) := by decide +kernel
theorem dX10_waysOf_23 : decode cX10_waysOf 23 = .ok (.iload_n 3, 1) := by decide +kernel
theorem dX10_waysOf_24 : decode cX10_waysOf 24 = .ok (.aload_n 0, 1) := by decide +kernel
theorem dX10_waysOf_25 : decode cX10_waysOf 25 = .ok (.getfield 15, 3) := by decide +kernel
theorem dX10_waysOf_28 : decode cX10_waysOf 28 = .ok (.iconst 0, 1) := by decide +kernel
theorem dX10_waysOf_29 : decode cX10_waysOf 29 = .ok (.iaload, 1) := by decide +kernel
theorem dX10_waysOf_30 : decode cX10_waysOf 30 = .ok (.iload_n 3, 1) := by decide +kernel
theorem dX10_waysOf_31 : decode cX10_waysOf 31 = .ok (.invokestatic 91, 3) := by decide +kernel
theorem dX10_waysOf_34 : decode cX10_waysOf 34 = .ok (.ifCond .eq 7, 3) := by decide +kernel
theorem dX10_waysOf_37 : decode cX10_waysOf 37 = .ok (.lconst 1, 1) := by decide +kernel
theorem dX10_waysOf_38 : decode cX10_waysOf 38 = .ok (.goto 4, 3) := by decide +kernel
theorem dX10_waysOf_41 : decode cX10_waysOf 41 = .ok (.lconst 0, 1) := by decide +kernel
theorem dX10_waysOf_42 : decode cX10_waysOf 42 = .ok (.lastore, 1) := by decide +kernel
theorem dX10_waysOf_43 : decode cX10_waysOf 43 = .ok (.iinc 3 1, 3) := by decide +kernel
theorem dX10_waysOf_46 : decode cX10_waysOf 46 = .ok (.goto (-35), 3) := by decide +kernel
theorem dX10_waysOf_49 : decode cX10_waysOf 49 = .ok (.iconst 1, 1) := by decide +kernel
theorem dX10_waysOf_50 : decode cX10_waysOf 50 = .ok (.istore_n 3, 1) := by decide +kernel
theorem dX10_waysOf_51 : decode cX10_waysOf 51 = .ok (.iload_n 3, 1) := by decide +kernel
theorem dX10_waysOf_52 : decode cX10_waysOf 52 = .ok (.aload_n 0, 1) := by decide +kernel
theorem dX10_waysOf_53 : decode cX10_waysOf 53 = .ok (.getfield 84, 3) := by decide +kernel
theorem dX10_waysOf_56 : decode cX10_waysOf 56 = .ok (.if_icmp .ge 85, 3) := by decide +kernel
theorem dX10_waysOf_59 : decode cX10_waysOf 59 = .ok (.iconst 0, 1) := by decide +kernel
theorem dX10_waysOf_60 : decode cX10_waysOf 60 = .ok (.istore 4, 2) := by decide +kernel
theorem dX10_waysOf_62 : decode cX10_waysOf 62 = .ok (.iload 4, 2) := by decide +kernel
theorem dX10_waysOf_64 : decode cX10_waysOf 64 = .ok (.aload_n 1, 1) := by decide +kernel
theorem dX10_waysOf_65 : decode cX10_waysOf 65 = .ok (.getfield 61, 3) := by decide +kernel
theorem dX10_waysOf_68 : decode cX10_waysOf 68 = .ok (.if_icmp .ge 47, 3) := by decide +kernel
theorem dX10_waysOf_71 : decode cX10_waysOf 71 = .ok (.aload_n 0, 1) := by decide +kernel
theorem dX10_waysOf_72 : decode cX10_waysOf 72 = .ok (.getfield 22, 3) := by decide +kernel
theorem dX10_waysOf_75 : decode cX10_waysOf 75 = .ok (.iload 4, 2) := by decide +kernel
theorem dX10_waysOf_77 : decode cX10_waysOf 77 = .ok (.aload_n 0, 1) := by decide +kernel
theorem dX10_waysOf_78 : decode cX10_waysOf 78 = .ok (.getfield 15, 3) := by decide +kernel
theorem dX10_waysOf_81 : decode cX10_waysOf 81 = .ok (.iload_n 3, 1) := by decide +kernel
theorem dX10_waysOf_82 : decode cX10_waysOf 82 = .ok (.iaload, 1) := by decide +kernel
theorem dX10_waysOf_83 : decode cX10_waysOf 83 = .ok (.iload 4, 2) := by decide +kernel
theorem dX10_waysOf_85 : decode cX10_waysOf 85 = .ok (.invokestatic 91, 3) := by decide +kernel
theorem dX10_waysOf_88 : decode cX10_waysOf 88 = .ok (.ifCond .eq 19, 3) := by decide +kernel
theorem dX10_waysOf_91 : decode cX10_waysOf 91 = .ok (.aload_n 0, 1) := by decide +kernel
theorem dX10_waysOf_92 : decode cX10_waysOf 92 = .ok (.aload_n 1, 1) := by decide +kernel
theorem dX10_waysOf_93 : decode cX10_waysOf 93 = .ok (.iload 4, 2) := by decide +kernel
theorem dX10_waysOf_95 : decode cX10_waysOf 95 = .ok (.aload_n 0, 1) := by decide +kernel
theorem dX10_waysOf_96 : decode cX10_waysOf 96 = .ok (.aload_n 2, 1) := by decide +kernel
theorem dX10_waysOf_97 : decode cX10_waysOf 97 = .ok (.iload_n 3, 1) := by decide +kernel
theorem dX10_waysOf_98 : decode cX10_waysOf 98 = .ok (.invokevirtual 95, 3) := by decide +kernel
theorem dX10_waysOf_101 : decode cX10_waysOf 101 = .ok (.invokevirtual 99, 3) := by decide +kernel
theorem dX10_waysOf_104 : decode cX10_waysOf 104 = .ok (.goto 4, 3) := by decide +kernel
theorem dX10_waysOf_107 : decode cX10_waysOf 107 = .ok (.lconst 0, 1) := by decide +kernel
theorem dX10_waysOf_108 : decode cX10_waysOf 108 = .ok (.lastore, 1) := by decide +kernel
theorem dX10_waysOf_109 : decode cX10_waysOf 109 = .ok (.iinc 4 1, 3) := by decide +kernel
theorem dX10_waysOf_112 : decode cX10_waysOf 112 = .ok (.goto (-50), 3) := by decide +kernel
theorem dX10_waysOf_115 : decode cX10_waysOf 115 = .ok (.aload_n 0, 1) := by decide +kernel
theorem dX10_waysOf_116 : decode cX10_waysOf 116 = .ok (.getfield 18, 3) := by decide +kernel
theorem dX10_waysOf_119 : decode cX10_waysOf 119 = .ok (.astore 4, 2) := by decide +kernel
theorem dX10_waysOf_121 : decode cX10_waysOf 121 = .ok (.aload_n 0, 1) := by decide +kernel
theorem dX10_waysOf_122 : decode cX10_waysOf 122 = .ok (.aload_n 0, 1) := by decide +kernel
theorem dX10_waysOf_123 : decode cX10_waysOf 123 = .ok (.getfield 22, 3) := by decide +kernel
theorem dX10_waysOf_126 : decode cX10_waysOf 126 = .ok (.putfield 18, 3) := by decide +kernel
theorem dX10_waysOf_129 : decode cX10_waysOf 129 = .ok (.aload_n 0, 1) := by decide +kernel
theorem dX10_waysOf_130 : decode cX10_waysOf 130 = .ok (.aload 4, 2) := by decide +kernel
theorem dX10_waysOf_132 : decode cX10_waysOf 132 = .ok (.putfield 22, 3) := by decide +kernel
theorem dX10_waysOf_135 : decode cX10_waysOf 135 = .ok (.iinc 3 1, 3) := by decide +kernel
theorem dX10_waysOf_138 : decode cX10_waysOf 138 = .ok (.goto (-87), 3) := by decide +kernel
theorem dX10_waysOf_141 : decode cX10_waysOf 141 = .ok (.lconst 0, 1) := by decide +kernel
theorem dX10_waysOf_142 : decode cX10_waysOf 142 = .ok (.lstore_n 3, 1) := by decide +kernel
theorem dX10_waysOf_143 : decode cX10_waysOf 143 = .ok (.iconst 0, 1) := by decide +kernel
theorem dX10_waysOf_144 : decode cX10_waysOf 144 = .ok (.istore 5, 2) := by decide +kernel
theorem dX10_waysOf_146 : decode cX10_waysOf 146 = .ok (.iload 5, 2) := by decide +kernel
theorem dX10_waysOf_148 : decode cX10_waysOf 148 = .ok (.aload_n 1, 1) := by decide +kernel
theorem dX10_waysOf_149 : decode cX10_waysOf 149 = .ok (.getfield 61, 3) := by decide +kernel
theorem dX10_waysOf_152 : decode cX10_waysOf 152 = .ok (.if_icmp .ge 19, 3) := by decide +kernel
theorem dX10_waysOf_155 : decode cX10_waysOf 155 = .ok (.lload_n 3, 1) := by decide +kernel
theorem dX10_waysOf_156 : decode cX10_waysOf 156 = .ok (.aload_n 0, 1) := by decide +kernel
theorem dX10_waysOf_157 : decode cX10_waysOf 157 = .ok (.getfield 18, 3) := by decide +kernel
theorem dX10_waysOf_160 : decode cX10_waysOf 160 = .ok (.iload 5, 2) := by decide +kernel
theorem dX10_waysOf_162 : decode cX10_waysOf 162 = .ok (.laload, 1) := by decide +kernel
theorem dX10_waysOf_163 : decode cX10_waysOf 163 = .ok (.ladd, 1) := by decide +kernel
theorem dX10_waysOf_164 : decode cX10_waysOf 164 = .ok (.lstore_n 3, 1) := by decide +kernel
theorem dX10_waysOf_165 : decode cX10_waysOf 165 = .ok (.iinc 5 1, 3) := by decide +kernel
theorem dX10_waysOf_168 : decode cX10_waysOf 168 = .ok (.goto (-22), 3) := by decide +kernel
theorem dX10_waysOf_171 : decode cX10_waysOf 171 = .ok (.lload_n 3, 1) := by decide +kernel
theorem dX10_waysOf_172 : decode cX10_waysOf 172 = .ok (.lreturn, 1) := by decide +kernel
def w_X10_waysOf_42 (K : mK) (I : mI) (o : Nat) (a1 : Nat) (a2 : Nat) (post : Int64 → mR → mL → Prop) (k11 : mR → mL → Int32 → Prop) (R : mR) (L : mL) (w1 : Nat) (v3 : Int32) (s1 : Int32) (s2 : Int64) : Prop := vp_in s1 24 ∧ ∀ L3, L3 = up2 L w1 s1.toNatClampNeg s2 → ∀ x4, x4 = v3 + 1 → k11 R L3 x4
set_option maxRecDepth 100000 in
set_option maxHeartbeats 4000000 in
theorem s_X10_waysOf_42 {p : Program} {l : Launch} {e : Env} {s : State} {m : MethodId} {args : Array Value} {below : List Frame} {meth : Method} {c : Code} {D : va_G} {cA : Nat → ClassId} {Z : mZ} {bs : Ad} {n : Nat} {K : mK} {I : mI} (E : Ev p s m args c cX10_waysOf 6 RX10 D cA Z bs) (hr : meth.sig.returnType = (some .long)) (hlk : meth.locks = false) {o : Nat} {a1 : Nat} {a2 : Nat}  {post : Int64 → mR → mL → Prop} {k11 : mR → mL → Int32 → Prop} (hk11 : ∀ (R : mR) (L : mL) (v3 : Int32) (H : Heap) (locs : List Loc) (ls : Array Slot) (ho : isX10 K R o) (ha1 : isX3 K R a1) (ha2 : isX6 K R a2), k11 R L v3 → mm D cA bs (n, K, R, I, L) H → va_S (Ab bs) s.heap H locs → lv_has ls 6 [(0, .ref (ad bs o)), (1, .ref (ad bs a1)), (2, .ref (ad bs a2)), (3, .int v3)] → W p l e ({ frames := 2, cells := 0, slots := 0, locals := 67 } : Room) s m args below meth c H locs 0 0 (MQ below (QL D cA bs (fun r u => ∃ R' L', u = (n, K, R', I, L') ∧ post r R' L')) args s 0 0 (Ab bs)) (F0 m 11 ls [])) {R : mR} {L : mL} {w1 : Nat} {v3 : Int32} {s1 : Int32} {s2 : Int64} {H : Heap} {locs : List Loc} {ls : Array Slot} (ho : isX10 K R o) (ha1 : isX3 K R a1) (ha2 : isX6 K R a2) (hKw1 : K w1 = (15, 24)) (hw : w_X10_waysOf_42 K I o a1 a2 post k11 R L w1 v3 s1 s2) (hM : mm D cA bs (n, K, R, I, L) H) (hS : va_S (Ab bs) s.heap H locs) (hl : lv_has ls 6 [(0, .ref (ad bs o)), (1, .ref (ad bs a1)), (2, .ref (ad bs a2)), (3, .int v3)]) : W p l e ({ frames := 2, cells := 0, slots := 0, locals := 67 } : Room) s m args below meth c H locs 0 0 (MQ below (QL D cA bs (fun r u => ∃ R' L', u = (n, K, R', I, L') ∧ post r R' L')) args s 0 0 (Ab bs)) (F0 m 42 ls [.long s2, .int s1, .ref (ad bs w1)]) := by
  have hx := E.1.1
  have hb := E.1.2.1
  obtain ⟨hv, hw⟩ := hw
  refine m_last E hM hS hKw1 hv dX10_waysOf_42 (fun L3 H locs eL3 hM hS => ?_)
  have hw := hw L3 eL3
  obtain ⟨x4, ex4⟩ : ∃ y : Int32, y = v3 + 1 := ⟨_, rfl⟩
  have hw := hw x4 ex4
  refine lv_iinc (v := x4) (lv' := [(3, .int x4), (0, .ref (ad bs o)), (1, .ref (ad bs a1)), (2, .ref (ad bs a2))]) hx hb dX10_waysOf_43 hl (k := 3) rfl (by rw [ex4]; rfl) (by decide) rfl (fun ls hl => ?_)
  refine lv_goto (tgt := 11) hx hb dX10_waysOf_46 (by decide) ?_
  exact hk11 _ _ _ H locs ls ho ha1 ha2 hw hM hS (lv_sub hl [1, 2, 3, 0] rfl)
def w_X10_waysOf_11 (K : mK) (I : mI) (o : Nat) (a1 : Nat) (a2 : Nat) (post : Int64 → mR → mL → Prop) (k51 : mR → mL → Int32 → Prop) (R : mR) (L : mL) (v3 : Int32) : Prop := ∀ ZZ : (mR → mL → Int32 → Prop), (∀ (R : mR) (L : mL) (v3 : Int32), (((I a1 0) ≤ v3 → k51 R L 1) ∧ (¬ (I a1 0) ≤ v3 → ∃ w1, R o 4 = some w1 ∧ K w1 = (15, 24) ∧ w_X11_has (I (o + 2) (0 : Int32).toNatClampNeg) v3 (fun b2 => (b2 = false → (w_X10_waysOf_42 K I o a1 a2 post ZZ) R L w1 v3 v3 (0 : Int64)) ∧ (b2 = true → (w_X10_waysOf_42 K I o a1 a2 post ZZ) R L w1 v3 v3 (1 : Int64))))) → ZZ R L v3) → ZZ R L v3
set_option maxRecDepth 100000 in
set_option maxHeartbeats 4000000 in
theorem s_X10_waysOf_11 {p : Program} {l : Launch} {e : Env} {s : State} {m : MethodId} {args : Array Value} {below : List Frame} {meth : Method} {c : Code} {D : va_G} {cA : Nat → ClassId} {Z : mZ} {bs : Ad} {n : Nat} {K : mK} {I : mI} (E : Ev p s m args c cX10_waysOf 6 RX10 D cA Z bs) (hr : meth.sig.returnType = (some .long)) (hlk : meth.locks = false) {o : Nat} {a1 : Nat} {a2 : Nat}  {post : Int64 → mR → mL → Prop} {k51 : mR → mL → Int32 → Prop} (hk51 : ∀ (R : mR) (L : mL) (v3 : Int32) (H : Heap) (locs : List Loc) (ls : Array Slot) (ho : isX10 K R o) (ha1 : isX3 K R a1) (ha2 : isX6 K R a2), k51 R L v3 → mm D cA bs (n, K, R, I, L) H → va_S (Ab bs) s.heap H locs → lv_has ls 6 [(0, .ref (ad bs o)), (1, .ref (ad bs a1)), (2, .ref (ad bs a2)), (3, .int v3)] → W p l e ({ frames := 2, cells := 0, slots := 0, locals := 67 } : Room) s m args below meth c H locs 0 0 (MQ below (QL D cA bs (fun r u => ∃ R' L', u = (n, K, R', I, L') ∧ post r R' L')) args s 0 0 (Ab bs)) (F0 m 51 ls [])) {R : mR} {L : mL} {v3 : Int32} {H : Heap} {locs : List Loc} {ls : Array Slot} (ho : isX10 K R o) (ha1 : isX3 K R a1) (ha2 : isX6 K R a2) (hw : w_X10_waysOf_11 K I o a1 a2 post k51 R L v3) (hM : mm D cA bs (n, K, R, I, L) H) (hS : va_S (Ab bs) s.heap H locs) (hl : lv_has ls 6 [(0, .ref (ad bs o)), (1, .ref (ad bs a1)), (2, .ref (ad bs a2)), (3, .int v3)]) : W p l e ({ frames := 2, cells := 0, slots := 0, locals := 67 } : Room) s m args below meth c H locs 0 0 (MQ below (QL D cA bs (fun r u => ∃ R' L', u = (n, K, R', I, L') ∧ post r R' L')) args s 0 0 (Ab bs)) (F0 m 11 ls []) := by
  have hx := E.1.1
  have hb := E.1.2.1
  refine hw (fun R L v3 => ∀ (H : Heap) (locs : List Loc) (ls : Array Slot) (ho : isX10 K R o) (ha1 : isX3 K R a1) (ha2 : isX6 K R a2), mm D cA bs (n, K, R, I, L) H → va_S (Ab bs) s.heap H locs → lv_has ls 6 [(0, .ref (ad bs o)), (1, .ref (ad bs a1)), (2, .ref (ad bs a2)), (3, .int v3)] → W p l e ({ frames := 2, cells := 0, slots := 0, locals := 67 } : Room) s m args below meth c H locs 0 0 (MQ below (QL D cA bs (fun r u => ∃ R' L', u = (n, K, R', I, L') ∧ post r R' L')) args s 0 0 (Ab bs)) (F0 m 11 ls [])) ?_ H locs ls ho ha1 ha2 hM hS hl
  clear hw hM hS hl
  intro R L v3 hw H locs ls ho ha1 ha2 hM hS hl
  refine lv_iload_n hx hb dX10_waysOf_11 rfl (lv_at hl 3 rfl) ?_
  refine lv_aload_n hx hb dX10_waysOf_12 rfl (lv_at hl 1 rfl) ?_
  refine m_geti E hM fs_X10_61 ha1.1 dX10_waysOf_13 ?_
  refine lv_icmp_ge (tgt := 49) hx hb dX10_waysOf_16 (by decide) (fun cq => ?_) (fun cq => ?_)
  · have hw := hw.1 cq
    refine lv_iconst (v := 1) hx hb dX10_waysOf_49 (by decide) ?_
    refine lv_istore_n (lv' := [(3, .int 1), (0, .ref (ad bs o)), (1, .ref (ad bs a1)), (2, .ref (ad bs a2))]) hx hb dX10_waysOf_50 rfl hl (by decide) rfl (fun ls hl => ?_)
    exact hk51 _ _ _ H locs ls ho ha1 ha2 hw hM hS (lv_sub hl [1, 2, 3, 0] rfl)
  · have hw := hw.2 cq
    refine lv_aload_n hx hb dX10_waysOf_19 rfl (lv_at hl 0 rfl) ?_
    obtain ⟨w1, hRw1, hKw1, hw⟩ := hw
    refine m_getr E hM fs_X10_18 ho.1 hRw1 dX10_waysOf_20 ?_
    refine lv_iload_n hx hb dX10_waysOf_23 rfl (lv_at hl 3 rfl) ?_
    refine lv_aload_n hx hb dX10_waysOf_24 rfl (lv_at hl 0 rfl) ?_
    refine m_getr E hM fs_X10_15 ho.1 (isO_at ho 1 rfl).1 dX10_waysOf_25 ?_
    refine lv_iconst (v := 0) hx hb dX10_waysOf_28 (by decide) ?_
    refine m_iald E hM (isO_at ho 1 rfl).2 (by unfold vp_in; decide) dX10_waysOf_29 ?_
    refine lv_iload_n hx hb dX10_waysOf_30 rfl (lv_at hl 3 rfl) ?_
    refine m_ci (m_runSN E hM hS cs_X10_91 (c_X11_has  hw) rfl rfl ⟨Nat.le_of_ble_eq_true rfl, Nat.le_of_ble_eq_true rfl⟩ rfl hl.1 rfl (Nat.le_of_ble_eq_true rfl) dX10_waysOf_31 ⟨Nat.le_of_ble_eq_true rfl, Nat.le_of_ble_eq_true rfl⟩) hS (fun r9 u H locs hp hM hS => ?_)
    obtain ⟨b2, rfl, rfl, hw⟩ := hp
    refine lv_if_eq (tgt := 41) hx hb dX10_waysOf_34 (by decide) (fun cq => ?_) (fun cq => ?_)
    · have hw := hw.1 (bI_f cq)
      refine lv_lconst (v := 0) hx hb dX10_waysOf_41 (by decide) ?_
      exact s_X10_waysOf_42 E hr hlk  (fun R L v3 H locs ls ho ha1 ha2 hw hM hS hl => hw H locs ls ho ha1 ha2 hM hS hl) ho ha1 ha2 hKw1 hw hM hS (lv_sub hl [0, 1, 2, 3] rfl)
    · have hw := hw.2 (bI_t cq)
      refine lv_lconst (v := 1) hx hb dX10_waysOf_37 (by decide) ?_
      refine lv_goto (tgt := 42) hx hb dX10_waysOf_38 (by decide) ?_
      exact s_X10_waysOf_42 E hr hlk  (fun R L v3 H locs ls ho ha1 ha2 hw hM hS hl => hw H locs ls ho ha1 ha2 hM hS hl) ho ha1 ha2 hKw1 hw hM hS (lv_sub hl [0, 1, 2, 3] rfl)
def w_X10_waysOf_108 (K : mK) (I : mI) (o : Nat) (a1 : Nat) (a2 : Nat) (post : Int64 → mR → mL → Prop) (k62 : mR → mL → Int32 → Int32 → Prop) (R : mR) (L : mL) (w6 : Nat) (v3 : Int32) (v4 : Int32) (s1 : Int32) (s2 : Int64) : Prop := vp_in s1 24 ∧ ∀ L10, L10 = up2 L w6 s1.toNatClampNeg s2 → ∀ x11, x11 = v4 + 1 → k62 R L10 v3 x11
set_option maxRecDepth 100000 in
set_option maxHeartbeats 4000000 in
theorem s_X10_waysOf_108 {p : Program} {l : Launch} {e : Env} {s : State} {m : MethodId} {args : Array Value} {below : List Frame} {meth : Method} {c : Code} {D : va_G} {cA : Nat → ClassId} {Z : mZ} {bs : Ad} {n : Nat} {K : mK} {I : mI} (E : Ev p s m args c cX10_waysOf 6 RX10 D cA Z bs) (hr : meth.sig.returnType = (some .long)) (hlk : meth.locks = false) {o : Nat} {a1 : Nat} {a2 : Nat}  {post : Int64 → mR → mL → Prop} {k62 : mR → mL → Int32 → Int32 → Prop} (hk62 : ∀ (R : mR) (L : mL) (v3 : Int32) (v4 : Int32) (H : Heap) (locs : List Loc) (ls : Array Slot) (ho : isX10 K R o) (ha1 : isX3 K R a1) (ha2 : isX6 K R a2), k62 R L v3 v4 → mm D cA bs (n, K, R, I, L) H → va_S (Ab bs) s.heap H locs → lv_has ls 6 [(0, .ref (ad bs o)), (1, .ref (ad bs a1)), (2, .ref (ad bs a2)), (3, .int v3), (4, .int v4)] → W p l e ({ frames := 2, cells := 0, slots := 0, locals := 67 } : Room) s m args below meth c H locs 0 0 (MQ below (QL D cA bs (fun r u => ∃ R' L', u = (n, K, R', I, L') ∧ post r R' L')) args s 0 0 (Ab bs)) (F0 m 62 ls [])) {R : mR} {L : mL} {w6 : Nat} {v3 : Int32} {v4 : Int32} {s1 : Int32} {s2 : Int64} {H : Heap} {locs : List Loc} {ls : Array Slot} (ho : isX10 K R o) (ha1 : isX3 K R a1) (ha2 : isX6 K R a2) (hKw6 : K w6 = (15, 24)) (hw : w_X10_waysOf_108 K I o a1 a2 post k62 R L w6 v3 v4 s1 s2) (hM : mm D cA bs (n, K, R, I, L) H) (hS : va_S (Ab bs) s.heap H locs) (hl : lv_has ls 6 [(0, .ref (ad bs o)), (1, .ref (ad bs a1)), (2, .ref (ad bs a2)), (3, .int v3), (4, .int v4)]) : W p l e ({ frames := 2, cells := 0, slots := 0, locals := 67 } : Room) s m args below meth c H locs 0 0 (MQ below (QL D cA bs (fun r u => ∃ R' L', u = (n, K, R', I, L') ∧ post r R' L')) args s 0 0 (Ab bs)) (F0 m 108 ls [.long s2, .int s1, .ref (ad bs w6)]) := by
  have hx := E.1.1
  have hb := E.1.2.1
  obtain ⟨hv, hw⟩ := hw
  refine m_last E hM hS hKw6 hv dX10_waysOf_108 (fun L10 H locs eL10 hM hS => ?_)
  have hw := hw L10 eL10
  obtain ⟨x11, ex11⟩ : ∃ y : Int32, y = v4 + 1 := ⟨_, rfl⟩
  have hw := hw x11 ex11
  refine lv_iinc (v := x11) (lv' := [(4, .int x11), (0, .ref (ad bs o)), (1, .ref (ad bs a1)), (2, .ref (ad bs a2)), (3, .int v3)]) hx hb dX10_waysOf_109 hl (k := 4) rfl (by rw [ex11]; rfl) (by decide) rfl (fun ls hl => ?_)
  refine lv_goto (tgt := 62) hx hb dX10_waysOf_112 (by decide) ?_
  exact hk62 _ _ _ _ H locs ls ho ha1 ha2 hw hM hS (lv_sub hl [1, 2, 3, 4, 0] rfl)
def w_X10_waysOf_62 (K : mK) (I : mI) (o : Nat) (a1 : Nat) (a2 : Nat) (post : Int64 → mR → mL → Prop) (k115 : mR → mL → Int32 → Prop) (R : mR) (L : mL) (v3 : Int32) (v4 : Int32) : Prop := ∀ ZZ : (mR → mL → Int32 → Int32 → Prop), (∀ (R : mR) (L : mL) (v3 : Int32) (v4 : Int32), (((I a1 0) ≤ v4 → k115 R L v3) ∧ (¬ (I a1 0) ≤ v4 → ∃ w6, R o 5 = some w6 ∧ K w6 = (15, 24) ∧ vp_in v3 10 ∧ w_X11_has (I (o + 2) v3.toNatClampNeg) v4 (fun b7 => (b7 = false → (w_X10_waysOf_108 K I o a1 a2 post ZZ) R L w6 v3 v4 v4 (0 : Int64)) ∧ (b7 = true → w_X10_reachTo I o a2 v3 (fun r8 => w_X10_waysWithin K R I L o a1 v4 r8 (fun r9 => (w_X10_waysOf_108 K I o a1 a2 post ZZ) R L w6 v3 v4 v4 r9)))))) → ZZ R L v3 v4) → ZZ R L v3 v4
set_option maxRecDepth 100000 in
set_option maxHeartbeats 4000000 in
theorem s_X10_waysOf_62 {p : Program} {l : Launch} {e : Env} {s : State} {m : MethodId} {args : Array Value} {below : List Frame} {meth : Method} {c : Code} {D : va_G} {cA : Nat → ClassId} {Z : mZ} {bs : Ad} {n : Nat} {K : mK} {I : mI} (E : Ev p s m args c cX10_waysOf 6 RX10 D cA Z bs) (hr : meth.sig.returnType = (some .long)) (hlk : meth.locks = false) {o : Nat} {a1 : Nat} {a2 : Nat}  {post : Int64 → mR → mL → Prop} {k115 : mR → mL → Int32 → Prop} (hk115 : ∀ (R : mR) (L : mL) (v3 : Int32) (H : Heap) (locs : List Loc) (ls : Array Slot) (ho : isX10 K R o) (ha1 : isX3 K R a1) (ha2 : isX6 K R a2), k115 R L v3 → mm D cA bs (n, K, R, I, L) H → va_S (Ab bs) s.heap H locs → lv_has ls 6 [(0, .ref (ad bs o)), (1, .ref (ad bs a1)), (2, .ref (ad bs a2)), (3, .int v3)] → W p l e ({ frames := 2, cells := 0, slots := 0, locals := 67 } : Room) s m args below meth c H locs 0 0 (MQ below (QL D cA bs (fun r u => ∃ R' L', u = (n, K, R', I, L') ∧ post r R' L')) args s 0 0 (Ab bs)) (F0 m 115 ls [])) {R : mR} {L : mL} {v3 : Int32} {v4 : Int32} {H : Heap} {locs : List Loc} {ls : Array Slot} (ho : isX10 K R o) (ha1 : isX3 K R a1) (ha2 : isX6 K R a2) (hw : w_X10_waysOf_62 K I o a1 a2 post k115 R L v3 v4) (hM : mm D cA bs (n, K, R, I, L) H) (hS : va_S (Ab bs) s.heap H locs) (hl : lv_has ls 6 [(0, .ref (ad bs o)), (1, .ref (ad bs a1)), (2, .ref (ad bs a2)), (3, .int v3), (4, .int v4)]) : W p l e ({ frames := 2, cells := 0, slots := 0, locals := 67 } : Room) s m args below meth c H locs 0 0 (MQ below (QL D cA bs (fun r u => ∃ R' L', u = (n, K, R', I, L') ∧ post r R' L')) args s 0 0 (Ab bs)) (F0 m 62 ls []) := by
  have hx := E.1.1
  have hb := E.1.2.1
  refine hw (fun R L v3 v4 => ∀ (H : Heap) (locs : List Loc) (ls : Array Slot) (ho : isX10 K R o) (ha1 : isX3 K R a1) (ha2 : isX6 K R a2), mm D cA bs (n, K, R, I, L) H → va_S (Ab bs) s.heap H locs → lv_has ls 6 [(0, .ref (ad bs o)), (1, .ref (ad bs a1)), (2, .ref (ad bs a2)), (3, .int v3), (4, .int v4)] → W p l e ({ frames := 2, cells := 0, slots := 0, locals := 67 } : Room) s m args below meth c H locs 0 0 (MQ below (QL D cA bs (fun r u => ∃ R' L', u = (n, K, R', I, L') ∧ post r R' L')) args s 0 0 (Ab bs)) (F0 m 62 ls [])) ?_ H locs ls ho ha1 ha2 hM hS hl
  clear hw hM hS hl
  intro R L v3 v4 hw H locs ls ho ha1 ha2 hM hS hl
  refine lv_iload hx hb dX10_waysOf_62 (lv_at hl 4 rfl) ?_
  refine lv_aload_n hx hb dX10_waysOf_64 rfl (lv_at hl 1 rfl) ?_
  refine m_geti E hM fs_X10_61 ha1.1 dX10_waysOf_65 ?_
  refine lv_icmp_ge (tgt := 115) hx hb dX10_waysOf_68 (by decide) (fun cq => ?_) (fun cq => ?_)
  · have hw := hw.1 cq
    exact hk115 _ _ _ H locs ls ho ha1 ha2 hw hM hS (lv_sub hl [0, 1, 2, 3] rfl)
  · have hw := hw.2 cq
    refine lv_aload_n hx hb dX10_waysOf_71 rfl (lv_at hl 0 rfl) ?_
    obtain ⟨w6, hRw6, hKw6, hw⟩ := hw
    refine m_getr E hM fs_X10_22 ho.1 hRw6 dX10_waysOf_72 ?_
    refine lv_iload hx hb dX10_waysOf_75 (lv_at hl 4 rfl) ?_
    refine lv_aload_n hx hb dX10_waysOf_77 rfl (lv_at hl 0 rfl) ?_
    refine m_getr E hM fs_X10_15 ho.1 (isO_at ho 1 rfl).1 dX10_waysOf_78 ?_
    refine lv_iload_n hx hb dX10_waysOf_81 rfl (lv_at hl 3 rfl) ?_
    obtain ⟨hv, hw⟩ := hw
    refine m_iald E hM (isO_at ho 1 rfl).2 hv dX10_waysOf_82 ?_
    refine lv_iload hx hb dX10_waysOf_83 (lv_at hl 4 rfl) ?_
    refine m_ci (m_runSN E hM hS cs_X10_91 (c_X11_has  hw) rfl rfl ⟨Nat.le_of_ble_eq_true rfl, Nat.le_of_ble_eq_true rfl⟩ rfl hl.1 rfl (Nat.le_of_ble_eq_true rfl) dX10_waysOf_85 ⟨Nat.le_of_ble_eq_true rfl, Nat.le_of_ble_eq_true rfl⟩) hS (fun r9 u H locs hp hM hS => ?_)
    obtain ⟨b7, rfl, rfl, hw⟩ := hp
    refine lv_if_eq (tgt := 107) hx hb dX10_waysOf_88 (by decide) (fun cq => ?_) (fun cq => ?_)
    · have hw := hw.1 (bI_f cq)
      refine lv_lconst (v := 0) hx hb dX10_waysOf_107 (by decide) ?_
      exact s_X10_waysOf_108 E hr hlk  (fun R L v3 v4 H locs ls ho ha1 ha2 hw hM hS hl => hw H locs ls ho ha1 ha2 hM hS hl) ho ha1 ha2 hKw6 hw hM hS (lv_sub hl [0, 1, 2, 3, 4] rfl)
    · have hw := hw.2 (bI_t cq)
      refine lv_aload_n hx hb dX10_waysOf_91 rfl (lv_at hl 0 rfl) ?_
      refine lv_aload_n hx hb dX10_waysOf_92 rfl (lv_at hl 1 rfl) ?_
      refine lv_iload hx hb dX10_waysOf_93 (lv_at hl 4 rfl) ?_
      refine lv_aload_n hx hb dX10_waysOf_95 rfl (lv_at hl 0 rfl) ?_
      refine lv_aload_n hx hb dX10_waysOf_96 rfl (lv_at hl 2 rfl) ?_
      refine lv_iload_n hx hb dX10_waysOf_97 rfl (lv_at hl 3 rfl) ?_
      refine m_ci (m_runV E hM hS cs_X10_95 ho.1 (by decide) rfl rfl (c_X10_reachTo ho ha2 hw) rfl rfl ⟨Nat.le_of_ble_eq_true rfl, Nat.le_of_ble_eq_true rfl⟩ rfl hl.1 rfl (Nat.le_of_ble_eq_true rfl) dX10_waysOf_98 ⟨Nat.le_of_ble_eq_true rfl, Nat.le_of_ble_eq_true rfl⟩) hS (fun r8 u H locs hp hM hS => ?_)
      obtain ⟨rfl, hw⟩ := hp
      refine m_cl (m_runV E hM hS cs_X10_99 ho.1 (by decide) rfl rfl (c_X10_waysWithin ho ha1 hw) rfl rfl ⟨Nat.le_of_ble_eq_true rfl, Nat.le_of_ble_eq_true rfl⟩ rfl hl.1 rfl (Nat.le_of_ble_eq_true rfl) dX10_waysOf_101 ⟨Nat.le_of_ble_eq_true rfl, Nat.le_of_ble_eq_true rfl⟩) hS (fun r9 u H locs hp hM hS => ?_)
      obtain ⟨rfl, hw⟩ := hp
      refine lv_goto (tgt := 108) hx hb dX10_waysOf_104 (by decide) ?_
      exact s_X10_waysOf_108 E hr hlk  (fun R L v3 v4 H locs ls ho ha1 ha2 hw hM hS hl => hw H locs ls ho ha1 ha2 hM hS hl) ho ha1 ha2 hKw6 hw hM hS (lv_sub hl [0, 1, 2, 3, 4] rfl)
def w_X10_waysOf_115 (K : mK) (I : mI) (o : Nat) (a1 : Nat) (a2 : Nat) (post : Int64 → mR → mL → Prop) (k51 : mR → mL → Int32 → Prop) (R : mR) (L : mL) (v3 : Int32) : Prop := ∃ w12, R o 4 = some w12 ∧ K w12 = (15, 24) ∧ ∃ w13, R o 5 = some w13 ∧ K w13 = (15, 24) ∧ ∀ R14, R14 = up2 R o 4 (some w13) → ∀ R15, R15 = up2 R14 o 5 (some w12) → ∀ x16, x16 = v3 + 1 → k51 R15 L x16
set_option maxRecDepth 100000 in
set_option maxHeartbeats 4000000 in
theorem s_X10_waysOf_115 {p : Program} {l : Launch} {e : Env} {s : State} {m : MethodId} {args : Array Value} {below : List Frame} {meth : Method} {c : Code} {D : va_G} {cA : Nat → ClassId} {Z : mZ} {bs : Ad} {n : Nat} {K : mK} {I : mI} (E : Ev p s m args c cX10_waysOf 6 RX10 D cA Z bs) (hr : meth.sig.returnType = (some .long)) (hlk : meth.locks = false) {o : Nat} {a1 : Nat} {a2 : Nat}  {post : Int64 → mR → mL → Prop} {k51 : mR → mL → Int32 → Prop} (hk51 : ∀ (R : mR) (L : mL) (v3 : Int32) (H : Heap) (locs : List Loc) (ls : Array Slot) (ho : isX10 K R o) (ha1 : isX3 K R a1) (ha2 : isX6 K R a2), k51 R L v3 → mm D cA bs (n, K, R, I, L) H → va_S (Ab bs) s.heap H locs → lv_has ls 6 [(0, .ref (ad bs o)), (1, .ref (ad bs a1)), (2, .ref (ad bs a2)), (3, .int v3)] → W p l e ({ frames := 2, cells := 0, slots := 0, locals := 67 } : Room) s m args below meth c H locs 0 0 (MQ below (QL D cA bs (fun r u => ∃ R' L', u = (n, K, R', I, L') ∧ post r R' L')) args s 0 0 (Ab bs)) (F0 m 51 ls [])) {R : mR} {L : mL} {v3 : Int32} {H : Heap} {locs : List Loc} {ls : Array Slot} (ho : isX10 K R o) (ha1 : isX3 K R a1) (ha2 : isX6 K R a2) (hw : w_X10_waysOf_115 K I o a1 a2 post k51 R L v3) (hM : mm D cA bs (n, K, R, I, L) H) (hS : va_S (Ab bs) s.heap H locs) (hl : lv_has ls 6 [(0, .ref (ad bs o)), (1, .ref (ad bs a1)), (2, .ref (ad bs a2)), (3, .int v3)]) : W p l e ({ frames := 2, cells := 0, slots := 0, locals := 67 } : Room) s m args below meth c H locs 0 0 (MQ below (QL D cA bs (fun r u => ∃ R' L', u = (n, K, R', I, L') ∧ post r R' L')) args s 0 0 (Ab bs)) (F0 m 115 ls []) := by
  have hx := E.1.1
  have hb := E.1.2.1
  refine lv_aload_n hx hb dX10_waysOf_115 rfl (lv_at hl 0 rfl) ?_
  obtain ⟨w12, hRw12, hKw12, hw⟩ := hw
  refine m_getr E hM fs_X10_18 ho.1 hRw12 dX10_waysOf_116 ?_
  refine lv_astore (lv' := [(4, .ref (ad bs w12)), (0, .ref (ad bs o)), (1, .ref (ad bs a1)), (2, .ref (ad bs a2)), (3, .int v3)]) hx hb dX10_waysOf_119 hl (by decide) rfl (fun ls hl => ?_)
  refine lv_aload_n hx hb dX10_waysOf_121 rfl (lv_at hl 1 rfl) ?_
  refine lv_aload_n hx hb dX10_waysOf_122 rfl (lv_at hl 1 rfl) ?_
  obtain ⟨w13, hRw13, hKw13, hw⟩ := hw
  refine m_getr E hM fs_X10_22 ho.1 hRw13 dX10_waysOf_123 ?_
  refine m_putr E hM hS fp_X10_18 (fun h9 => absurd h9 (by decide)) ho.1 (by rw [hKw13]; decide) rfl rfl dX10_waysOf_126 (fun R14 H locs eR14 hM hS => ?_)
  have hw := hw R14 eR14
  have ha1 := isX3_up (k := 4) (v := some w13) ho.1 ha1
  rw [← eR14] at ha1
  have ha2 := isX6_up (k := 4) (v := some w13) ho.1 ha2
  rw [← eR14] at ha2
  have ho := isX10_up (k := 4) (v := some w13) ho (by decide)
  rw [← eR14] at ho
  refine lv_aload_n hx hb dX10_waysOf_129 rfl (lv_at hl 1 rfl) ?_
  refine lv_aload hx hb dX10_waysOf_130 (lv_at hl 0 rfl) ?_
  refine m_putr E hM hS fp_X10_22 (fun h9 => absurd h9 (by decide)) ho.1 (by rw [hKw12]; decide) rfl rfl dX10_waysOf_132 (fun R15 H locs eR15 hM hS => ?_)
  have hw := hw R15 eR15
  have ha1 := isX3_up (k := 5) (v := some w12) ho.1 ha1
  rw [← eR15] at ha1
  have ha2 := isX6_up (k := 5) (v := some w12) ho.1 ha2
  rw [← eR15] at ha2
  have ho := isX10_up (k := 5) (v := some w12) ho (by decide)
  rw [← eR15] at ho
  obtain ⟨x16, ex16⟩ : ∃ y : Int32, y = v3 + 1 := ⟨_, rfl⟩
  have hw := hw x16 ex16
  refine lv_iinc (v := x16) (lv' := [(3, .int x16), (4, .ref (ad bs w12)), (0, .ref (ad bs o)), (1, .ref (ad bs a1)), (2, .ref (ad bs a2))]) hx hb dX10_waysOf_135 hl (k := 4) rfl (by rw [ex16]; rfl) (by decide) rfl (fun ls hl => ?_)
  refine lv_goto (tgt := 51) hx hb dX10_waysOf_138 (by decide) ?_
  exact hk51 _ _ _ H locs ls ho ha1 ha2 hw hM hS (lv_sub hl [2, 3, 4, 0] rfl)
def w_X10_waysOf_51 (K : mK) (I : mI) (o : Nat) (a1 : Nat) (a2 : Nat) (post : Int64 → mR → mL → Prop) (k146 : mR → mL → Int64 → Int32 → Prop) (R : mR) (L : mL) (v3 : Int32) : Prop := ∀ ZZ : (mR → mL → Int32 → Prop), (∀ (R : mR) (L : mL) (v3 : Int32), (((I o 1) ≤ v3 → ∀ x5, x5 = (0 : Int64) → k146 R L x5 0) ∧ (¬ (I o 1) ≤ v3 → (w_X10_waysOf_62 K I o a1 a2 post (w_X10_waysOf_115 K I o a1 a2 post ZZ)) R L v3 0)) → ZZ R L v3) → ZZ R L v3
set_option maxRecDepth 100000 in
set_option maxHeartbeats 4000000 in
theorem s_X10_waysOf_51 {p : Program} {l : Launch} {e : Env} {s : State} {m : MethodId} {args : Array Value} {below : List Frame} {meth : Method} {c : Code} {D : va_G} {cA : Nat → ClassId} {Z : mZ} {bs : Ad} {n : Nat} {K : mK} {I : mI} (E : Ev p s m args c cX10_waysOf 6 RX10 D cA Z bs) (hr : meth.sig.returnType = (some .long)) (hlk : meth.locks = false) {o : Nat} {a1 : Nat} {a2 : Nat}  {post : Int64 → mR → mL → Prop} {k146 : mR → mL → Int64 → Int32 → Prop} (hk146 : ∀ (R : mR) (L : mL) (v3 : Int64) (v5 : Int32) (H : Heap) (locs : List Loc) (ls : Array Slot) (ho : isX10 K R o) (ha1 : isX3 K R a1) (ha2 : isX6 K R a2), k146 R L v3 v5 → mm D cA bs (n, K, R, I, L) H → va_S (Ab bs) s.heap H locs → lv_has ls 6 [(0, .ref (ad bs o)), (1, .ref (ad bs a1)), (3, .long v3), (5, .int v5)] → W p l e ({ frames := 2, cells := 0, slots := 0, locals := 67 } : Room) s m args below meth c H locs 0 0 (MQ below (QL D cA bs (fun r u => ∃ R' L', u = (n, K, R', I, L') ∧ post r R' L')) args s 0 0 (Ab bs)) (F0 m 146 ls [])) {R : mR} {L : mL} {v3 : Int32} {H : Heap} {locs : List Loc} {ls : Array Slot} (ho : isX10 K R o) (ha1 : isX3 K R a1) (ha2 : isX6 K R a2) (hw : w_X10_waysOf_51 K I o a1 a2 post k146 R L v3) (hM : mm D cA bs (n, K, R, I, L) H) (hS : va_S (Ab bs) s.heap H locs) (hl : lv_has ls 6 [(0, .ref (ad bs o)), (1, .ref (ad bs a1)), (2, .ref (ad bs a2)), (3, .int v3)]) : W p l e ({ frames := 2, cells := 0, slots := 0, locals := 67 } : Room) s m args below meth c H locs 0 0 (MQ below (QL D cA bs (fun r u => ∃ R' L', u = (n, K, R', I, L') ∧ post r R' L')) args s 0 0 (Ab bs)) (F0 m 51 ls []) := by
  have hx := E.1.1
  have hb := E.1.2.1
  refine hw (fun R L v3 => ∀ (H : Heap) (locs : List Loc) (ls : Array Slot) (ho : isX10 K R o) (ha1 : isX3 K R a1) (ha2 : isX6 K R a2), mm D cA bs (n, K, R, I, L) H → va_S (Ab bs) s.heap H locs → lv_has ls 6 [(0, .ref (ad bs o)), (1, .ref (ad bs a1)), (2, .ref (ad bs a2)), (3, .int v3)] → W p l e ({ frames := 2, cells := 0, slots := 0, locals := 67 } : Room) s m args below meth c H locs 0 0 (MQ below (QL D cA bs (fun r u => ∃ R' L', u = (n, K, R', I, L') ∧ post r R' L')) args s 0 0 (Ab bs)) (F0 m 51 ls [])) ?_ H locs ls ho ha1 ha2 hM hS hl
  clear hw hM hS hl
  intro R L v3 hw H locs ls ho ha1 ha2 hM hS hl
  refine lv_iload_n hx hb dX10_waysOf_51 rfl (lv_at hl 3 rfl) ?_
  refine lv_aload_n hx hb dX10_waysOf_52 rfl (lv_at hl 0 rfl) ?_
  refine m_geti E hM fs_X10_84 ho.1 dX10_waysOf_53 ?_
  refine lv_icmp_ge (tgt := 141) hx hb dX10_waysOf_56 (by decide) (fun cq => ?_) (fun cq => ?_)
  · have hw := hw.1 cq
    refine lv_lconst (v := 0) hx hb dX10_waysOf_141 (by decide) ?_
    refine lv_topl (fun x5 ex5 => ?_)
    have hw := hw x5 ex5
    refine lv_lstore_n (lv' := [(3, .long x5), (0, .ref (ad bs o)), (1, .ref (ad bs a1)), (2, .ref (ad bs a2))]) hx hb dX10_waysOf_142 rfl hl (by decide) rfl (fun ls hl => ?_)
    refine lv_iconst (v := 0) hx hb dX10_waysOf_143 (by decide) ?_
    refine lv_istore (lv' := [(5, .int 0), (3, .long x5), (0, .ref (ad bs o)), (1, .ref (ad bs a1)), (2, .ref (ad bs a2))]) hx hb dX10_waysOf_144 hl (by decide) rfl (fun ls hl => ?_)
    exact hk146 _ _ _ _ H locs ls ho ha1 ha2 hw hM hS (lv_sub hl [2, 3, 1, 0] rfl)
  · have hw := hw.2 cq
    refine lv_iconst (v := 0) hx hb dX10_waysOf_59 (by decide) ?_
    refine lv_istore (lv' := [(4, .int 0), (0, .ref (ad bs o)), (1, .ref (ad bs a1)), (2, .ref (ad bs a2)), (3, .int v3)]) hx hb dX10_waysOf_60 hl (by decide) rfl (fun ls hl => ?_)
    exact s_X10_waysOf_62 E hr hlk  (fun R L v3 H locs ls ho ha1 ha2 hw hM hS hl => s_X10_waysOf_115 E hr hlk  (fun R L v3 H locs ls ho ha1 ha2 hw hM hS hl => hw H locs ls ho ha1 ha2 hM hS hl) ho ha1 ha2 hw hM hS hl) ho ha1 ha2 hw hM hS (lv_sub hl [1, 2, 3, 4, 0] rfl)
def w_X10_waysOf_146 (K : mK) (I : mI) (o : Nat) (a1 : Nat) (a2 : Nat) (post : Int64 → mR → mL → Prop) (R : mR) (L : mL) (v3 : Int64) (v5 : Int32) : Prop := ∀ ZZ : (mR → mL → Int64 → Int32 → Prop), (∀ (R : mR) (L : mL) (v3 : Int64) (v5 : Int32), (((I a1 0) ≤ v5 → post v3 R L) ∧ (¬ (I a1 0) ≤ v5 → ∃ w17, R o 4 = some w17 ∧ K w17 = (15, 24) ∧ vp_in v5 24 ∧ ∀ x18, x18 = (v3 + (L w17 v5.toNatClampNeg)) → ∀ x19, x19 = v5 + 1 → ZZ R L x18 x19)) → ZZ R L v3 v5) → ZZ R L v3 v5
set_option maxRecDepth 100000 in
set_option maxHeartbeats 4000000 in
theorem s_X10_waysOf_146 {p : Program} {l : Launch} {e : Env} {s : State} {m : MethodId} {args : Array Value} {below : List Frame} {meth : Method} {c : Code} {D : va_G} {cA : Nat → ClassId} {Z : mZ} {bs : Ad} {n : Nat} {K : mK} {I : mI} (E : Ev p s m args c cX10_waysOf 6 RX10 D cA Z bs) (hr : meth.sig.returnType = (some .long)) (hlk : meth.locks = false) {o : Nat} {a1 : Nat} {a2 : Nat}  {post : Int64 → mR → mL → Prop} {R : mR} {L : mL} {v3 : Int64} {v5 : Int32} {H : Heap} {locs : List Loc} {ls : Array Slot} (ho : isX10 K R o) (ha1 : isX3 K R a1) (ha2 : isX6 K R a2) (hw : w_X10_waysOf_146 K I o a1 a2 post R L v3 v5) (hM : mm D cA bs (n, K, R, I, L) H) (hS : va_S (Ab bs) s.heap H locs) (hl : lv_has ls 6 [(0, .ref (ad bs o)), (1, .ref (ad bs a1)), (3, .long v3), (5, .int v5)]) : W p l e ({ frames := 2, cells := 0, slots := 0, locals := 67 } : Room) s m args below meth c H locs 0 0 (MQ below (QL D cA bs (fun r u => ∃ R' L', u = (n, K, R', I, L') ∧ post r R' L')) args s 0 0 (Ab bs)) (F0 m 146 ls []) := by
  have hx := E.1.1
  have hb := E.1.2.1
  refine hw (fun R L v3 v5 => ∀ (H : Heap) (locs : List Loc) (ls : Array Slot) (ho : isX10 K R o) (ha1 : isX3 K R a1) (ha2 : isX6 K R a2), mm D cA bs (n, K, R, I, L) H → va_S (Ab bs) s.heap H locs → lv_has ls 6 [(0, .ref (ad bs o)), (1, .ref (ad bs a1)), (3, .long v3), (5, .int v5)] → W p l e ({ frames := 2, cells := 0, slots := 0, locals := 67 } : Room) s m args below meth c H locs 0 0 (MQ below (QL D cA bs (fun r u => ∃ R' L', u = (n, K, R', I, L') ∧ post r R' L')) args s 0 0 (Ab bs)) (F0 m 146 ls [])) ?_ H locs ls ho ha1 ha2 hM hS hl
  clear hw hM hS hl
  intro R L v3 v5 hw H locs ls ho ha1 ha2 hM hS hl
  refine lv_iload hx hb dX10_waysOf_146 (lv_at hl 3 rfl) ?_
  refine lv_aload_n hx hb dX10_waysOf_148 rfl (lv_at hl 1 rfl) ?_
  refine m_geti E hM fs_X10_61 ha1.1 dX10_waysOf_149 ?_
  refine lv_icmp_ge (tgt := 171) hx hb dX10_waysOf_152 (by decide) (fun cq => ?_) (fun cq => ?_)
  · have hw := hw.1 cq
    refine lv_lload_n hx hb dX10_waysOf_171 rfl (lv_at hl 2 rfl) ?_
    exact m_retl hx hb hr hlk hM hS ⟨_, _, rfl, hw⟩ dX10_waysOf_172
  · have hw := hw.2 cq
    refine lv_lload_n hx hb dX10_waysOf_155 rfl (lv_at hl 2 rfl) ?_
    refine lv_aload_n hx hb dX10_waysOf_156 rfl (lv_at hl 0 rfl) ?_
    obtain ⟨w17, hRw17, hKw17, hw⟩ := hw
    refine m_getr E hM fs_X10_18 ho.1 hRw17 dX10_waysOf_157 ?_
    refine lv_iload hx hb dX10_waysOf_160 (lv_at hl 3 rfl) ?_
    obtain ⟨hv, hw⟩ := hw
    refine m_lald E hM hKw17 hv dX10_waysOf_162 ?_
    refine lv_ladd hx hb dX10_waysOf_163 ?_
    refine lv_topl (fun x18 ex18 => ?_)
    have hw := hw x18 ex18
    refine lv_lstore_n (lv' := [(3, .long x18), (0, .ref (ad bs o)), (1, .ref (ad bs a1)), (5, .int v5)]) hx hb dX10_waysOf_164 rfl hl (by decide) rfl (fun ls hl => ?_)
    obtain ⟨x19, ex19⟩ : ∃ y : Int32, y = v5 + 1 := ⟨_, rfl⟩
    have hw := hw x19 ex19
    refine lv_iinc (v := x19) (lv' := [(5, .int x19), (3, .long x18), (0, .ref (ad bs o)), (1, .ref (ad bs a1))]) hx hb dX10_waysOf_165 hl (k := 3) rfl (by rw [ex19]; rfl) (by decide) rfl (fun ls hl => ?_)
    refine lv_goto (tgt := 146) hx hb dX10_waysOf_168 (by decide) ?_
    exact hw H locs ls ho ha1 ha2 hM hS (lv_sub hl [2, 3, 1, 0] rfl)
def w_X10_waysOf (K : mK) (R : mR) (I : mI) (L : mL) (o : Nat) (a1 : Nat) (a2 : Nat) (post : Int64 → mR → mL → Prop) : Prop := (¬ (I o 1) = 0 → (w_X10_waysOf_11 K I o a1 a2 post (w_X10_waysOf_51 K I o a1 a2 post (w_X10_waysOf_146 K I o a1 a2 post))) R L 0) ∧ ((I o 1) = 0 → post (1 : Int64) R L)
set_option maxRecDepth 100000 in
set_option maxHeartbeats 4000000 in
theorem c_X10_waysOf {l : Launch} {D : va_G} {cA : Nat → ClassId} {Z : mZ} {bs : Ad} {n : Nat} {K : mK} {R : mR} {I : mI} {L : mL} {o : Nat} {a1 : Nat} {a2 : Nat} {post : Int64 → mR → mL → Prop} (ho : isX10 K R o) (ha1 : isX3 K R a1) (ha2 : isX6 K R a2) (hw : w_X10_waysOf K R I L o a1 a2 post) : Met l yX10_waysOf (.code yX10_waysOf cX10_waysOf 6 (some .long) :: gw) ({ frames := 2, cells := 0, slots := 0, locals := 67 } : Room) (PreM D cA Z bs (n, K, R, I, L) [.ref (ad bs o), .ref (ad bs a1), .ref (ad bs a2)]) (QL D cA bs (fun r u => ∃ R' L', u = (n, K, R', I, L') ∧ post r R' L')) 0 0 (Ab bs) := by
  refine m_met (by decide) (Nat.le_of_ble_eq_true rfl) (fun p e s m below meth c ls E hr hlk hM hS hl => ?_)
  have E : Ev p s m _ c cX10_waysOf 6 RX10 D cA Z bs := E
  have hl : lv_has ls 6 [(0, .ref (ad bs o)), (1, .ref (ad bs a1)), (2, .ref (ad bs a2))] := hl
  have hx := E.1.1
  have hb := E.1.2.1
  generalize hHe : s.heap = H at hM ⊢
  have hS : va_S (Ab bs) s.heap H [] := by rw [← hHe]; exact va_S.rf
  clear hHe
  refine lv_aload_n hx hb dX10_waysOf_0 rfl (lv_at hl 0 rfl) ?_
  refine m_geti E hM fs_X10_84 ho.1 dX10_waysOf_1 ?_
  refine lv_if_ne (tgt := 9) hx hb dX10_waysOf_4 (by decide) (fun cq => ?_) (fun cq => ?_)
  · have hw := hw.1 cq
    refine lv_iconst (v := 0) hx hb dX10_waysOf_9 (by decide) ?_
    refine lv_istore_n (lv' := [(3, .int 0), (0, .ref (ad bs o)), (1, .ref (ad bs a1)), (2, .ref (ad bs a2))]) hx hb dX10_waysOf_10 rfl hl (by decide) rfl (fun ls hl => ?_)
    exact s_X10_waysOf_11 E hr hlk  (fun R L v3 H locs ls ho ha1 ha2 hw hM hS hl => s_X10_waysOf_51 E hr hlk  (fun R L v3 v5 H locs ls ho ha1 ha2 hw hM hS hl => s_X10_waysOf_146 E hr hlk  ho ha1 ha2 hw hM hS hl) ho ha1 ha2 hw hM hS hl) ho ha1 ha2 hw hM hS (lv_sub hl [1, 2, 3, 0] rfl)
  · have hw := hw.2 cq
    refine lv_lconst (v := 1) hx hb dX10_waysOf_7 (by decide) ?_
    exact m_retl hx hb hr hlk hM hS ⟨_, _, rfl, hw⟩ dX10_waysOf_8
theorem dX10_spread_0 : decode cX10_spread 0 = .ok (.iload_n 0, 1) := by decide +kernel
theorem dX10_spread_1 : decode cX10_spread 1 = .ok (.istore_n 2, 1) := by decide +kernel
theorem dX10_spread_2 : decode cX10_spread 2 = .ok (.iconst 1, 1) := by decide +kernel
theorem dX10_spread_3 : decode cX10_spread 3 = .ok (.istore_n 3, 1) := by decide +kernel
theorem dX10_spread_4 : decode cX10_spread 4 = .ok (.iload_n 3, 1) := by decide +kernel
theorem dX10_spread_5 : decode cX10_spread 5 = .ok (.iload_n 1, 1) := by decide +kernel
theorem dX10_spread_6 : decode cX10_spread 6 = .ok (.if_icmp .gt 25, 3) := by decide +kernel
theorem dX10_spread_9 : decode cX10_spread 9 = .ok (.iload_n 3, 1) := by decide +kernel
theorem dX10_spread_10 : decode cX10_spread 10 = .ok (.bipush 24, 2) := by decide +kernel
theorem dX10_spread_12 : decode cX10_spread 12 = .ok (.if_icmp .ge 19, 3) := by decide +kernel
theorem dX10_spread_15 : decode cX10_spread 15 = .ok (.iload_n 2, 1) := by decide +kernel
theorem dX10_spread_16 : decode cX10_spread 16 = .ok (.iload_n 0, 1) := by decide +kernel
theorem dX10_spread_17 : decode cX10_spread 17 = .ok (.iload_n 3, 1) := by decide +kernel
theorem dX10_spread_18 : decode cX10_spread 18 = .ok (.ishl, 1) := by decide +kernel
theorem dX10_spread_19 : decode cX10_spread 19 = .ok (.iload_n 0, 1) := by decide +kernel
theorem dX10_spread_20 : decode cX10_spread 20 = .ok (.iload_n 3, 1) := by decide +kernel
theorem dX10_spread_21 : decode cX10_spread 21 = .ok (.iushr, 1) := by decide +kernel
theorem dX10_spread_22 : decode cX10_spread 22 = .ok (.ior, 1) := by decide +kernel
theorem dX10_spread_23 : decode cX10_spread 23 = .ok (.ior, 1) := by decide +kernel
theorem dX10_spread_24 : decode cX10_spread 24 = .ok (.istore_n 2, 1) := by decide +kernel
theorem dX10_spread_25 : decode cX10_spread 25 = .ok (.iinc 3 1, 3) := by decide +kernel
theorem dX10_spread_28 : decode cX10_spread 28 = .ok (.goto (-24), 3) := by decide +kernel
theorem dX10_spread_31 : decode cX10_spread 31 = .ok (.iload_n 2, 1) := by decide +kernel
theorem dX10_spread_32 : decode cX10_spread 32 = .ok (.ireturn, 1) := by decide +kernel
def w_X10_spread_4 (a1 : Int32) (a2 : Int32) (post : Int32 → Prop) (v2 : Int32) (v3 : Int32) : Prop := ∀ ZZ : (Int32 → Int32 → Prop), (∀ (v2 : Int32) (v3 : Int32), ((a2 < v3 → post v2) ∧ (¬ a2 < v3 → (24 ≤ v3 → post v2) ∧ (¬ 24 ≤ v3 → ∀ x1, x1 = (v2 ||| ((a1 <<< (v3 &&& 31)) ||| (iushr a1 v3))) → ∀ x2, x2 = v3 + 1 → ZZ x1 x2))) → ZZ v2 v3) → ZZ v2 v3
set_option maxRecDepth 100000 in
set_option maxHeartbeats 4000000 in
theorem s_X10_spread_4 {p : Program} {l : Launch} {e : Env} {s : State} {m : MethodId} {args : Array Value} {below : List Frame} {meth : Method} {c : Code} {D : va_G} {cA : Nat → ClassId} {Z : mZ} {bs : Ad} {n : Nat} {K : mK} {R : mR} {I : mI} {L : mL} (E : Ev p s m args c cX10_spread 4 RX10 D cA Z bs) (hr : meth.sig.returnType = (some .int)) (hlk : meth.locks = false) {a1 : Int32} {a2 : Int32}  {post : Int32 → Prop} {v2 : Int32} {v3 : Int32} {H : Heap} {locs : List Loc} {ls : Array Slot} (hw : w_X10_spread_4 a1 a2 post v2 v3) (hM : mm D cA bs (n, K, R, I, L) H) (hS : va_S (Ab bs) s.heap H locs) (hl : lv_has ls 4 [(0, .int a1), (1, .int a2), (2, .int v2), (3, .int v3)]) : W p l e ({ frames := 0, cells := 0, slots := 0, locals := 0 } : Room) s m args below meth c H locs 0 0 (MQ below (QI D cA bs (fun r u => u = (n, K, R, I, L) ∧ post r)) args s 0 0 (Ab bs)) (F0 m 4 ls []) := by
  have hx := E.1.1
  have hb := E.1.2.1
  refine hw (fun v2 v3 => ∀ (H : Heap) (locs : List Loc) (ls : Array Slot), mm D cA bs (n, K, R, I, L) H → va_S (Ab bs) s.heap H locs → lv_has ls 4 [(0, .int a1), (1, .int a2), (2, .int v2), (3, .int v3)] → W p l e ({ frames := 0, cells := 0, slots := 0, locals := 0 } : Room) s m args below meth c H locs 0 0 (MQ below (QI D cA bs (fun r u => u = (n, K, R, I, L) ∧ post r)) args s 0 0 (Ab bs)) (F0 m 4 ls [])) ?_ H locs ls hM hS hl
  clear hw hM hS hl
  intro v2 v3 hw H locs ls hM hS hl
  refine lv_iload_n hx hb dX10_spread_4 rfl (lv_at hl 3 rfl) ?_
  refine lv_iload_n hx hb dX10_spread_5 rfl (lv_at hl 1 rfl) ?_
  refine lv_icmp_gt (tgt := 31) hx hb dX10_spread_6 (by decide) (fun cq => ?_) (fun cq => ?_)
  · have hw := hw.1 cq
    refine lv_iload_n hx hb dX10_spread_31 rfl (lv_at hl 2 rfl) ?_
    exact m_reti hx hb hr hlk hM hS ⟨rfl, hw⟩ dX10_spread_32
  · have hw := hw.2 cq
    refine lv_iload_n hx hb dX10_spread_9 rfl (lv_at hl 3 rfl) ?_
    refine lv_bipush (v := 24) hx hb dX10_spread_10 (by decide) ?_
    refine lv_icmp_ge (tgt := 31) hx hb dX10_spread_12 (by decide) (fun cq => ?_) (fun cq => ?_)
    · have hw := hw.1 cq
      refine lv_iload_n hx hb dX10_spread_31 rfl (lv_at hl 2 rfl) ?_
      exact m_reti hx hb hr hlk hM hS ⟨rfl, hw⟩ dX10_spread_32
    · have hw := hw.2 cq
      refine lv_iload_n hx hb dX10_spread_15 rfl (lv_at hl 2 rfl) ?_
      refine lv_iload_n hx hb dX10_spread_16 rfl (lv_at hl 0 rfl) ?_
      refine lv_iload_n hx hb dX10_spread_17 rfl (lv_at hl 3 rfl) ?_
      refine lv_ishl hx hb dX10_spread_18 ?_
      refine lv_iload_n hx hb dX10_spread_19 rfl (lv_at hl 0 rfl) ?_
      refine lv_iload_n hx hb dX10_spread_20 rfl (lv_at hl 3 rfl) ?_
      refine lv_iushr hx hb dX10_spread_21 rfl ?_
      refine lv_ior hx hb dX10_spread_22 ?_
      refine lv_ior hx hb dX10_spread_23 ?_
      refine lv_topi (fun x1 ex1 => ?_)
      have hw := hw x1 ex1
      refine lv_istore_n (lv' := [(2, .int x1), (0, .int a1), (1, .int a2), (3, .int v3)]) hx hb dX10_spread_24 rfl hl (by decide) rfl (fun ls hl => ?_)
      obtain ⟨x2, ex2⟩ : ∃ y : Int32, y = v3 + 1 := ⟨_, rfl⟩
      have hw := hw x2 ex2
      refine lv_iinc (v := x2) (lv' := [(3, .int x2), (2, .int x1), (0, .int a1), (1, .int a2)]) hx hb dX10_spread_25 hl (k := 3) rfl (by rw [ex2]; rfl) (by decide) rfl (fun ls hl => ?_)
      refine lv_goto (tgt := 4) hx hb dX10_spread_28 (by decide) ?_
      exact hw H locs ls  hM hS (lv_sub hl [2, 3, 1, 0] rfl)
def w_X10_spread (a1 : Int32) (a2 : Int32) (post : Int32 → Prop) : Prop := (w_X10_spread_4 a1 a2 post) a1 1
set_option maxRecDepth 100000 in
set_option maxHeartbeats 4000000 in
theorem c_X10_spread {l : Launch} {D : va_G} {cA : Nat → ClassId} {Z : mZ} {bs : Ad} {n : Nat} {K : mK} {R : mR} {I : mI} {L : mL} {a1 : Int32} {a2 : Int32} {post : Int32 → Prop}  (hw : w_X10_spread a1 a2 post) : Met l yX10_spread (.code yX10_spread cX10_spread 4 (some .int) :: gw) ({ frames := 0, cells := 0, slots := 0, locals := 0 } : Room) (PreM D cA Z bs (n, K, R, I, L) [.int a1, .int a2]) (QI D cA bs (fun r u => u = (n, K, R, I, L) ∧ post r)) 0 0 (Ab bs) := by
  refine m_met (by decide) (Nat.le_of_ble_eq_true rfl) (fun p e s m below meth c ls E hr hlk hM hS hl => ?_)
  have E : Ev p s m _ c cX10_spread 4 RX10 D cA Z bs := E
  have hl : lv_has ls 4 [(0, .int a1), (1, .int a2)] := hl
  have hx := E.1.1
  have hb := E.1.2.1
  generalize hHe : s.heap = H at hM ⊢
  have hS : va_S (Ab bs) s.heap H [] := by rw [← hHe]; exact va_S.rf
  clear hHe
  refine lv_iload_n hx hb dX10_spread_0 rfl (lv_at hl 0 rfl) ?_
  refine lv_istore_n (lv' := [(2, .int a1), (0, .int a1), (1, .int a2)]) hx hb dX10_spread_1 rfl hl (by decide) rfl (fun ls hl => ?_)
  refine lv_iconst (v := 1) hx hb dX10_spread_2 (by decide) ?_
  refine lv_istore_n (lv' := [(3, .int 1), (2, .int a1), (0, .int a1), (1, .int a2)]) hx hb dX10_spread_3 rfl hl (by decide) rfl (fun ls hl => ?_)
  exact s_X10_spread_4 E hr hlk   hw hM hS (lv_sub hl [2, 3, 1, 0] rfl)
theorem dX10_narrow_0 : decode cX10_narrow 0 = .ok (.iconst 1, 1) := by decide +kernel
theorem dX10_narrow_1 : decode cX10_narrow 1 = .ok (.istore_n 2, 1) := by decide +kernel
theorem dX10_narrow_2 : decode cX10_narrow 2 = .ok (.iload_n 2, 1) := by decide +kernel
theorem dX10_narrow_3 : decode cX10_narrow 3 = .ok (.aload_n 0, 1) := by decide +kernel
theorem dX10_narrow_4 : decode cX10_narrow 4 = .ok (.getfield 84, 3) := by decide +kernel
theorem dX10_narrow_7 : decode cX10_narrow 7 = .ok (.if_icmp .ge 35, 3) := by decide +kernel
theorem dX10_narrow_10 : decode cX10_narrow 10 = .ok (.aload_n 0, 1) := by decide +kernel
theorem dX10_narrow_11 : decode cX10_narrow 11 = .ok (.getfield 15, 3) := by decide +kernel
theorem dX10_narrow_14 : decode cX10_narrow 14 = .ok (.iload_n 2, 1) := by decide +kernel
theorem dX10_narrow_15 : decode cX10_narrow 15 = .ok (.dup2, 1) := by decide +kernel
theorem dX10_narrow_16 : decode cX10_narrow 16 = .ok (.iaload, 1) := by decide +kernel
theorem dX10_narrow_17 : decode cX10_narrow 17 = .ok (.aload_n 0, 1) := by decide +kernel
theorem dX10_narrow_18 : decode cX10_narrow 18 = .ok (.getfield 15, 3) := by decide +kernel
theorem dX10_narrow_21 : decode cX10_narrow 21 = .ok (.iload_n 2, 1) := by decide +kernel
theorem dX10_narrow_22 : decode cX10_narrow 22 = .ok (.iconst 1, 1) := by decide +kernel
theorem dX10_narrow_23 : decode cX10_narrow 23 = .ok (.isub, 1) := by decide +kernel
theorem dX10_narrow_24 : decode cX10_narrow 24 = .ok (.iaload, 1) := by decide +kernel
theorem dX10_narrow_25 : decode cX10_narrow 25 = .ok (.aload_n 0, 1) := by decide +kernel
theorem dX10_narrow_26 : decode cX10_narrow 26 = .ok (.aload_n 1, 1) := by decide +kernel
theorem dX10_narrow_27 : decode cX10_narrow 27 = .ok (.iload_n 2, 1) := by decide +kernel
theorem dX10_narrow_28 : decode cX10_narrow 28 = .ok (.invokevirtual 95, 3) := by decide +kernel
theorem dX10_narrow_31 : decode cX10_narrow 31 = .ok (.invokestatic 111, 3) := by decide +kernel
theorem dX10_narrow_34 : decode cX10_narrow 34 = .ok (.iand, 1) := by decide +kernel
theorem dX10_narrow_35 : decode cX10_narrow 35 = .ok (.iastore, 1) := by decide +kernel
theorem dX10_narrow_36 : decode cX10_narrow 36 = .ok (.iinc 2 1, 3) := by decide +kernel
theorem dX10_narrow_39 : decode cX10_narrow 39 = .ok (.goto (-37), 3) := by decide +kernel
theorem dX10_narrow_42 : decode cX10_narrow 42 = .ok (.aload_n 0, 1) := by decide +kernel
theorem dX10_narrow_43 : decode cX10_narrow 43 = .ok (.getfield 84, 3) := by decide +kernel
theorem dX10_narrow_46 : decode cX10_narrow 46 = .ok (.iconst 1, 1) := by decide +kernel
theorem dX10_narrow_47 : decode cX10_narrow 47 = .ok (.isub, 1) := by decide +kernel
theorem dX10_narrow_48 : decode cX10_narrow 48 = .ok (.istore_n 2, 1) := by decide +kernel
theorem dX10_narrow_49 : decode cX10_narrow 49 = .ok (.iload_n 2, 1) := by decide +kernel
theorem dX10_narrow_50 : decode cX10_narrow 50 = .ok (.ifCond .le 35, 3) := by decide +kernel
theorem dX10_narrow_53 : decode cX10_narrow 53 = .ok (.aload_n 0, 1) := by decide +kernel
theorem dX10_narrow_54 : decode cX10_narrow 54 = .ok (.getfield 15, 3) := by decide +kernel
theorem dX10_narrow_57 : decode cX10_narrow 57 = .ok (.iload_n 2, 1) := by decide +kernel
theorem dX10_narrow_58 : decode cX10_narrow 58 = .ok (.iconst 1, 1) := by decide +kernel
theorem dX10_narrow_59 : decode cX10_narrow 59 = .ok (.isub, 1) := by decide +kernel
theorem dX10_narrow_60 : decode cX10_narrow 60 = .ok (.dup2, 1) := by decide +kernel
theorem dX10_narrow_61 : decode cX10_narrow 61 = .ok (.iaload, 1) := by decide +kernel
theorem dX10_narrow_62 : decode cX10_narrow 62 = .ok (.aload_n 0, 1) := by decide +kernel
theorem dX10_narrow_63 : decode cX10_narrow 63 = .ok (.getfield 15, 3) := by decide +kernel
theorem dX10_narrow_66 : decode cX10_narrow 66 = .ok (.iload_n 2, 1) := by decide +kernel
theorem dX10_narrow_67 : decode cX10_narrow 67 = .ok (.iaload, 1) := by decide +kernel
theorem dX10_narrow_68 : decode cX10_narrow 68 = .ok (.aload_n 0, 1) := by decide +kernel
theorem dX10_narrow_69 : decode cX10_narrow 69 = .ok (.aload_n 1, 1) := by decide +kernel
theorem dX10_narrow_70 : decode cX10_narrow 70 = .ok (.iload_n 2, 1) := by decide +kernel
theorem dX10_narrow_71 : decode cX10_narrow 71 = .ok (.invokevirtual 95, 3) := by decide +kernel
theorem dX10_narrow_74 : decode cX10_narrow 74 = .ok (.invokestatic 111, 3) := by decide +kernel
theorem dX10_narrow_77 : decode cX10_narrow 77 = .ok (.iand, 1) := by decide +kernel
theorem dX10_narrow_78 : decode cX10_narrow 78 = .ok (.iastore, 1) := by decide +kernel
theorem dX10_narrow_79 : decode cX10_narrow 79 = .ok (.iinc 2 (-1), 3) := by decide +kernel
theorem dX10_narrow_82 : decode cX10_narrow 82 = .ok (.goto (-33), 3) := by decide +kernel
theorem dX10_narrow_85 : decode cX10_narrow 85 = .ok (.return_, 1) := by decide +kernel
def w_X10_narrow_2 (o : Nat) (a1 : Nat) (post : mI → Prop) (k49 : mI → Int32 → Prop) (I : mI) (v2 : Int32) : Prop := ∀ ZZ : (mI → Int32 → Prop), (∀ (I : mI) (v2 : Int32), (((I o 1) ≤ v2 → ∀ x1, x1 = ((I o 1) - 1) → k49 I x1) ∧ (¬ (I o 1) ≤ v2 → vp_in v2 10 ∧ vp_in (v2 - 1) 10 ∧ w_X10_reachTo I o a1 v2 (fun r2 => w_X10_spread (I (o + 2) (v2 - 1).toNatClampNeg) r2 (fun r3 => vp_in v2 10 ∧ ∀ I4, I4 = up2 I (o + 2) v2.toNatClampNeg ((I (o + 2) v2.toNatClampNeg) &&& r3) → ∀ x5, x5 = v2 + 1 → ZZ I4 x5)))) → ZZ I v2) → ZZ I v2
set_option maxRecDepth 100000 in
set_option maxHeartbeats 4000000 in
theorem s_X10_narrow_2 {p : Program} {l : Launch} {e : Env} {s : State} {m : MethodId} {args : Array Value} {below : List Frame} {meth : Method} {c : Code} {D : va_G} {cA : Nat → ClassId} {Z : mZ} {bs : Ad} {n : Nat} {K : mK} {R : mR} {L : mL} (E : Ev p s m args c cX10_narrow 3 RX10 D cA Z bs) (hr : meth.sig.returnType = none) (hlk : meth.locks = false) {o : Nat} {a1 : Nat} (ho : isX10 K R o) (ha1 : isX6 K R a1) {post : mI → Prop} {k49 : mI → Int32 → Prop} (hk49 : ∀ (I : mI) (v2 : Int32) (H : Heap) (locs : List Loc) (ls : Array Slot), k49 I v2 → mm D cA bs (n, K, R, I, L) H → va_S (Ab bs) s.heap H locs → lv_has ls 3 [(0, .ref (ad bs o)), (1, .ref (ad bs a1)), (2, .int v2)] → W p l e ({ frames := 1, cells := 0, slots := 0, locals := 23 } : Room) s m args below meth c H locs 0 0 (MQ below (QV D cA bs (fun u => ∃ I', u = (n, K, R, I', L) ∧ post I')) args s 0 0 (Ab bs)) (F0 m 49 ls [])) {I : mI} {v2 : Int32} {H : Heap} {locs : List Loc} {ls : Array Slot} (hw : w_X10_narrow_2 o a1 post k49 I v2) (hM : mm D cA bs (n, K, R, I, L) H) (hS : va_S (Ab bs) s.heap H locs) (hl : lv_has ls 3 [(0, .ref (ad bs o)), (1, .ref (ad bs a1)), (2, .int v2)]) : W p l e ({ frames := 1, cells := 0, slots := 0, locals := 23 } : Room) s m args below meth c H locs 0 0 (MQ below (QV D cA bs (fun u => ∃ I', u = (n, K, R, I', L) ∧ post I')) args s 0 0 (Ab bs)) (F0 m 2 ls []) := by
  have hx := E.1.1
  have hb := E.1.2.1
  refine hw (fun I v2 => ∀ (H : Heap) (locs : List Loc) (ls : Array Slot), mm D cA bs (n, K, R, I, L) H → va_S (Ab bs) s.heap H locs → lv_has ls 3 [(0, .ref (ad bs o)), (1, .ref (ad bs a1)), (2, .int v2)] → W p l e ({ frames := 1, cells := 0, slots := 0, locals := 23 } : Room) s m args below meth c H locs 0 0 (MQ below (QV D cA bs (fun u => ∃ I', u = (n, K, R, I', L) ∧ post I')) args s 0 0 (Ab bs)) (F0 m 2 ls [])) ?_ H locs ls hM hS hl
  clear hw hM hS hl
  intro I v2 hw H locs ls hM hS hl
  refine lv_iload_n hx hb dX10_narrow_2 rfl (lv_at hl 2 rfl) ?_
  refine lv_aload_n hx hb dX10_narrow_3 rfl (lv_at hl 0 rfl) ?_
  refine m_geti E hM fs_X10_84 ho.1 dX10_narrow_4 ?_
  refine lv_icmp_ge (tgt := 42) hx hb dX10_narrow_7 (by decide) (fun cq => ?_) (fun cq => ?_)
  · have hw := hw.1 cq
    refine lv_aload_n hx hb dX10_narrow_42 rfl (lv_at hl 0 rfl) ?_
    refine m_geti E hM fs_X10_84 ho.1 dX10_narrow_43 ?_
    refine lv_iconst (v := 1) hx hb dX10_narrow_46 (by decide) ?_
    refine lv_isub hx hb dX10_narrow_47 ?_
    refine lv_topi (fun x1 ex1 => ?_)
    have hw := hw x1 ex1
    refine lv_istore_n (lv' := [(2, .int x1), (0, .ref (ad bs o)), (1, .ref (ad bs a1))]) hx hb dX10_narrow_48 rfl hl (by decide) rfl (fun ls hl => ?_)
    exact hk49 _ _ H locs ls  hw hM hS (lv_sub hl [1, 2, 0] rfl)
  · have hw := hw.2 cq
    refine lv_aload_n hx hb dX10_narrow_10 rfl (lv_at hl 0 rfl) ?_
    refine m_getr E hM fs_X10_15 ho.1 (isO_at ho 1 rfl).1 dX10_narrow_11 ?_
    refine lv_iload_n hx hb dX10_narrow_14 rfl (lv_at hl 2 rfl) ?_
    refine lv_dup2_11 hx hb dX10_narrow_15 rfl rfl ?_
    obtain ⟨hv, hw⟩ := hw
    refine m_iald E hM (isO_at ho 1 rfl).2 hv dX10_narrow_16 ?_
    refine lv_aload_n hx hb dX10_narrow_17 rfl (lv_at hl 0 rfl) ?_
    refine m_getr E hM fs_X10_15 ho.1 (isO_at ho 1 rfl).1 dX10_narrow_18 ?_
    refine lv_iload_n hx hb dX10_narrow_21 rfl (lv_at hl 2 rfl) ?_
    refine lv_iconst (v := 1) hx hb dX10_narrow_22 (by decide) ?_
    refine lv_isub hx hb dX10_narrow_23 ?_
    obtain ⟨hv, hw⟩ := hw
    refine m_iald E hM (isO_at ho 1 rfl).2 hv dX10_narrow_24 ?_
    refine lv_aload_n hx hb dX10_narrow_25 rfl (lv_at hl 0 rfl) ?_
    refine lv_aload_n hx hb dX10_narrow_26 rfl (lv_at hl 1 rfl) ?_
    refine lv_iload_n hx hb dX10_narrow_27 rfl (lv_at hl 2 rfl) ?_
    refine m_ci (m_runV E hM hS cs_X10_95 ho.1 (by decide) rfl rfl (c_X10_reachTo ho ha1 hw) rfl rfl ⟨Nat.le_of_ble_eq_true rfl, Nat.le_of_ble_eq_true rfl⟩ rfl hl.1 rfl (Nat.le_of_ble_eq_true rfl) dX10_narrow_28 ⟨Nat.le_of_ble_eq_true rfl, Nat.le_of_ble_eq_true rfl⟩) hS (fun r2 u H locs hp hM hS => ?_)
    obtain ⟨rfl, hw⟩ := hp
    refine m_ci (m_runS E hM hS cs_X10_111 (c_X10_spread  hw) rfl rfl ⟨Nat.le_of_ble_eq_true rfl, Nat.le_of_ble_eq_true rfl⟩ rfl hl.1 rfl (Nat.le_of_ble_eq_true rfl) dX10_narrow_31 ⟨Nat.le_of_ble_eq_true rfl, Nat.le_of_ble_eq_true rfl⟩) hS (fun r3 u H locs hp hM hS => ?_)
    obtain ⟨rfl, hw⟩ := hp
    refine lv_iand hx hb dX10_narrow_34 ?_
    obtain ⟨hv, hw⟩ := hw
    refine m_iast E hM hS (isO_at ho 1 rfl).2 hv dX10_narrow_35 (fun I4 H locs eI4 hM hS => ?_)
    have hw := hw I4 eI4
    obtain ⟨x5, ex5⟩ : ∃ y : Int32, y = v2 + 1 := ⟨_, rfl⟩
    have hw := hw x5 ex5
    refine lv_iinc (v := x5) (lv' := [(2, .int x5), (0, .ref (ad bs o)), (1, .ref (ad bs a1))]) hx hb dX10_narrow_36 hl (k := 2) rfl (by rw [ex5]; rfl) (by decide) rfl (fun ls hl => ?_)
    refine lv_goto (tgt := 2) hx hb dX10_narrow_39 (by decide) ?_
    exact hw H locs ls  hM hS (lv_sub hl [1, 2, 0] rfl)
def w_X10_narrow_49 (o : Nat) (a1 : Nat) (post : mI → Prop) (I : mI) (v2 : Int32) : Prop := ∀ ZZ : (mI → Int32 → Prop), (∀ (I : mI) (v2 : Int32), ((v2 ≤ 0 → post I) ∧ (¬ v2 ≤ 0 → vp_in (v2 - 1) 10 ∧ vp_in v2 10 ∧ w_X10_reachTo I o a1 v2 (fun r6 => w_X10_spread (I (o + 2) v2.toNatClampNeg) r6 (fun r7 => vp_in (v2 - 1) 10 ∧ ∀ I8, I8 = up2 I (o + 2) ((v2 - 1).toNatClampNeg) ((I (o + 2) (v2 - 1).toNatClampNeg) &&& r7) → ∀ x9, x9 = v2 + (-1) → ZZ I8 x9)))) → ZZ I v2) → ZZ I v2
set_option maxRecDepth 100000 in
set_option maxHeartbeats 4000000 in
theorem s_X10_narrow_49 {p : Program} {l : Launch} {e : Env} {s : State} {m : MethodId} {args : Array Value} {below : List Frame} {meth : Method} {c : Code} {D : va_G} {cA : Nat → ClassId} {Z : mZ} {bs : Ad} {n : Nat} {K : mK} {R : mR} {L : mL} (E : Ev p s m args c cX10_narrow 3 RX10 D cA Z bs) (hr : meth.sig.returnType = none) (hlk : meth.locks = false) {o : Nat} {a1 : Nat} (ho : isX10 K R o) (ha1 : isX6 K R a1) {post : mI → Prop} {I : mI} {v2 : Int32} {H : Heap} {locs : List Loc} {ls : Array Slot} (hw : w_X10_narrow_49 o a1 post I v2) (hM : mm D cA bs (n, K, R, I, L) H) (hS : va_S (Ab bs) s.heap H locs) (hl : lv_has ls 3 [(0, .ref (ad bs o)), (1, .ref (ad bs a1)), (2, .int v2)]) : W p l e ({ frames := 1, cells := 0, slots := 0, locals := 23 } : Room) s m args below meth c H locs 0 0 (MQ below (QV D cA bs (fun u => ∃ I', u = (n, K, R, I', L) ∧ post I')) args s 0 0 (Ab bs)) (F0 m 49 ls []) := by
  have hx := E.1.1
  have hb := E.1.2.1
  refine hw (fun I v2 => ∀ (H : Heap) (locs : List Loc) (ls : Array Slot), mm D cA bs (n, K, R, I, L) H → va_S (Ab bs) s.heap H locs → lv_has ls 3 [(0, .ref (ad bs o)), (1, .ref (ad bs a1)), (2, .int v2)] → W p l e ({ frames := 1, cells := 0, slots := 0, locals := 23 } : Room) s m args below meth c H locs 0 0 (MQ below (QV D cA bs (fun u => ∃ I', u = (n, K, R, I', L) ∧ post I')) args s 0 0 (Ab bs)) (F0 m 49 ls [])) ?_ H locs ls hM hS hl
  clear hw hM hS hl
  intro I v2 hw H locs ls hM hS hl
  refine lv_iload_n hx hb dX10_narrow_49 rfl (lv_at hl 2 rfl) ?_
  refine lv_if_le (tgt := 85) hx hb dX10_narrow_50 (by decide) (fun cq => ?_) (fun cq => ?_)
  · have hw := hw.1 cq
    exact m_retv hx hb hr hlk hM hS ⟨_, rfl, hw⟩ dX10_narrow_85
  · have hw := hw.2 cq
    refine lv_aload_n hx hb dX10_narrow_53 rfl (lv_at hl 0 rfl) ?_
    refine m_getr E hM fs_X10_15 ho.1 (isO_at ho 1 rfl).1 dX10_narrow_54 ?_
    refine lv_iload_n hx hb dX10_narrow_57 rfl (lv_at hl 2 rfl) ?_
    refine lv_iconst (v := 1) hx hb dX10_narrow_58 (by decide) ?_
    refine lv_isub hx hb dX10_narrow_59 ?_
    refine lv_dup2_11 hx hb dX10_narrow_60 rfl rfl ?_
    obtain ⟨hv, hw⟩ := hw
    refine m_iald E hM (isO_at ho 1 rfl).2 hv dX10_narrow_61 ?_
    refine lv_aload_n hx hb dX10_narrow_62 rfl (lv_at hl 0 rfl) ?_
    refine m_getr E hM fs_X10_15 ho.1 (isO_at ho 1 rfl).1 dX10_narrow_63 ?_
    refine lv_iload_n hx hb dX10_narrow_66 rfl (lv_at hl 2 rfl) ?_
    obtain ⟨hv, hw⟩ := hw
    refine m_iald E hM (isO_at ho 1 rfl).2 hv dX10_narrow_67 ?_
    refine lv_aload_n hx hb dX10_narrow_68 rfl (lv_at hl 0 rfl) ?_
    refine lv_aload_n hx hb dX10_narrow_69 rfl (lv_at hl 1 rfl) ?_
    refine lv_iload_n hx hb dX10_narrow_70 rfl (lv_at hl 2 rfl) ?_
    refine m_ci (m_runV E hM hS cs_X10_95 ho.1 (by decide) rfl rfl (c_X10_reachTo ho ha1 hw) rfl rfl ⟨Nat.le_of_ble_eq_true rfl, Nat.le_of_ble_eq_true rfl⟩ rfl hl.1 rfl (Nat.le_of_ble_eq_true rfl) dX10_narrow_71 ⟨Nat.le_of_ble_eq_true rfl, Nat.le_of_ble_eq_true rfl⟩) hS (fun r6 u H locs hp hM hS => ?_)
    obtain ⟨rfl, hw⟩ := hp
    refine m_ci (m_runS E hM hS cs_X10_111 (c_X10_spread  hw) rfl rfl ⟨Nat.le_of_ble_eq_true rfl, Nat.le_of_ble_eq_true rfl⟩ rfl hl.1 rfl (Nat.le_of_ble_eq_true rfl) dX10_narrow_74 ⟨Nat.le_of_ble_eq_true rfl, Nat.le_of_ble_eq_true rfl⟩) hS (fun r7 u H locs hp hM hS => ?_)
    obtain ⟨rfl, hw⟩ := hp
    refine lv_iand hx hb dX10_narrow_77 ?_
    obtain ⟨hv, hw⟩ := hw
    refine m_iast E hM hS (isO_at ho 1 rfl).2 hv dX10_narrow_78 (fun I8 H locs eI8 hM hS => ?_)
    have hw := hw I8 eI8
    obtain ⟨x9, ex9⟩ : ∃ y : Int32, y = v2 + (-1) := ⟨_, rfl⟩
    have hw := hw x9 ex9
    refine lv_iinc (v := x9) (lv' := [(2, .int x9), (0, .ref (ad bs o)), (1, .ref (ad bs a1))]) hx hb dX10_narrow_79 hl (k := 2) rfl (by rw [ex9]; rfl) (by decide) rfl (fun ls hl => ?_)
    refine lv_goto (tgt := 49) hx hb dX10_narrow_82 (by decide) ?_
    exact hw H locs ls  hM hS (lv_sub hl [1, 2, 0] rfl)
def w_X10_narrow (I : mI) (o : Nat) (a1 : Nat) (post : mI → Prop) : Prop := (w_X10_narrow_2 o a1 post (w_X10_narrow_49 o a1 post)) I 1
set_option maxRecDepth 100000 in
set_option maxHeartbeats 4000000 in
theorem c_X10_narrow {l : Launch} {D : va_G} {cA : Nat → ClassId} {Z : mZ} {bs : Ad} {n : Nat} {K : mK} {R : mR} {I : mI} {L : mL} {o : Nat} {a1 : Nat} {post : mI → Prop} (ho : isX10 K R o) (ha1 : isX6 K R a1) (hw : w_X10_narrow I o a1 post) : Met l yX10_narrow (.code yX10_narrow cX10_narrow 3 none :: gw) ({ frames := 1, cells := 0, slots := 0, locals := 23 } : Room) (PreM D cA Z bs (n, K, R, I, L) [.ref (ad bs o), .ref (ad bs a1)]) (QV D cA bs (fun u => ∃ I', u = (n, K, R, I', L) ∧ post I')) 0 0 (Ab bs) := by
  refine m_met (by decide) (Nat.le_of_ble_eq_true rfl) (fun p e s m below meth c ls E hr hlk hM hS hl => ?_)
  have E : Ev p s m _ c cX10_narrow 3 RX10 D cA Z bs := E
  have hl : lv_has ls 3 [(0, .ref (ad bs o)), (1, .ref (ad bs a1))] := hl
  have hx := E.1.1
  have hb := E.1.2.1
  generalize hHe : s.heap = H at hM ⊢
  have hS : va_S (Ab bs) s.heap H [] := by rw [← hHe]; exact va_S.rf
  clear hHe
  refine lv_iconst (v := 1) hx hb dX10_narrow_0 (by decide) ?_
  refine lv_istore_n (lv' := [(2, .int 1), (0, .ref (ad bs o)), (1, .ref (ad bs a1))]) hx hb dX10_narrow_1 rfl hl (by decide) rfl (fun ls hl => ?_)
  exact s_X10_narrow_2 E hr hlk ho ha1 (fun I v2 H locs ls  hw hM hS hl => s_X10_narrow_49 E hr hlk ho ha1  hw hM hS hl)  hw hM hS (lv_sub hl [1, 2, 0] rfl)
theorem dX10_spotsOf_0 : decode cX10_spotsOf 0 = .ok (.iconst 0, 1) := by decide +kernel
theorem dX10_spotsOf_1 : decode cX10_spotsOf 1 = .ok (.istore_n 2, 1) := by decide +kernel
theorem dX10_spotsOf_2 : decode cX10_spotsOf 2 = .ok (.iload_n 2, 1) := by decide +kernel
theorem dX10_spotsOf_3 : decode cX10_spotsOf 3 = .ok (.aload_n 0, 1) := by decide +kernel
theorem dX10_spotsOf_4 : decode cX10_spotsOf 4 = .ok (.getfield 84, 3) := by decide +kernel
theorem dX10_spotsOf_7 : decode cX10_spotsOf 7 = .ok (.if_icmp .ge 26, 3) := by decide +kernel
theorem dX10_spotsOf_10 : decode cX10_spotsOf 10 = .ok (.aload_n 0, 1) := by decide +kernel
theorem dX10_spotsOf_11 : decode cX10_spotsOf 11 = .ok (.getfield 9, 3) := by decide +kernel
theorem dX10_spotsOf_14 : decode cX10_spotsOf 14 = .ok (.iload_n 2, 1) := by decide +kernel
theorem dX10_spotsOf_15 : decode cX10_spotsOf 15 = .ok (.iaload, 1) := by decide +kernel
theorem dX10_spotsOf_16 : decode cX10_spotsOf 16 = .ok (.iload_n 1, 1) := by decide +kernel
theorem dX10_spotsOf_17 : decode cX10_spotsOf 17 = .ok (.if_icmp .ne 10, 3) := by decide +kernel
theorem dX10_spotsOf_20 : decode cX10_spotsOf 20 = .ok (.aload_n 0, 1) := by decide +kernel
theorem dX10_spotsOf_21 : decode cX10_spotsOf 21 = .ok (.getfield 15, 3) := by decide +kernel
theorem dX10_spotsOf_24 : decode cX10_spotsOf 24 = .ok (.iload_n 2, 1) := by decide +kernel
theorem dX10_spotsOf_25 : decode cX10_spotsOf 25 = .ok (.iaload, 1) := by decide +kernel
theorem dX10_spotsOf_26 : decode cX10_spotsOf 26 = .ok (.ireturn, 1) := by decide +kernel
theorem dX10_spotsOf_27 : decode cX10_spotsOf 27 = .ok (.iinc 2 1, 3) := by decide +kernel
theorem dX10_spotsOf_30 : decode cX10_spotsOf 30 = .ok (.goto (-28), 3) := by decide +kernel
theorem dX10_spotsOf_33 : decode cX10_spotsOf 33 = .ok (.iconst 0, 1) := by decide +kernel
theorem dX10_spotsOf_34 : decode cX10_spotsOf 34 = .ok (.ireturn, 1) := by decide +kernel
def w_X10_spotsOf_2 (I : mI) (o : Nat) (a1 : Int32) (post : Int32 → Prop) (v2 : Int32) : Prop := ∀ ZZ : (Int32 → Prop), (∀ (v2 : Int32), (((I o 1) ≤ v2 → post 0) ∧ (¬ (I o 1) ≤ v2 → vp_in v2 10 ∧ (¬ (I (o + 1) v2.toNatClampNeg) = a1 → ∀ x1, x1 = v2 + 1 → ZZ x1) ∧ ((I (o + 1) v2.toNatClampNeg) = a1 → vp_in v2 10 ∧ post (I (o + 2) v2.toNatClampNeg)))) → ZZ v2) → ZZ v2
set_option maxRecDepth 100000 in
set_option maxHeartbeats 4000000 in
theorem s_X10_spotsOf_2 {p : Program} {l : Launch} {e : Env} {s : State} {m : MethodId} {args : Array Value} {below : List Frame} {meth : Method} {c : Code} {D : va_G} {cA : Nat → ClassId} {Z : mZ} {bs : Ad} {n : Nat} {K : mK} {R : mR} {I : mI} {L : mL} (E : Ev p s m args c cX10_spotsOf 3 RX10 D cA Z bs) (hr : meth.sig.returnType = (some .int)) (hlk : meth.locks = false) {o : Nat} {a1 : Int32} (ho : isX10 K R o) {post : Int32 → Prop} {v2 : Int32} {H : Heap} {locs : List Loc} {ls : Array Slot} (hw : w_X10_spotsOf_2 I o a1 post v2) (hM : mm D cA bs (n, K, R, I, L) H) (hS : va_S (Ab bs) s.heap H locs) (hl : lv_has ls 3 [(0, .ref (ad bs o)), (1, .int a1), (2, .int v2)]) : W p l e ({ frames := 0, cells := 0, slots := 0, locals := 0 } : Room) s m args below meth c H locs 0 0 (MQ below (QI D cA bs (fun r u => u = (n, K, R, I, L) ∧ post r)) args s 0 0 (Ab bs)) (F0 m 2 ls []) := by
  have hx := E.1.1
  have hb := E.1.2.1
  refine hw (fun v2 => ∀ (H : Heap) (locs : List Loc) (ls : Array Slot), mm D cA bs (n, K, R, I, L) H → va_S (Ab bs) s.heap H locs → lv_has ls 3 [(0, .ref (ad bs o)), (1, .int a1), (2, .int v2)] → W p l e ({ frames := 0, cells := 0, slots := 0, locals := 0 } : Room) s m args below meth c H locs 0 0 (MQ below (QI D cA bs (fun r u => u = (n, K, R, I, L) ∧ post r)) args s 0 0 (Ab bs)) (F0 m 2 ls [])) ?_ H locs ls hM hS hl
  clear hw hM hS hl
  intro v2 hw H locs ls hM hS hl
  refine lv_iload_n hx hb dX10_spotsOf_2 rfl (lv_at hl 2 rfl) ?_
  refine lv_aload_n hx hb dX10_spotsOf_3 rfl (lv_at hl 0 rfl) ?_
  refine m_geti E hM fs_X10_84 ho.1 dX10_spotsOf_4 ?_
  refine lv_icmp_ge (tgt := 33) hx hb dX10_spotsOf_7 (by decide) (fun cq => ?_) (fun cq => ?_)
  · have hw := hw.1 cq
    refine lv_iconst (v := 0) hx hb dX10_spotsOf_33 (by decide) ?_
    exact m_reti hx hb hr hlk hM hS ⟨rfl, hw⟩ dX10_spotsOf_34
  · have hw := hw.2 cq
    refine lv_aload_n hx hb dX10_spotsOf_10 rfl (lv_at hl 0 rfl) ?_
    refine m_getr E hM fs_X10_9 ho.1 (isO_at ho 0 rfl).1 dX10_spotsOf_11 ?_
    refine lv_iload_n hx hb dX10_spotsOf_14 rfl (lv_at hl 2 rfl) ?_
    obtain ⟨hv, hw⟩ := hw
    refine m_iald E hM (isO_at ho 0 rfl).2 hv dX10_spotsOf_15 ?_
    refine lv_iload_n hx hb dX10_spotsOf_16 rfl (lv_at hl 1 rfl) ?_
    refine lv_icmp_ne (tgt := 27) hx hb dX10_spotsOf_17 (by decide) (fun cq => ?_) (fun cq => ?_)
    · have hw := hw.1 cq
      obtain ⟨x1, ex1⟩ : ∃ y : Int32, y = v2 + 1 := ⟨_, rfl⟩
      have hw := hw x1 ex1
      refine lv_iinc (v := x1) (lv' := [(2, .int x1), (0, .ref (ad bs o)), (1, .int a1)]) hx hb dX10_spotsOf_27 hl (k := 2) rfl (by rw [ex1]; rfl) (by decide) rfl (fun ls hl => ?_)
      refine lv_goto (tgt := 2) hx hb dX10_spotsOf_30 (by decide) ?_
      exact hw H locs ls  hM hS (lv_sub hl [1, 2, 0] rfl)
    · have hw := hw.2 cq
      refine lv_aload_n hx hb dX10_spotsOf_20 rfl (lv_at hl 0 rfl) ?_
      refine m_getr E hM fs_X10_15 ho.1 (isO_at ho 1 rfl).1 dX10_spotsOf_21 ?_
      refine lv_iload_n hx hb dX10_spotsOf_24 rfl (lv_at hl 2 rfl) ?_
      obtain ⟨hv, hw⟩ := hw
      refine m_iald E hM (isO_at ho 1 rfl).2 hv dX10_spotsOf_25 ?_
      exact m_reti hx hb hr hlk hM hS ⟨rfl, hw⟩ dX10_spotsOf_26
def w_X10_spotsOf (I : mI) (o : Nat) (a1 : Int32) (post : Int32 → Prop) : Prop := (w_X10_spotsOf_2 I o a1 post) 0
set_option maxRecDepth 100000 in
set_option maxHeartbeats 4000000 in
theorem c_X10_spotsOf {l : Launch} {D : va_G} {cA : Nat → ClassId} {Z : mZ} {bs : Ad} {n : Nat} {K : mK} {R : mR} {I : mI} {L : mL} {o : Nat} {a1 : Int32} {post : Int32 → Prop} (ho : isX10 K R o) (hw : w_X10_spotsOf I o a1 post) : Met l yX10_spotsOf (.code yX10_spotsOf cX10_spotsOf 3 (some .int) :: gw) ({ frames := 0, cells := 0, slots := 0, locals := 0 } : Room) (PreM D cA Z bs (n, K, R, I, L) [.ref (ad bs o), .int a1]) (QI D cA bs (fun r u => u = (n, K, R, I, L) ∧ post r)) 0 0 (Ab bs) := by
  refine m_met (by decide) (Nat.le_of_ble_eq_true rfl) (fun p e s m below meth c ls E hr hlk hM hS hl => ?_)
  have E : Ev p s m _ c cX10_spotsOf 3 RX10 D cA Z bs := E
  have hl : lv_has ls 3 [(0, .ref (ad bs o)), (1, .int a1)] := hl
  have hx := E.1.1
  have hb := E.1.2.1
  generalize hHe : s.heap = H at hM ⊢
  have hS : va_S (Ab bs) s.heap H [] := by rw [← hHe]; exact va_S.rf
  clear hHe
  refine lv_iconst (v := 0) hx hb dX10_spotsOf_0 (by decide) ?_
  refine lv_istore_n (lv' := [(2, .int 0), (0, .ref (ad bs o)), (1, .int a1)]) hx hb dX10_spotsOf_1 rfl hl (by decide) rfl (fun ls hl => ?_)
  exact s_X10_spotsOf_2 E hr hlk ho  hw hM hS (lv_sub hl [1, 2, 0] rfl)
theorem dX10_sureCount_0 : decode cX10_sureCount 0 = .ok (.iconst 0, 1) := by decide +kernel
theorem dX10_sureCount_1 : decode cX10_sureCount 1 = .ok (.istore_n 1, 1) := by decide +kernel
theorem dX10_sureCount_2 : decode cX10_sureCount 2 = .ok (.iconst 0, 1) := by decide +kernel
theorem dX10_sureCount_3 : decode cX10_sureCount 3 = .ok (.istore_n 2, 1) := by decide +kernel
theorem dX10_sureCount_4 : decode cX10_sureCount 4 = .ok (.iload_n 2, 1) := by decide +kernel
theorem dX10_sureCount_5 : decode cX10_sureCount 5 = .ok (.aload_n 0, 1) := by decide +kernel
theorem dX10_sureCount_6 : decode cX10_sureCount 6 = .ok (.getfield 84, 3) := by decide +kernel
theorem dX10_sureCount_9 : decode cX10_sureCount 9 = .ok (.if_icmp .ge 25, 3) := by decide +kernel
theorem dX10_sureCount_12 : decode cX10_sureCount 12 = .ok (.aload_n 0, 1) := by decide +kernel
theorem dX10_sureCount_13 : decode cX10_sureCount 13 = .ok (.getfield 15, 3) := by decide +kernel
theorem dX10_sureCount_16 : decode cX10_sureCount 16 = .ok (.iload_n 2, 1) := by decide +kernel
theorem dX10_sureCount_17 : decode cX10_sureCount 17 = .ok (.iaload, 1) := by decide +kernel
theorem dX10_sureCount_18 : decode cX10_sureCount 18 = .ok (.invokestatic 114, 3) := by decide +kernel
theorem dX10_sureCount_21 : decode cX10_sureCount 21 = .ok (.iconst 1, 1) := by decide +kernel
theorem dX10_sureCount_22 : decode cX10_sureCount 22 = .ok (.if_icmp .ne 6, 3) := by decide +kernel
theorem dX10_sureCount_25 : decode cX10_sureCount 25 = .ok (.iinc 1 1, 3) := by decide +kernel
theorem dX10_sureCount_28 : decode cX10_sureCount 28 = .ok (.iinc 2 1, 3) := by decide +kernel
theorem dX10_sureCount_31 : decode cX10_sureCount 31 = .ok (.goto (-27), 3) := by decide +kernel
theorem dX10_sureCount_34 : decode cX10_sureCount 34 = .ok (.iload_n 1, 1) := by decide +kernel
theorem dX10_sureCount_35 : decode cX10_sureCount 35 = .ok (.ireturn, 1) := by decide +kernel
def w_X10_sureCount_4 (I : mI) (o : Nat) (post : Int32 → Prop) (v1 : Int32) (v2 : Int32) : Prop := ∀ ZZ : (Int32 → Int32 → Prop), (∀ (v1 : Int32) (v2 : Int32), (((I o 1) ≤ v2 → post v1) ∧ (¬ (I o 1) ≤ v2 → vp_in v2 10 ∧ w_J6_bitCount_0f7a4 (I (o + 2) v2.toNatClampNeg) (fun r1 => (¬ r1 = 1 → ∀ x2, x2 = v2 + 1 → ZZ v1 x2) ∧ (r1 = 1 → ∀ x3, x3 = v1 + 1 → ∀ x4, x4 = v2 + 1 → ZZ x3 x4)))) → ZZ v1 v2) → ZZ v1 v2
set_option maxRecDepth 100000 in
set_option maxHeartbeats 4000000 in
theorem s_X10_sureCount_4 {p : Program} {l : Launch} {e : Env} {s : State} {m : MethodId} {args : Array Value} {below : List Frame} {meth : Method} {c : Code} {D : va_G} {cA : Nat → ClassId} {Z : mZ} {bs : Ad} {n : Nat} {K : mK} {R : mR} {I : mI} {L : mL} (E : Ev p s m args c cX10_sureCount 3 RX10 D cA Z bs) (hr : meth.sig.returnType = (some .int)) (hlk : meth.locks = false) {o : Nat} (ho : isX10 K R o) {post : Int32 → Prop} {v1 : Int32} {v2 : Int32} {H : Heap} {locs : List Loc} {ls : Array Slot} (hw : w_X10_sureCount_4 I o post v1 v2) (hM : mm D cA bs (n, K, R, I, L) H) (hS : va_S (Ab bs) s.heap H locs) (hl : lv_has ls 3 [(0, .ref (ad bs o)), (1, .int v1), (2, .int v2)]) : W p l e ({ frames := 1, cells := 0, slots := 0, locals := 20 } : Room) s m args below meth c H locs 0 0 (MQ below (QI D cA bs (fun r u => u = (n, K, R, I, L) ∧ post r)) args s 0 0 (Ab bs)) (F0 m 4 ls []) := by
  have hx := E.1.1
  have hb := E.1.2.1
  refine hw (fun v1 v2 => ∀ (H : Heap) (locs : List Loc) (ls : Array Slot), mm D cA bs (n, K, R, I, L) H → va_S (Ab bs) s.heap H locs → lv_has ls 3 [(0, .ref (ad bs o)), (1, .int v1), (2, .int v2)] → W p l e ({ frames := 1, cells := 0, slots := 0, locals := 20 } : Room) s m args below meth c H locs 0 0 (MQ below (QI D cA bs (fun r u => u = (n, K, R, I, L) ∧ post r)) args s 0 0 (Ab bs)) (F0 m 4 ls [])) ?_ H locs ls hM hS hl
  clear hw hM hS hl
  intro v1 v2 hw H locs ls hM hS hl
  refine lv_iload_n hx hb dX10_sureCount_4 rfl (lv_at hl 2 rfl) ?_
  refine lv_aload_n hx hb dX10_sureCount_5 rfl (lv_at hl 0 rfl) ?_
  refine m_geti E hM fs_X10_84 ho.1 dX10_sureCount_6 ?_
  refine lv_icmp_ge (tgt := 34) hx hb dX10_sureCount_9 (by decide) (fun cq => ?_) (fun cq => ?_)
  · have hw := hw.1 cq
    refine lv_iload_n hx hb dX10_sureCount_34 rfl (lv_at hl 1 rfl) ?_
    exact m_reti hx hb hr hlk hM hS ⟨rfl, hw⟩ dX10_sureCount_35
  · have hw := hw.2 cq
    refine lv_aload_n hx hb dX10_sureCount_12 rfl (lv_at hl 0 rfl) ?_
    refine m_getr E hM fs_X10_15 ho.1 (isO_at ho 1 rfl).1 dX10_sureCount_13 ?_
    refine lv_iload_n hx hb dX10_sureCount_16 rfl (lv_at hl 2 rfl) ?_
    obtain ⟨hv, hw⟩ := hw
    refine m_iald E hM (isO_at ho 1 rfl).2 hv dX10_sureCount_17 ?_
    refine m_ci (m_runS E hM hS cs_X10_114 (c_J6_bitCount_0f7a4  hw) rfl rfl ⟨Nat.le_of_ble_eq_true rfl, Nat.le_of_ble_eq_true rfl⟩ rfl hl.1 rfl (Nat.le_of_ble_eq_true rfl) dX10_sureCount_18 ⟨Nat.le_of_ble_eq_true rfl, Nat.le_of_ble_eq_true rfl⟩) hS (fun r1 u H locs hp hM hS => ?_)
    obtain ⟨rfl, hw⟩ := hp
    refine lv_iconst (v := 1) hx hb dX10_sureCount_21 (by decide) ?_
    refine lv_icmp_ne (tgt := 28) hx hb dX10_sureCount_22 (by decide) (fun cq => ?_) (fun cq => ?_)
    · have hw := hw.1 cq
      obtain ⟨x2, ex2⟩ : ∃ y : Int32, y = v2 + 1 := ⟨_, rfl⟩
      have hw := hw x2 ex2
      refine lv_iinc (v := x2) (lv' := [(2, .int x2), (0, .ref (ad bs o)), (1, .int v1)]) hx hb dX10_sureCount_28 hl (k := 2) rfl (by rw [ex2]; rfl) (by decide) rfl (fun ls hl => ?_)
      refine lv_goto (tgt := 4) hx hb dX10_sureCount_31 (by decide) ?_
      exact hw H locs ls  hM hS (lv_sub hl [1, 2, 0] rfl)
    · have hw := hw.2 cq
      obtain ⟨x3, ex3⟩ : ∃ y : Int32, y = v1 + 1 := ⟨_, rfl⟩
      have hw := hw x3 ex3
      refine lv_iinc (v := x3) (lv' := [(1, .int x3), (0, .ref (ad bs o)), (2, .int v2)]) hx hb dX10_sureCount_25 hl (k := 1) rfl (by rw [ex3]; rfl) (by decide) rfl (fun ls hl => ?_)
      obtain ⟨x4, ex4⟩ : ∃ y : Int32, y = v2 + 1 := ⟨_, rfl⟩
      have hw := hw x4 ex4
      refine lv_iinc (v := x4) (lv' := [(2, .int x4), (1, .int x3), (0, .ref (ad bs o))]) hx hb dX10_sureCount_28 hl (k := 2) rfl (by rw [ex4]; rfl) (by decide) rfl (fun ls hl => ?_)
      refine lv_goto (tgt := 4) hx hb dX10_sureCount_31 (by decide) ?_
      exact hw H locs ls  hM hS (lv_sub hl [2, 1, 0] rfl)
def w_X10_sureCount (I : mI) (o : Nat) (post : Int32 → Prop) : Prop := (w_X10_sureCount_4 I o post) 0 0
set_option maxRecDepth 100000 in
set_option maxHeartbeats 4000000 in
theorem c_X10_sureCount {l : Launch} {D : va_G} {cA : Nat → ClassId} {Z : mZ} {bs : Ad} {n : Nat} {K : mK} {R : mR} {I : mI} {L : mL} {o : Nat} {post : Int32 → Prop} (ho : isX10 K R o) (hw : w_X10_sureCount I o post) : Met l yX10_sureCount (.code yX10_sureCount cX10_sureCount 3 (some .int) :: gw) ({ frames := 1, cells := 0, slots := 0, locals := 20 } : Room) (PreM D cA Z bs (n, K, R, I, L) [.ref (ad bs o)]) (QI D cA bs (fun r u => u = (n, K, R, I, L) ∧ post r)) 0 0 (Ab bs) := by
  refine m_met (by decide) (Nat.le_of_ble_eq_true rfl) (fun p e s m below meth c ls E hr hlk hM hS hl => ?_)
  have E : Ev p s m _ c cX10_sureCount 3 RX10 D cA Z bs := E
  have hl : lv_has ls 3 [(0, .ref (ad bs o))] := hl
  have hx := E.1.1
  have hb := E.1.2.1
  generalize hHe : s.heap = H at hM ⊢
  have hS : va_S (Ab bs) s.heap H [] := by rw [← hHe]; exact va_S.rf
  clear hHe
  refine lv_iconst (v := 0) hx hb dX10_sureCount_0 (by decide) ?_
  refine lv_istore_n (lv' := [(1, .int 0), (0, .ref (ad bs o))]) hx hb dX10_sureCount_1 rfl hl (by decide) rfl (fun ls hl => ?_)
  refine lv_iconst (v := 0) hx hb dX10_sureCount_2 (by decide) ?_
  refine lv_istore_n (lv' := [(2, .int 0), (1, .int 0), (0, .ref (ad bs o))]) hx hb dX10_sureCount_3 rfl hl (by decide) rfl (fun ls hl => ?_)
  exact s_X10_sureCount_4 E hr hlk ho  hw hM hS (lv_sub hl [2, 1, 0] rfl)
