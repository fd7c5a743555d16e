theorem dX2_quietestStep_0 : decode cX2_quietestStep 0 = .ok (.aload_n 0, 1) := by decide +kernel
theorem dX2_quietestStep_1 : decode cX2_quietestStep 1 = .ok (.getfield 42, 3) := by decide +kernel
theorem dX2_quietestStep_4 : decode cX2_quietestStep 4 = .ok (.iconst 0, 1) := by decide +kernel
theorem dX2_quietestStep_5 : decode cX2_quietestStep 5 = .ok (.invokestatic 68, 3) := by decide +kernel
theorem dX2_quietestStep_8 : decode cX2_quietestStep 8 = .ok (.iconst 0, 1) := by decide +kernel
theorem dX2_quietestStep_9 : decode cX2_quietestStep 9 = .ok (.istore_n 2, 1) := by decide +kernel
theorem dX2_quietestStep_10 : decode cX2_quietestStep 10 = .ok (.iload_n 2, 1) := by decide +kernel
theorem dX2_quietestStep_11 : decode cX2_quietestStep 11 = .ok (.aload_n 0, 1) := by decide +kernel
theorem dX2_quietestStep_12 : decode cX2_quietestStep 12 = .ok (.getfield 64, 3) := by decide +kernel
theorem dX2_quietestStep_15 : decode cX2_quietestStep 15 = .ok (.if_icmp .ge 115, 3) := by decide +kernel
theorem dX2_quietestStep_18 : decode cX2_quietestStep 18 = .ok (.aload_n 0, 1) := by decide +kernel
theorem dX2_quietestStep_19 : decode cX2_quietestStep 19 = .ok (.getfield 24, 3) := by decide +kernel
theorem dX2_quietestStep_22 : decode cX2_quietestStep 22 = .ok (.iload_n 2, 1) := by decide +kernel
theorem dX2_quietestStep_23 : decode cX2_quietestStep 23 = .ok (.iaload, 1) := by decide +kernel
theorem dX2_quietestStep_24 : decode cX2_quietestStep 24 = .ok (.aload_n 0, 1) := by decide +kernel
theorem dX2_quietestStep_25 : decode cX2_quietestStep 25 = .ok (.getfield 27, 3) := by decide +kernel
theorem dX2_quietestStep_28 : decode cX2_quietestStep 28 = .ok (.iload_n 2, 1) := by decide +kernel
theorem dX2_quietestStep_29 : decode cX2_quietestStep 29 = .ok (.iaload, 1) := by decide +kernel
theorem dX2_quietestStep_30 : decode cX2_quietestStep 30 = .ok (.iconst (-1), 1) := by decide +kernel
theorem dX2_quietestStep_31 : decode cX2_quietestStep 31 = .ok (.if_icmp .ne 7, 3) := by decide +kernel
theorem dX2_quietestStep_34 : decode cX2_quietestStep 34 = .ok (.iconst 0, 1) := by decide +kernel
theorem dX2_quietestStep_35 : decode cX2_quietestStep 35 = .ok (.goto 16, 3) := by decide +kernel
theorem dX2_quietestStep_38 : decode cX2_quietestStep 38 = .ok (.aload_n 0, 1) := by decide +kernel
theorem dX2_quietestStep_39 : decode cX2_quietestStep 39 = .ok (.getfield 24, 3) := by decide +kernel
theorem dX2_quietestStep_42 : decode cX2_quietestStep 42 = .ok (.aload_n 0, 1) := by decide +kernel
theorem dX2_quietestStep_43 : decode cX2_quietestStep 43 = .ok (.getfield 27, 3) := by decide +kernel
theorem dX2_quietestStep_46 : decode cX2_quietestStep 46 = .ok (.iload_n 2, 1) := by decide +kernel
theorem dX2_quietestStep_47 : decode cX2_quietestStep 47 = .ok (.iaload, 1) := by decide +kernel
theorem dX2_quietestStep_48 : decode cX2_quietestStep 48 = .ok (.iaload, 1) := by decide +kernel
theorem dX2_quietestStep_49 : decode cX2_quietestStep 49 = .ok (.iconst 2, 1) := by decide +kernel
theorem dX2_quietestStep_50 : decode cX2_quietestStep 50 = .ok (.idiv, 1) := by decide +kernel
theorem dX2_quietestStep_51 : decode cX2_quietestStep 51 = .ok (.invokestatic 112, 3) := by decide +kernel
theorem dX2_quietestStep_54 : decode cX2_quietestStep 54 = .ok (.istore_n 3, 1) := by decide +kernel
theorem dX2_quietestStep_55 : decode cX2_quietestStep 55 = .ok (.iload_n 3, 1) := by decide +kernel
theorem dX2_quietestStep_56 : decode cX2_quietestStep 56 = .ok (.ifCond .le 68, 3) := by decide +kernel
theorem dX2_quietestStep_59 : decode cX2_quietestStep 59 = .ok (.aload_n 0, 1) := by decide +kernel
theorem dX2_quietestStep_60 : decode cX2_quietestStep 60 = .ok (.getfield 60, 3) := by decide +kernel
theorem dX2_quietestStep_63 : decode cX2_quietestStep 63 = .ok (.getfield 109, 3) := by decide +kernel
theorem dX2_quietestStep_66 : decode cX2_quietestStep 66 = .ok (.iload_n 1, 1) := by decide +kernel
theorem dX2_quietestStep_67 : decode cX2_quietestStep 67 = .ok (.iaload, 1) := by decide +kernel
theorem dX2_quietestStep_68 : decode cX2_quietestStep 68 = .ok (.iload_n 3, 1) := by decide +kernel
theorem dX2_quietestStep_69 : decode cX2_quietestStep 69 = .ok (.iadd, 1) := by decide +kernel
theorem dX2_quietestStep_70 : decode cX2_quietestStep 70 = .ok (.istore 4, 2) := by decide +kernel
theorem dX2_quietestStep_72 : decode cX2_quietestStep 72 = .ok (.aload_n 0, 1) := by decide +kernel
theorem dX2_quietestStep_73 : decode cX2_quietestStep 73 = .ok (.getfield 42, 3) := by decide +kernel
theorem dX2_quietestStep_76 : decode cX2_quietestStep 76 = .ok (.iconst 0, 1) := by decide +kernel
theorem dX2_quietestStep_77 : decode cX2_quietestStep 77 = .ok (.aload_n 0, 1) := by decide +kernel
theorem dX2_quietestStep_78 : decode cX2_quietestStep 78 = .ok (.getfield 15, 3) := by decide +kernel
theorem dX2_quietestStep_81 : decode cX2_quietestStep 81 = .ok (.iload_n 2, 1) := by decide +kernel
theorem dX2_quietestStep_82 : decode cX2_quietestStep 82 = .ok (.iaload, 1) := by decide +kernel
theorem dX2_quietestStep_83 : decode cX2_quietestStep 83 = .ok (.iload 4, 2) := by decide +kernel
theorem dX2_quietestStep_85 : decode cX2_quietestStep 85 = .ok (.isub, 1) := by decide +kernel
theorem dX2_quietestStep_86 : decode cX2_quietestStep 86 = .ok (.invokestatic 112, 3) := by decide +kernel
theorem dX2_quietestStep_89 : decode cX2_quietestStep 89 = .ok (.dup2, 1) := by decide +kernel
theorem dX2_quietestStep_90 : decode cX2_quietestStep 90 = .ok (.iaload, 1) := by decide +kernel
theorem dX2_quietestStep_91 : decode cX2_quietestStep 91 = .ok (.iconst 1, 1) := by decide +kernel
theorem dX2_quietestStep_92 : decode cX2_quietestStep 92 = .ok (.iadd, 1) := by decide +kernel
theorem dX2_quietestStep_93 : decode cX2_quietestStep 93 = .ok (.iastore, 1) := by decide +kernel
theorem dX2_quietestStep_94 : decode cX2_quietestStep 94 = .ok (.aload_n 0, 1) := by decide +kernel
theorem dX2_quietestStep_95 : decode cX2_quietestStep 95 = .ok (.getfield 42, 3) := by decide +kernel
theorem dX2_quietestStep_98 : decode cX2_quietestStep 98 = .ok (.aload_n 0, 1) := by decide +kernel
theorem dX2_quietestStep_99 : decode cX2_quietestStep 99 = .ok (.getfield 60, 3) := by decide +kernel
theorem dX2_quietestStep_102 : decode cX2_quietestStep 102 = .ok (.getfield 94, 3) := by decide +kernel
theorem dX2_quietestStep_105 : decode cX2_quietestStep 105 = .ok (.aload_n 0, 1) := by decide +kernel
theorem dX2_quietestStep_106 : decode cX2_quietestStep 106 = .ok (.getfield 15, 3) := by decide +kernel
theorem dX2_quietestStep_109 : decode cX2_quietestStep 109 = .ok (.iload_n 2, 1) := by decide +kernel
theorem dX2_quietestStep_110 : decode cX2_quietestStep 110 = .ok (.iaload, 1) := by decide +kernel
theorem dX2_quietestStep_111 : decode cX2_quietestStep 111 = .ok (.iload 4, 2) := by decide +kernel
theorem dX2_quietestStep_113 : decode cX2_quietestStep 113 = .ok (.iadd, 1) := by decide +kernel
theorem dX2_quietestStep_114 : decode cX2_quietestStep 114 = .ok (.iconst 1, 1) := by decide +kernel
theorem dX2_quietestStep_115 : decode cX2_quietestStep 115 = .ok (.iadd, 1) := by decide +kernel
theorem dX2_quietestStep_116 : decode cX2_quietestStep 116 = .ok (.invokestatic 182, 3) := by decide +kernel
theorem dX2_quietestStep_119 : decode cX2_quietestStep 119 = .ok (.dup2, 1) := by decide +kernel
theorem dX2_quietestStep_120 : decode cX2_quietestStep 120 = .ok (.iaload, 1) := by decide +kernel
theorem dX2_quietestStep_121 : decode cX2_quietestStep 121 = .ok (.iconst 1, 1) := by decide +kernel
theorem dX2_quietestStep_122 : decode cX2_quietestStep 122 = .ok (.isub, 1) := by decide +kernel
theorem dX2_quietestStep_123 : decode cX2_quietestStep 123 = .ok (.iastore, 1) := by decide +kernel
theorem dX2_quietestStep_124 : decode cX2_quietestStep 124 = .ok (.iinc 2 1, 3) := by decide +kernel
theorem dX2_quietestStep_127 : decode cX2_quietestStep 127 = .ok (.goto (-117), 3) := by decide +kernel
theorem dX2_quietestStep_130 : decode cX2_quietestStep 130 = .ok (.aload_n 0, 1) := by decide +kernel
theorem dX2_quietestStep_131 : decode cX2_quietestStep 131 = .ok (.getfield 42, 3) := by decide +kernel
theorem dX2_quietestStep_134 : decode cX2_quietestStep 134 = .ok (.iconst 0, 1) := by decide +kernel
theorem dX2_quietestStep_135 : decode cX2_quietestStep 135 = .ok (.iaload, 1) := by decide +kernel
theorem dX2_quietestStep_136 : decode cX2_quietestStep 136 = .ok (.istore_n 2, 1) := by decide +kernel
theorem dX2_quietestStep_137 : decode cX2_quietestStep 137 = .ok (.iload_n 2, 1) := by decide +kernel
theorem dX2_quietestStep_138 : decode cX2_quietestStep 138 = .ok (.istore_n 3, 1) := by decide +kernel
theorem dX2_quietestStep_139 : decode cX2_quietestStep 139 = .ok (.iconst 0, 1) := by decide +kernel
theorem dX2_quietestStep_140 : decode cX2_quietestStep 140 = .ok (.istore 4, 2) := by decide +kernel
theorem dX2_quietestStep_142 : decode cX2_quietestStep 142 = .ok (.iconst 1, 1) := by decide +kernel
theorem dX2_quietestStep_143 : decode cX2_quietestStep 143 = .ok (.istore 5, 2) := by decide +kernel
theorem dX2_quietestStep_145 : decode cX2_quietestStep 145 = .ok (.iload 5, 2) := by decide +kernel
theorem dX2_quietestStep_147 : decode cX2_quietestStep 147 = .ok (.aload_n 0, 1) := by decide +kernel
theorem dX2_quietestStep_148 : decode cX2_quietestStep 148 = .ok (.getfield 60, 3) := by decide +kernel
theorem dX2_quietestStep_151 : decode cX2_quietestStep 151 = .ok (.getfield 94, 3) := by decide +kernel
theorem dX2_quietestStep_154 : decode cX2_quietestStep 154 = .ok (.if_icmp .ge 30, 3) := by decide +kernel
theorem dX2_quietestStep_157 : decode cX2_quietestStep 157 = .ok (.iload_n 2, 1) := by decide +kernel
theorem dX2_quietestStep_158 : decode cX2_quietestStep 158 = .ok (.aload_n 0, 1) := by decide +kernel
theorem dX2_quietestStep_159 : decode cX2_quietestStep 159 = .ok (.getfield 42, 3) := by decide +kernel
theorem dX2_quietestStep_162 : decode cX2_quietestStep 162 = .ok (.iload 5, 2) := by decide +kernel
theorem dX2_quietestStep_164 : decode cX2_quietestStep 164 = .ok (.iaload, 1) := by decide +kernel
theorem dX2_quietestStep_165 : decode cX2_quietestStep 165 = .ok (.iadd, 1) := by decide +kernel
theorem dX2_quietestStep_166 : decode cX2_quietestStep 166 = .ok (.istore_n 2, 1) := by decide +kernel
theorem dX2_quietestStep_167 : decode cX2_quietestStep 167 = .ok (.iload_n 2, 1) := by decide +kernel
theorem dX2_quietestStep_168 : decode cX2_quietestStep 168 = .ok (.iload_n 3, 1) := by decide +kernel
theorem dX2_quietestStep_169 : decode cX2_quietestStep 169 = .ok (.if_icmp .ge 9, 3) := by decide +kernel
theorem dX2_quietestStep_172 : decode cX2_quietestStep 172 = .ok (.iload_n 2, 1) := by decide +kernel
theorem dX2_quietestStep_173 : decode cX2_quietestStep 173 = .ok (.istore_n 3, 1) := by decide +kernel
theorem dX2_quietestStep_174 : decode cX2_quietestStep 174 = .ok (.iload 5, 2) := by decide +kernel
theorem dX2_quietestStep_176 : decode cX2_quietestStep 176 = .ok (.istore 4, 2) := by decide +kernel
theorem dX2_quietestStep_178 : decode cX2_quietestStep 178 = .ok (.iinc 5 1, 3) := by decide +kernel
theorem dX2_quietestStep_181 : decode cX2_quietestStep 181 = .ok (.goto (-36), 3) := by decide +kernel
theorem dX2_quietestStep_184 : decode cX2_quietestStep 184 = .ok (.iload 4, 2) := by decide +kernel
theorem dX2_quietestStep_186 : decode cX2_quietestStep 186 = .ok (.ireturn, 1) := by decide +kernel
def w_X2_quietestStep_51 (o : Nat) (oh : Nat) (a1 : Int32) (post : Int32 → mI → Prop) (k10 : mI → Int32 → Prop) (I : mI) (v2 : Int32) (s0 : Int32) (s1 : Int32) : Prop := ∀ x2, x2 = (imax s0 s1) → (x2 ≤ 0 → ∀ x3, x3 = v2 + 1 → k10 I x3) ∧ (¬ x2 ≤ 0 → vp_in a1 6 ∧ ∀ x4, x4 = ((I (oh + 3) a1.toNatClampNeg) + x2) → vp_in v2 600 ∧ vp_in (imax 0 ((I (o + 2) v2.toNatClampNeg) - x4)) 25 ∧ vp_in (imax 0 ((I (o + 2) v2.toNatClampNeg) - x4)) 25 ∧ ∀ I5, I5 = up2 I (o + 11) ((imax 0 ((I (o + 2) v2.toNatClampNeg) - x4)).toNatClampNeg) ((I (o + 11) (imax 0 ((I (o + 2) v2.toNatClampNeg) - x4)).toNatClampNeg) + 1) → vp_in v2 600 ∧ vp_in (imin (I5 oh 0) (((I5 (o + 2) v2.toNatClampNeg) + x4) + 1)) 25 ∧ vp_in (imin (I5 oh 0) (((I5 (o + 2) v2.toNatClampNeg) + x4) + 1)) 25 ∧ ∀ I6, I6 = up2 I5 (o + 11) ((imin (I5 oh 0) (((I5 (o + 2) v2.toNatClampNeg) + x4) + 1)).toNatClampNeg) ((I5 (o + 11) (imin (I5 oh 0) (((I5 (o + 2) v2.toNatClampNeg) + x4) + 1)).toNatClampNeg) - 1) → ∀ x7, x7 = v2 + 1 → k10 I6 x7)
set_option maxRecDepth 100000 in
set_option maxHeartbeats 4000000 in
theorem s_X2_quietestStep_51 {p : Program} {l : Launch} {e : Env} {s : State} {m : MethodId} {args : Array Value} {below : List Frame} {meth : Method} {c : Code} {D : va_G} {cA : Nat → ClassId} {Z : mZ} {bs : Ad} {n : Nat} {K : mK} {R : mR} {L : mL} (E : Ev p s m args c cX2_quietestStep 6 RX2 D cA Z bs) (hr : meth.sig.returnType = (some .int)) (hlk : meth.locks = false) {o : Nat} {oh : Nat} {a1 : Int32} (ho : isX2 K R o oh) {post : Int32 → mI → Prop} {k10 : mI → Int32 → Prop} (hk10 : ∀ (I : mI) (v2 : Int32) (H : Heap) (locs : List Loc) (ls : Array Slot), k10 I v2 → mm D cA bs (n, K, R, I, L) H → va_S (Ab bs) s.heap H locs → lv_has ls 6 [(0, .ref (ad bs o)), (1, .int a1), (2, .int v2)] → W p l e ({ frames := 1, cells := 0, slots := 0, locals := 40 } : Room) s m args below meth c H locs 0 0 (MQ below (QI D cA bs (fun r u => ∃ I', u = (n, K, R, I', L) ∧ post r I')) args s 0 0 (Ab bs)) (F0 m 10 ls [])) {I : mI} {v2 : Int32} {s0 : Int32} {s1 : Int32} {H : Heap} {locs : List Loc} {ls : Array Slot} (hw : w_X2_quietestStep_51 o oh a1 post k10 I v2 s0 s1) (hM : mm D cA bs (n, K, R, I, L) H) (hS : va_S (Ab bs) s.heap H locs) (hl : lv_has ls 6 [(0, .ref (ad bs o)), (1, .int a1), (2, .int v2)]) : W p l e ({ frames := 1, cells := 0, slots := 0, locals := 40 } : Room) s m args below meth c H locs 0 0 (MQ below (QI D cA bs (fun r u => ∃ I', u = (n, K, R, I', L) ∧ post r I')) args s 0 0 (Ab bs)) (F0 m 51 ls [.int s1, .int s0]) := by
  have hx := E.1.1
  have hb := E.1.2.1
  refine m_max E ml_X2_112 hl.1 (Nat.le_of_ble_eq_true rfl) (Nat.le_of_ble_eq_true rfl) (Nat.le_of_ble_eq_true rfl) (Nat.le_of_ble_eq_true rfl) dX2_quietestStep_51 ?_
  refine lv_topi (fun x2 ex2 => ?_)
  have hw := hw x2 ex2
  refine lv_istore_n (lv' := [(3, .int x2), (0, .ref (ad bs o)), (1, .int a1), (2, .int v2)]) hx hb dX2_quietestStep_54 rfl hl (by decide) rfl (fun ls hl => ?_)
  refine lv_iload_n hx hb dX2_quietestStep_55 rfl (lv_at hl 0 rfl) ?_
  refine lv_if_le (tgt := 124) hx hb dX2_quietestStep_56 (by decide) (fun cq => ?_) (fun cq => ?_)
  · have hw := hw.1 cq
    obtain ⟨x3, ex3⟩ : ∃ y : Int32, y = v2 + 1 := ⟨_, rfl⟩
    have hw := hw x3 ex3
    refine lv_iinc (v := x3) (lv' := [(2, .int x3), (3, .int x2), (0, .ref (ad bs o)), (1, .int a1)]) hx hb dX2_quietestStep_124 hl (k := 3) rfl (by rw [ex3]; rfl) (by decide) rfl (fun ls hl => ?_)
    refine lv_goto (tgt := 10) hx hb dX2_quietestStep_127 (by decide) ?_
    exact hk10 _ _ H locs ls  hw hM hS (lv_sub hl [2, 3, 0] rfl)
  · have hw := hw.2 cq
    refine lv_aload_n hx hb dX2_quietestStep_59 rfl (lv_at hl 1 rfl) ?_
    refine m_getr E hM fs_X2_60 ho.1.1 ho.2.1 dX2_quietestStep_60 ?_
    refine m_getr E hM fs_X2_109 ho.2.2.1 (isO_at ho.2.2 2 rfl).1 dX2_quietestStep_63 ?_
    refine lv_iload_n hx hb dX2_quietestStep_66 rfl (lv_at hl 2 rfl) ?_
    obtain ⟨hv, hw⟩ := hw
    refine m_iald E hM (isO_at ho.2.2 2 rfl).2 hv dX2_quietestStep_67 ?_
    refine lv_iload_n hx hb dX2_quietestStep_68 rfl (lv_at hl 0 rfl) ?_
    refine lv_iadd hx hb dX2_quietestStep_69 ?_
    refine lv_topi (fun x4 ex4 => ?_)
    have hw := hw x4 ex4
    refine lv_istore (lv' := [(4, .int x4), (3, .int x2), (0, .ref (ad bs o)), (1, .int a1), (2, .int v2)]) hx hb dX2_quietestStep_70 hl (by decide) rfl (fun ls hl => ?_)
    refine lv_aload_n hx hb dX2_quietestStep_72 rfl (lv_at hl 2 rfl) ?_
    refine m_getr E hM fs_X2_42 ho.1.1 (isO_at ho.1 10 rfl).1 dX2_quietestStep_73 ?_
    refine lv_iconst (v := 0) hx hb dX2_quietestStep_76 (by decide) ?_
    refine lv_aload_n hx hb dX2_quietestStep_77 rfl (lv_at hl 2 rfl) ?_
    refine m_getr E hM fs_X2_15 ho.1.1 (isO_at ho.1 1 rfl).1 dX2_quietestStep_78 ?_
    refine lv_iload_n hx hb dX2_quietestStep_81 rfl (lv_at hl 4 rfl) ?_
    obtain ⟨hv, hw⟩ := hw
    refine m_iald E hM (isO_at ho.1 1 rfl).2 hv dX2_quietestStep_82 ?_
    refine lv_iload hx hb dX2_quietestStep_83 (lv_at hl 0 rfl) ?_
    refine lv_isub hx hb dX2_quietestStep_85 ?_
    refine m_max E ml_X2_112 hl.1 (Nat.le_of_ble_eq_true rfl) (Nat.le_of_ble_eq_true rfl) (Nat.le_of_ble_eq_true rfl) (Nat.le_of_ble_eq_true rfl) dX2_quietestStep_86 ?_
    refine lv_dup2_11 hx hb dX2_quietestStep_89 rfl rfl ?_
    obtain ⟨hv, hw⟩ := hw
    refine m_iald E hM (isO_at ho.1 10 rfl).2 hv dX2_quietestStep_90 ?_
    refine lv_iconst (v := 1) hx hb dX2_quietestStep_91 (by decide) ?_
    refine lv_iadd hx hb dX2_quietestStep_92 ?_
    obtain ⟨hv, hw⟩ := hw
    refine m_iast E hM hS (isO_at ho.1 10 rfl).2 hv dX2_quietestStep_93 (fun I5 H locs eI5 hM hS => ?_)
    have hw := hw I5 eI5
    refine lv_aload_n hx hb dX2_quietestStep_94 rfl (lv_at hl 2 rfl) ?_
    refine m_getr E hM fs_X2_42 ho.1.1 (isO_at ho.1 10 rfl).1 dX2_quietestStep_95 ?_
    refine lv_aload_n hx hb dX2_quietestStep_98 rfl (lv_at hl 2 rfl) ?_
    refine m_getr E hM fs_X2_60 ho.1.1 ho.2.1 dX2_quietestStep_99 ?_
    refine m_geti E hM fs_X2_94 ho.2.2.1 dX2_quietestStep_102 ?_
    refine lv_aload_n hx hb dX2_quietestStep_105 rfl (lv_at hl 2 rfl) ?_
    refine m_getr E hM fs_X2_15 ho.1.1 (isO_at ho.1 1 rfl).1 dX2_quietestStep_106 ?_
    refine lv_iload_n hx hb dX2_quietestStep_109 rfl (lv_at hl 4 rfl) ?_
    obtain ⟨hv, hw⟩ := hw
    refine m_iald E hM (isO_at ho.1 1 rfl).2 hv dX2_quietestStep_110 ?_
    refine lv_iload hx hb dX2_quietestStep_111 (lv_at hl 0 rfl) ?_
    refine lv_iadd hx hb dX2_quietestStep_113 ?_
    refine lv_iconst (v := 1) hx hb dX2_quietestStep_114 (by decide) ?_
    refine lv_iadd hx hb dX2_quietestStep_115 ?_
    refine m_min E ml_X2_182 hl.1 (Nat.le_of_ble_eq_true rfl) (Nat.le_of_ble_eq_true rfl) (Nat.le_of_ble_eq_true rfl) (Nat.le_of_ble_eq_true rfl) dX2_quietestStep_116 ?_
    refine lv_dup2_11 hx hb dX2_quietestStep_119 rfl rfl ?_
    obtain ⟨hv, hw⟩ := hw
    refine m_iald E hM (isO_at ho.1 10 rfl).2 hv dX2_quietestStep_120 ?_
    refine lv_iconst (v := 1) hx hb dX2_quietestStep_121 (by decide) ?_
    refine lv_isub hx hb dX2_quietestStep_122 ?_
    obtain ⟨hv, hw⟩ := hw
    refine m_iast E hM hS (isO_at ho.1 10 rfl).2 hv dX2_quietestStep_123 (fun I6 H locs eI6 hM hS => ?_)
    have hw := hw I6 eI6
    obtain ⟨x7, ex7⟩ : ∃ y : Int32, y = v2 + 1 := ⟨_, rfl⟩
    have hw := hw x7 ex7
    refine lv_iinc (v := x7) (lv' := [(2, .int x7), (4, .int x4), (3, .int x2), (0, .ref (ad bs o)), (1, .int a1)]) hx hb dX2_quietestStep_124 hl (k := 4) rfl (by rw [ex7]; rfl) (by decide) rfl (fun ls hl => ?_)
    refine lv_goto (tgt := 10) hx hb dX2_quietestStep_127 (by decide) ?_
    exact hk10 _ _ H locs ls  hw hM hS (lv_sub hl [3, 4, 0] rfl)
def w_X2_quietestStep_10 (o : Nat) (oh : Nat) (a1 : Int32) (post : Int32 → mI → Prop) (k130 : mI → Prop) (I : mI) (v2 : Int32) : Prop := ∀ ZZ : (mI → Int32 → Prop), (∀ (I : mI) (v2 : Int32), (((I o 2) ≤ v2 → k130 I) ∧ (¬ (I o 2) ≤ v2 → vp_in v2 600 ∧ vp_in v2 600 ∧ (¬ (I (o + 6) v2.toNatClampNeg) = (-1) → vp_in v2 600 ∧ vp_in (I (o + 6) v2.toNatClampNeg) 600 ∧ (w_X2_quietestStep_51 o oh a1 post ZZ) I v2 (I (o + 5) v2.toNatClampNeg) ((I (o + 5) (I (o + 6) v2.toNatClampNeg).toNatClampNeg) / 2)) ∧ ((I (o + 6) v2.toNatClampNeg) = (-1) → (w_X2_quietestStep_51 o oh a1 post ZZ) I v2 (I (o + 5) v2.toNatClampNeg) 0))) → ZZ I v2) → ZZ I v2
set_option maxRecDepth 100000 in
set_option maxHeartbeats 4000000 in
theorem s_X2_quietestStep_10 {p : Program} {l : Launch} {e : Env} {s : State} {m : MethodId} {args : Array Value} {below : List Frame} {meth : Method} {c : Code} {D : va_G} {cA : Nat → ClassId} {Z : mZ} {bs : Ad} {n : Nat} {K : mK} {R : mR} {L : mL} (E : Ev p s m args c cX2_quietestStep 6 RX2 D cA Z bs) (hr : meth.sig.returnType = (some .int)) (hlk : meth.locks = false) {o : Nat} {oh : Nat} {a1 : Int32} (ho : isX2 K R o oh) {post : Int32 → mI → Prop} {k130 : mI → Prop} (hk130 : ∀ (I : mI) (H : Heap) (locs : List Loc) (ls : Array Slot), k130 I → mm D cA bs (n, K, R, I, L) H → va_S (Ab bs) s.heap H locs → lv_has ls 6 [(0, .ref (ad bs o))] → W p l e ({ frames := 1, cells := 0, slots := 0, locals := 40 } : Room) s m args below meth c H locs 0 0 (MQ below (QI D cA bs (fun r u => ∃ I', u = (n, K, R, I', L) ∧ post r I')) args s 0 0 (Ab bs)) (F0 m 130 ls [])) {I : mI} {v2 : Int32} {H : Heap} {locs : List Loc} {ls : Array Slot} (hw : w_X2_quietestStep_10 o oh a1 post k130 I v2) (hM : mm D cA bs (n, K, R, I, L) H) (hS : va_S (Ab bs) s.heap H locs) (hl : lv_has ls 6 [(0, .ref (ad bs o)), (1, .int a1), (2, .int v2)]) : W p l e ({ frames := 1, cells := 0, slots := 0, locals := 40 } : Room) s m args below meth c H locs 0 0 (MQ below (QI D cA bs (fun r u => ∃ I', u = (n, K, R, I', L) ∧ post r I')) args s 0 0 (Ab bs)) (F0 m 10 ls []) := by
  have hx := E.1.1
  have hb := E.1.2.1
  refine hw (fun I v2 => ∀ (H : Heap) (locs : List Loc) (ls : Array Slot), mm D cA bs (n, K, R, I, L) H → va_S (Ab bs) s.heap H locs → lv_has ls 6 [(0, .ref (ad bs o)), (1, .int a1), (2, .int v2)] → W p l e ({ frames := 1, cells := 0, slots := 0, locals := 40 } : Room) s m args below meth c H locs 0 0 (MQ below (QI D cA bs (fun r u => ∃ I', u = (n, K, R, I', L) ∧ post r I')) args s 0 0 (Ab bs)) (F0 m 10 ls [])) ?_ H locs ls hM hS hl
  clear hw hM hS hl
  intro I v2 hw H locs ls hM hS hl
  refine lv_iload_n hx hb dX2_quietestStep_10 rfl (lv_at hl 2 rfl) ?_
  refine lv_aload_n hx hb dX2_quietestStep_11 rfl (lv_at hl 0 rfl) ?_
  refine m_geti E hM fs_X2_64 ho.1.1 dX2_quietestStep_12 ?_
  refine lv_icmp_ge (tgt := 130) hx hb dX2_quietestStep_15 (by decide) (fun cq => ?_) (fun cq => ?_)
  · have hw := hw.1 cq
    exact hk130 _ H locs ls  hw hM hS (lv_sub hl [0] rfl)
  · have hw := hw.2 cq
    refine lv_aload_n hx hb dX2_quietestStep_18 rfl (lv_at hl 0 rfl) ?_
    refine m_getr E hM fs_X2_24 ho.1.1 (isO_at ho.1 4 rfl).1 dX2_quietestStep_19 ?_
    refine lv_iload_n hx hb dX2_quietestStep_22 rfl (lv_at hl 2 rfl) ?_
    obtain ⟨hv, hw⟩ := hw
    refine m_iald E hM (isO_at ho.1 4 rfl).2 hv dX2_quietestStep_23 ?_
    refine lv_aload_n hx hb dX2_quietestStep_24 rfl (lv_at hl 0 rfl) ?_
    refine m_getr E hM fs_X2_27 ho.1.1 (isO_at ho.1 5 rfl).1 dX2_quietestStep_25 ?_
    refine lv_iload_n hx hb dX2_quietestStep_28 rfl (lv_at hl 2 rfl) ?_
    obtain ⟨hv, hw⟩ := hw
    refine m_iald E hM (isO_at ho.1 5 rfl).2 hv dX2_quietestStep_29 ?_
    refine lv_iconst (v := (-1)) hx hb dX2_quietestStep_30 (by decide) ?_
    refine lv_icmp_ne (tgt := 38) hx hb dX2_quietestStep_31 (by decide) (fun cq => ?_) (fun cq => ?_)
    · have hw := hw.1 cq
      refine lv_aload_n hx hb dX2_quietestStep_38 rfl (lv_at hl 0 rfl) ?_
      refine m_getr E hM fs_X2_24 ho.1.1 (isO_at ho.1 4 rfl).1 dX2_quietestStep_39 ?_
      refine lv_aload_n hx hb dX2_quietestStep_42 rfl (lv_at hl 0 rfl) ?_
      refine m_getr E hM fs_X2_27 ho.1.1 (isO_at ho.1 5 rfl).1 dX2_quietestStep_43 ?_
      refine lv_iload_n hx hb dX2_quietestStep_46 rfl (lv_at hl 2 rfl) ?_
      obtain ⟨hv, hw⟩ := hw
      refine m_iald E hM (isO_at ho.1 5 rfl).2 hv dX2_quietestStep_47 ?_
      obtain ⟨hv, hw⟩ := hw
      refine m_iald E hM (isO_at ho.1 4 rfl).2 hv dX2_quietestStep_48 ?_
      refine lv_iconst (v := 2) hx hb dX2_quietestStep_49 (by decide) ?_
      refine lv_idiv hx hb dX2_quietestStep_50 (by decide) ?_
      exact s_X2_quietestStep_51 E hr hlk ho (fun I v2 H locs ls  hw hM hS hl => hw H locs ls  hM hS hl)  hw hM hS (lv_sub hl [0, 1, 2] rfl)
    · have hw := hw.2 cq
      refine lv_iconst (v := 0) hx hb dX2_quietestStep_34 (by decide) ?_
      refine lv_goto (tgt := 51) hx hb dX2_quietestStep_35 (by decide) ?_
      exact s_X2_quietestStep_51 E hr hlk ho (fun I v2 H locs ls  hw hM hS hl => hw H locs ls  hM hS hl)  hw hM hS (lv_sub hl [0, 1, 2] rfl)
def w_X2_quietestStep_145 (o : Nat) (oh : Nat) (a1 : Int32) (post : Int32 → mI → Prop) (I : mI) (v2 : Int32) (v3 : Int32) (v4 : Int32) (v5 : Int32) : Prop := ∀ ZZ : (mI → Int32 → Int32 → Int32 → Int32 → Prop), (∀ (I : mI) (v2 : Int32) (v3 : Int32) (v4 : Int32) (v5 : Int32), (((I oh 0) ≤ v5 → post v4 I) ∧ (¬ (I oh 0) ≤ v5 → vp_in v5 25 ∧ ∀ x9, x9 = (v2 + (I (o + 11) v5.toNatClampNeg)) → (v3 ≤ x9 → ∀ x10, x10 = v5 + 1 → ZZ I x9 v3 v4 x10) ∧ (¬ v3 ≤ x9 → ∀ x11, x11 = v5 + 1 → ZZ I x9 x9 v5 x11))) → ZZ I v2 v3 v4 v5) → ZZ I v2 v3 v4 v5
set_option maxRecDepth 100000 in
set_option maxHeartbeats 4000000 in
theorem s_X2_quietestStep_145 {p : Program} {l : Launch} {e : Env} {s : State} {m : MethodId} {args : Array Value} {below : List Frame} {meth : Method} {c : Code} {D : va_G} {cA : Nat → ClassId} {Z : mZ} {bs : Ad} {n : Nat} {K : mK} {R : mR} {L : mL} (E : Ev p s m args c cX2_quietestStep 6 RX2 D cA Z bs) (hr : meth.sig.returnType = (some .int)) (hlk : meth.locks = false) {o : Nat} {oh : Nat} {a1 : Int32} (ho : isX2 K R o oh) {post : Int32 → mI → Prop} {I : mI} {v2 : Int32} {v3 : Int32} {v4 : Int32} {v5 : Int32} {H : Heap} {locs : List Loc} {ls : Array Slot} (hw : w_X2_quietestStep_145 o oh a1 post I v2 v3 v4 v5) (hM : mm D cA bs (n, K, R, I, L) H) (hS : va_S (Ab bs) s.heap H locs) (hl : lv_has ls 6 [(0, .ref (ad bs o)), (2, .int v2), (3, .int v3), (4, .int v4), (5, .int v5)]) : W p l e ({ frames := 1, cells := 0, slots := 0, locals := 40 } : Room) s m args below meth c H locs 0 0 (MQ below (QI D cA bs (fun r u => ∃ I', u = (n, K, R, I', L) ∧ post r I')) args s 0 0 (Ab bs)) (F0 m 145 ls []) := by
  have hx := E.1.1
  have hb := E.1.2.1
  refine hw (fun I v2 v3 v4 v5 => ∀ (H : Heap) (locs : List Loc) (ls : Array Slot), mm D cA bs (n, K, R, I, L) H → va_S (Ab bs) s.heap H locs → lv_has ls 6 [(0, .ref (ad bs o)), (2, .int v2), (3, .int v3), (4, .int v4), (5, .int v5)] → W p l e ({ frames := 1, cells := 0, slots := 0, locals := 40 } : Room) s m args below meth c H locs 0 0 (MQ below (QI D cA bs (fun r u => ∃ I', u = (n, K, R, I', L) ∧ post r I')) args s 0 0 (Ab bs)) (F0 m 145 ls [])) ?_ H locs ls hM hS hl
  clear hw hM hS hl
  intro I v2 v3 v4 v5 hw H locs ls hM hS hl
  refine lv_iload hx hb dX2_quietestStep_145 (lv_at hl 4 rfl) ?_
  refine lv_aload_n hx hb dX2_quietestStep_147 rfl (lv_at hl 0 rfl) ?_
  refine m_getr E hM fs_X2_60 ho.1.1 ho.2.1 dX2_quietestStep_148 ?_
  refine m_geti E hM fs_X2_94 ho.2.2.1 dX2_quietestStep_151 ?_
  refine lv_icmp_ge (tgt := 184) hx hb dX2_quietestStep_154 (by decide) (fun cq => ?_) (fun cq => ?_)
  · have hw := hw.1 cq
    refine lv_iload hx hb dX2_quietestStep_184 (lv_at hl 3 rfl) ?_
    exact m_reti hx hb hr hlk hM hS ⟨_, rfl, hw⟩ dX2_quietestStep_186
  · have hw := hw.2 cq
    refine lv_iload_n hx hb dX2_quietestStep_157 rfl (lv_at hl 1 rfl) ?_
    refine lv_aload_n hx hb dX2_quietestStep_158 rfl (lv_at hl 0 rfl) ?_
    refine m_getr E hM fs_X2_42 ho.1.1 (isO_at ho.1 10 rfl).1 dX2_quietestStep_159 ?_
    refine lv_iload hx hb dX2_quietestStep_162 (lv_at hl 4 rfl) ?_
    obtain ⟨hv, hw⟩ := hw
    refine m_iald E hM (isO_at ho.1 10 rfl).2 hv dX2_quietestStep_164 ?_
    refine lv_iadd hx hb dX2_quietestStep_165 ?_
    refine lv_topi (fun x9 ex9 => ?_)
    have hw := hw x9 ex9
    refine lv_istore_n (lv' := [(2, .int x9), (0, .ref (ad bs o)), (3, .int v3), (4, .int v4), (5, .int v5)]) hx hb dX2_quietestStep_166 rfl hl (by decide) rfl (fun ls hl => ?_)
    refine lv_iload_n hx hb dX2_quietestStep_167 rfl (lv_at hl 0 rfl) ?_
    refine lv_iload_n hx hb dX2_quietestStep_168 rfl (lv_at hl 2 rfl) ?_
    refine lv_icmp_ge (tgt := 178) hx hb dX2_quietestStep_169 (by decide) (fun cq => ?_) (fun cq => ?_)
    · have hw := hw.1 cq
      obtain ⟨x10, ex10⟩ : ∃ y : Int32, y = v5 + 1 := ⟨_, rfl⟩
      have hw := hw x10 ex10
      refine lv_iinc (v := x10) (lv' := [(5, .int x10), (2, .int x9), (0, .ref (ad bs o)), (3, .int v3), (4, .int v4)]) hx hb dX2_quietestStep_178 hl (k := 4) rfl (by rw [ex10]; rfl) (by decide) rfl (fun ls hl => ?_)
      refine lv_goto (tgt := 145) hx hb dX2_quietestStep_181 (by decide) ?_
      exact hw H locs ls  hM hS (lv_sub hl [2, 1, 3, 4, 0] rfl)
    · have hw := hw.2 cq
      refine lv_iload_n hx hb dX2_quietestStep_172 rfl (lv_at hl 0 rfl) ?_
      refine lv_istore_n (lv' := [(3, .int x9), (2, .int x9), (0, .ref (ad bs o)), (4, .int v4), (5, .int v5)]) hx hb dX2_quietestStep_173 rfl hl (by decide) rfl (fun ls hl => ?_)
      refine lv_iload hx hb dX2_quietestStep_174 (lv_at hl 4 rfl) ?_
      refine lv_istore (lv' := [(4, .int v5), (3, .int x9), (2, .int x9), (0, .ref (ad bs o)), (5, .int v5)]) hx hb dX2_quietestStep_176 hl (by decide) rfl (fun ls hl => ?_)
      obtain ⟨x11, ex11⟩ : ∃ y : Int32, y = v5 + 1 := ⟨_, rfl⟩
      have hw := hw x11 ex11
      refine lv_iinc (v := x11) (lv' := [(5, .int x11), (4, .int v5), (3, .int x9), (2, .int x9), (0, .ref (ad bs o))]) hx hb dX2_quietestStep_178 hl (k := 4) rfl (by rw [ex11]; rfl) (by decide) rfl (fun ls hl => ?_)
      refine lv_goto (tgt := 145) hx hb dX2_quietestStep_181 (by decide) ?_
      exact hw H locs ls  hM hS (lv_sub hl [4, 3, 2, 1, 0] rfl)
def w_X2_quietestStep_130 (o : Nat) (oh : Nat) (a1 : Int32) (post : Int32 → mI → Prop) (I : mI) : Prop := ∀ x8, x8 = (I (o + 11) (0 : Int32).toNatClampNeg) → (w_X2_quietestStep_145 o oh a1 post) I x8 x8 0 1
set_option maxRecDepth 100000 in
set_option maxHeartbeats 4000000 in
theorem s_X2_quietestStep_130 {p : Program} {l : Launch} {e : Env} {s : State} {m : MethodId} {args : Array Value} {below : List Frame} {meth : Method} {c : Code} {D : va_G} {cA : Nat → ClassId} {Z : mZ} {bs : Ad} {n : Nat} {K : mK} {R : mR} {L : mL} (E : Ev p s m args c cX2_quietestStep 6 RX2 D cA Z bs) (hr : meth.sig.returnType = (some .int)) (hlk : meth.locks = false) {o : Nat} {oh : Nat} {a1 : Int32} (ho : isX2 K R o oh) {post : Int32 → mI → Prop} {I : mI} {H : Heap} {locs : List Loc} {ls : Array Slot} (hw : w_X2_quietestStep_130 o oh a1 post I) (hM : mm D cA bs (n, K, R, I, L) H) (hS : va_S (Ab bs) s.heap H locs) (hl : lv_has ls 6 [(0, .ref (ad bs o))]) : W p l e ({ frames := 1, cells := 0, slots := 0, locals := 40 } : Room) s m args below meth c H locs 0 0 (MQ below (QI D cA bs (fun r u => ∃ I', u = (n, K, R, I', L) ∧ post r I')) args s 0 0 (Ab bs)) (F0 m 130 ls []) := by
  have hx := E.1.1
  have hb := E.1.2.1
  refine lv_aload_n hx hb dX2_quietestStep_130 rfl (lv_at hl 0 rfl) ?_
  refine m_getr E hM fs_X2_42 ho.1.1 (isO_at ho.1 10 rfl).1 dX2_quietestStep_131 ?_
  refine lv_iconst (v := 0) hx hb dX2_quietestStep_134 (by decide) ?_
  refine m_iald E hM (isO_at ho.1 10 rfl).2 (by unfold vp_in; decide) dX2_quietestStep_135 ?_
  refine lv_topi (fun x8 ex8 => ?_)
  have hw := hw x8 ex8
  refine lv_istore_n (lv' := [(2, .int x8), (0, .ref (ad bs o))]) hx hb dX2_quietestStep_136 rfl hl (by decide) rfl (fun ls hl => ?_)
  refine lv_iload_n hx hb dX2_quietestStep_137 rfl (lv_at hl 0 rfl) ?_
  refine lv_istore_n (lv' := [(3, .int x8), (2, .int x8), (0, .ref (ad bs o))]) hx hb dX2_quietestStep_138 rfl hl (by decide) rfl (fun ls hl => ?_)
  refine lv_iconst (v := 0) hx hb dX2_quietestStep_139 (by decide) ?_
  refine lv_istore (lv' := [(4, .int 0), (3, .int x8), (2, .int x8), (0, .ref (ad bs o))]) hx hb dX2_quietestStep_140 hl (by decide) rfl (fun ls hl => ?_)
  refine lv_iconst (v := 1) hx hb dX2_quietestStep_142 (by decide) ?_
  refine lv_istore (lv' := [(5, .int 1), (4, .int 0), (3, .int x8), (2, .int x8), (0, .ref (ad bs o))]) hx hb dX2_quietestStep_143 hl (by decide) rfl (fun ls hl => ?_)
  exact s_X2_quietestStep_145 E hr hlk ho  hw hM hS (lv_sub hl [4, 3, 2, 1, 0] rfl)
def w_X2_quietestStep (I : mI) (o : Nat) (oh : Nat) (a1 : Int32) (post : Int32 → mI → Prop) : Prop := w_J7_fill_53178 I (o + 11) 25 0 (fun I1 => (w_X2_quietestStep_10 o oh a1 post (w_X2_quietestStep_130 o oh a1 post)) I1 0)
set_option maxRecDepth 100000 in
set_option maxHeartbeats 4000000 in
theorem c_X2_quietestStep {l : Launch} {D : va_G} {cA : Nat → ClassId} {Z : mZ} {bs : Ad} {n : Nat} {K : mK} {R : mR} {I : mI} {L : mL} {o : Nat} {oh : Nat} {a1 : Int32} {post : Int32 → mI → Prop} (ho : isX2 K R o oh) (hw : w_X2_quietestStep I o oh a1 post) : Met l yX2_quietestStep (.code yX2_quietestStep cX2_quietestStep 6 (some .int) :: gw) ({ frames := 1, cells := 0, slots := 0, locals := 40 } : Room) (PreM D cA Z bs (n, K, R, I, L) [.ref (ad bs o), .int a1]) (QI D cA bs (fun r u => ∃ I', u = (n, K, R, I', L) ∧ post r I')) 0 0 (Ab bs) := by
  refine m_met (by decide) (Nat.le_of_ble_eq_true rfl) (fun p e s m below meth c ls E hr hlk hM hS hl => ?_)
  have E : Ev p s m _ c cX2_quietestStep 6 RX2 D cA Z bs := E
  have hl : lv_has ls 6 [(0, .ref (ad bs o)), (1, .int a1)] := hl
  have hx := E.1.1
  have hb := E.1.2.1
  generalize hHe : s.heap = H at hM ⊢
  have hS : va_S (Ab bs) s.heap H [] := by rw [← hHe]; exact va_S.rf
  clear hHe
  refine lv_aload_n hx hb dX2_quietestStep_0 rfl (lv_at hl 0 rfl) ?_
  refine m_getr E hM fs_X2_42 ho.1.1 (isO_at ho.1 10 rfl).1 dX2_quietestStep_1 ?_
  refine lv_iconst (v := 0) hx hb dX2_quietestStep_4 (by decide) ?_
  refine m_cv (m_runS E hM hS cs_X2_68 (c_J7_fill_53178 ((isO_at ho.1 10 rfl).2) hw) rfl rfl ⟨Nat.le_of_ble_eq_true rfl, Nat.le_of_ble_eq_true rfl⟩ rfl hl.1 rfl (Nat.le_of_ble_eq_true rfl) dX2_quietestStep_5 ⟨Nat.le_of_ble_eq_true rfl, Nat.le_of_ble_eq_true rfl⟩) hS (fun u H locs hp hM hS => ?_)
  obtain ⟨I1, rfl, hw⟩ := hp
  refine lv_iconst (v := 0) hx hb dX2_quietestStep_8 (by decide) ?_
  refine lv_istore_n (lv' := [(2, .int 0), (0, .ref (ad bs o)), (1, .int a1)]) hx hb dX2_quietestStep_9 rfl hl (by decide) rfl (fun ls hl => ?_)
  exact s_X2_quietestStep_10 E hr hlk ho (fun I H locs ls  hw hM hS hl => s_X2_quietestStep_130 E hr hlk ho  hw hM hS hl)  hw hM hS (lv_sub hl [1, 2, 0] rfl)
theorem dX2_isUnheardIn_0 : decode cX2_isUnheardIn 0 = .ok (.iconst 0, 1) := by decide +kernel
theorem dX2_isUnheardIn_1 : decode cX2_isUnheardIn 1 = .ok (.istore_n 3, 1) := by decide +kernel
theorem dX2_isUnheardIn_2 : decode cX2_isUnheardIn 2 = .ok (.iload_n 3, 1) := by decide +kernel
theorem dX2_isUnheardIn_3 : decode cX2_isUnheardIn 3 = .ok (.aload_n 0, 1) := by decide +kernel
theorem dX2_isUnheardIn_4 : decode cX2_isUnheardIn 4 = .ok (.getfield 64, 3) := by decide +kernel
theorem dX2_isUnheardIn_7 : decode cX2_isUnheardIn 7 = .ok (.if_icmp .ge 49, 3) := by decide +kernel
theorem dX2_isUnheardIn_10 : decode cX2_isUnheardIn 10 = .ok (.aload_n 0, 1) := by decide +kernel
theorem dX2_isUnheardIn_11 : decode cX2_isUnheardIn 11 = .ok (.getfield 9, 3) := by decide +kernel
theorem dX2_isUnheardIn_14 : decode cX2_isUnheardIn 14 = .ok (.iload_n 3, 1) := by decide +kernel
theorem dX2_isUnheardIn_15 : decode cX2_isUnheardIn 15 = .ok (.iaload, 1) := by decide +kernel
theorem dX2_isUnheardIn_16 : decode cX2_isUnheardIn 16 = .ok (.iload_n 1, 1) := by decide +kernel
theorem dX2_isUnheardIn_17 : decode cX2_isUnheardIn 17 = .ok (.if_icmp .ne 33, 3) := by decide +kernel
theorem dX2_isUnheardIn_20 : decode cX2_isUnheardIn 20 = .ok (.aload_n 0, 1) := by decide +kernel
theorem dX2_isUnheardIn_21 : decode cX2_isUnheardIn 21 = .ok (.aload_n 0, 1) := by decide +kernel
theorem dX2_isUnheardIn_22 : decode cX2_isUnheardIn 22 = .ok (.getfield 15, 3) := by decide +kernel
theorem dX2_isUnheardIn_25 : decode cX2_isUnheardIn 25 = .ok (.iload_n 3, 1) := by decide +kernel
theorem dX2_isUnheardIn_26 : decode cX2_isUnheardIn 26 = .ok (.iaload, 1) := by decide +kernel
theorem dX2_isUnheardIn_27 : decode cX2_isUnheardIn 27 = .ok (.aload_n 0, 1) := by decide +kernel
theorem dX2_isUnheardIn_28 : decode cX2_isUnheardIn 28 = .ok (.getfield 60, 3) := by decide +kernel
theorem dX2_isUnheardIn_31 : decode cX2_isUnheardIn 31 = .ok (.iload_n 1, 1) := by decide +kernel
theorem dX2_isUnheardIn_32 : decode cX2_isUnheardIn 32 = .ok (.aload_n 0, 1) := by decide +kernel
theorem dX2_isUnheardIn_33 : decode cX2_isUnheardIn 33 = .ok (.getfield 15, 3) := by decide +kernel
theorem dX2_isUnheardIn_36 : decode cX2_isUnheardIn 36 = .ok (.iload_n 3, 1) := by decide +kernel
theorem dX2_isUnheardIn_37 : decode cX2_isUnheardIn 37 = .ok (.iaload, 1) := by decide +kernel
theorem dX2_isUnheardIn_38 : decode cX2_isUnheardIn 38 = .ok (.iload_n 2, 1) := by decide +kernel
theorem dX2_isUnheardIn_39 : decode cX2_isUnheardIn 39 = .ok (.invokevirtual 139, 3) := by decide +kernel
theorem dX2_isUnheardIn_42 : decode cX2_isUnheardIn 42 = .ok (.invokevirtual 145, 3) := by decide +kernel
theorem dX2_isUnheardIn_45 : decode cX2_isUnheardIn 45 = .ok (.ifCond .eq 5, 3) := by decide +kernel
theorem dX2_isUnheardIn_48 : decode cX2_isUnheardIn 48 = .ok (.iconst 0, 1) := by decide +kernel
theorem dX2_isUnheardIn_49 : decode cX2_isUnheardIn 49 = .ok (.ireturn, 1) := by decide +kernel
theorem dX2_isUnheardIn_50 : decode cX2_isUnheardIn 50 = .ok (.iinc 3 1, 3) := by decide +kernel
theorem dX2_isUnheardIn_53 : decode cX2_isUnheardIn 53 = .ok (.goto (-51), 3) := by decide +kernel
theorem dX2_isUnheardIn_56 : decode cX2_isUnheardIn 56 = .ok (.iconst 1, 1) := by decide +kernel
theorem dX2_isUnheardIn_57 : decode cX2_isUnheardIn 57 = .ok (.ireturn, 1) := by decide +kernel
def w_X2_isUnheardIn_2 (I : mI) (o : Nat) (oh : Nat) (a1 : Int32) (a2 : Int32) (post : Bool → Prop) (v3 : Int32) : Prop := ∀ ZZ : (Int32 → Prop), (∀ (v3 : Int32), (((I o 2) ≤ v3 → post true) ∧ (¬ (I o 2) ≤ v3 → vp_in v3 600 ∧ (¬ (I (o + 1) v3.toNatClampNeg) = a1 → ∀ x1, x1 = v3 + 1 → ZZ x1) ∧ ((I (o + 1) v3.toNatClampNeg) = a1 → vp_in v3 600 ∧ vp_in v3 600 ∧ w_X3_loudOf I oh a1 (I (o + 2) v3.toNatClampNeg) a2 (fun r2 => w_X2_hearers I o oh (I (o + 2) v3.toNatClampNeg) r2 (fun r3 => (r3 = 0 → ∀ x4, x4 = v3 + 1 → ZZ x4) ∧ (¬ r3 = 0 → post false)))))) → ZZ v3) → ZZ v3
set_option maxRecDepth 100000 in
set_option maxHeartbeats 4000000 in
theorem s_X2_isUnheardIn_2 {p : Program} {l : Launch} {e : Env} {s : State} {m : MethodId} {args : Array Value} {below : List Frame} {meth : Method} {c : Code} {D : va_G} {cA : Nat → ClassId} {Z : mZ} {bs : Ad} {n : Nat} {K : mK} {R : mR} {I : mI} {L : mL} (E : Ev p s m args c cX2_isUnheardIn 4 RX2 D cA Z bs) (hr : meth.sig.returnType = (some .boolean)) (hlk : meth.locks = false) {o : Nat} {oh : Nat} {a1 : Int32} {a2 : Int32} (ho : isX2 K R o oh) {post : Bool → Prop} {v3 : Int32} {H : Heap} {locs : List Loc} {ls : Array Slot} (hw : w_X2_isUnheardIn_2 I o oh a1 a2 post v3) (hM : mm D cA bs (n, K, R, I, L) H) (hS : va_S (Ab bs) s.heap H locs) (hl : lv_has ls 4 [(0, .ref (ad bs o)), (1, .int a1), (2, .int a2), (3, .int v3)]) : W p l e ({ frames := 2, cells := 0, slots := 0, locals := 63 } : Room) s m args below meth c H locs 0 0 (MQ below (QI D cA bs (fun r u => ∃ b, r = bI b ∧ u = (n, K, R, I, L) ∧ post b)) args s 0 0 (Ab bs)) (F0 m 2 ls []) := by
  have hx := E.1.1
  have hb := E.1.2.1
  refine hw (fun v3 => ∀ (H : Heap) (locs : List Loc) (ls : Array Slot), mm D cA bs (n, K, R, I, L) H → va_S (Ab bs) s.heap H locs → lv_has ls 4 [(0, .ref (ad bs o)), (1, .int a1), (2, .int a2), (3, .int v3)] → W p l e ({ frames := 2, cells := 0, slots := 0, locals := 63 } : Room) s m args below meth c H locs 0 0 (MQ below (QI D cA bs (fun r u => ∃ b, r = bI b ∧ u = (n, K, R, I, L) ∧ post b)) args s 0 0 (Ab bs)) (F0 m 2 ls [])) ?_ H locs ls hM hS hl
  clear hw hM hS hl
  intro v3 hw H locs ls hM hS hl
  refine lv_iload_n hx hb dX2_isUnheardIn_2 rfl (lv_at hl 3 rfl) ?_
  refine lv_aload_n hx hb dX2_isUnheardIn_3 rfl (lv_at hl 0 rfl) ?_
  refine m_geti E hM fs_X2_64 ho.1.1 dX2_isUnheardIn_4 ?_
  refine lv_icmp_ge (tgt := 56) hx hb dX2_isUnheardIn_7 (by decide) (fun cq => ?_) (fun cq => ?_)
  · have hw := hw.1 cq
    refine lv_iconst (v := 1) hx hb dX2_isUnheardIn_56 (by decide) ?_
    exact m_retz hx hb hr hlk (Or.inr rfl) hM hS ⟨true, rfl, rfl, hw⟩ dX2_isUnheardIn_57
  · have hw := hw.2 cq
    refine lv_aload_n hx hb dX2_isUnheardIn_10 rfl (lv_at hl 0 rfl) ?_
    refine m_getr E hM fs_X2_9 ho.1.1 (isO_at ho.1 0 rfl).1 dX2_isUnheardIn_11 ?_
    refine lv_iload_n hx hb dX2_isUnheardIn_14 rfl (lv_at hl 3 rfl) ?_
    obtain ⟨hv, hw⟩ := hw
    refine m_iald E hM (isO_at ho.1 0 rfl).2 hv dX2_isUnheardIn_15 ?_
    refine lv_iload_n hx hb dX2_isUnheardIn_16 rfl (lv_at hl 1 rfl) ?_
    refine lv_icmp_ne (tgt := 50) hx hb dX2_isUnheardIn_17 (by decide) (fun cq => ?_) (fun cq => ?_)
    · have hw := hw.1 cq
      obtain ⟨x1, ex1⟩ : ∃ y : Int32, y = v3 + 1 := ⟨_, rfl⟩
      have hw := hw x1 ex1
      refine lv_iinc (v := x1) (lv' := [(3, .int x1), (0, .ref (ad bs o)), (1, .int a1), (2, .int a2)]) hx hb dX2_isUnheardIn_50 hl (k := 3) rfl (by rw [ex1]; rfl) (by decide) rfl (fun ls hl => ?_)
      refine lv_goto (tgt := 2) hx hb dX2_isUnheardIn_53 (by decide) ?_
      exact hw H locs ls  hM hS (lv_sub hl [1, 2, 3, 0] rfl)
    · have hw := hw.2 cq
      refine lv_aload_n hx hb dX2_isUnheardIn_20 rfl (lv_at hl 0 rfl) ?_
      refine lv_aload_n hx hb dX2_isUnheardIn_21 rfl (lv_at hl 0 rfl) ?_
      refine m_getr E hM fs_X2_15 ho.1.1 (isO_at ho.1 1 rfl).1 dX2_isUnheardIn_22 ?_
      refine lv_iload_n hx hb dX2_isUnheardIn_25 rfl (lv_at hl 3 rfl) ?_
      obtain ⟨hv, hw⟩ := hw
      refine m_iald E hM (isO_at ho.1 1 rfl).2 hv dX2_isUnheardIn_26 ?_
      refine lv_aload_n hx hb dX2_isUnheardIn_27 rfl (lv_at hl 0 rfl) ?_
      refine m_getr E hM fs_X2_60 ho.1.1 ho.2.1 dX2_isUnheardIn_28 ?_
      refine lv_iload_n hx hb dX2_isUnheardIn_31 rfl (lv_at hl 1 rfl) ?_
      refine lv_aload_n hx hb dX2_isUnheardIn_32 rfl (lv_at hl 0 rfl) ?_
      refine m_getr E hM fs_X2_15 ho.1.1 (isO_at ho.1 1 rfl).1 dX2_isUnheardIn_33 ?_
      refine lv_iload_n hx hb dX2_isUnheardIn_36 rfl (lv_at hl 3 rfl) ?_
      obtain ⟨hv, hw⟩ := hw
      refine m_iald E hM (isO_at ho.1 1 rfl).2 hv dX2_isUnheardIn_37 ?_
      refine lv_iload_n hx hb dX2_isUnheardIn_38 rfl (lv_at hl 2 rfl) ?_
      refine m_ci (m_runV E hM hS cs_X2_139 ho.2.2.1 (by decide) rfl rfl (c_X3_loudOf ho.2.2 hw) rfl rfl ⟨Nat.le_of_ble_eq_true rfl, Nat.le_of_ble_eq_true rfl⟩ rfl hl.1 rfl (Nat.le_of_ble_eq_true rfl) dX2_isUnheardIn_39 ⟨Nat.le_of_ble_eq_true rfl, Nat.le_of_ble_eq_true rfl⟩) hS (fun r2 u H locs hp hM hS => ?_)
      obtain ⟨rfl, hw⟩ := hp
      refine m_ci (m_runV E hM hS cs_X2_145 ho.1.1 (by decide) rfl rfl (c_X2_hearers ho hw) rfl rfl ⟨Nat.le_of_ble_eq_true rfl, Nat.le_of_ble_eq_true rfl⟩ rfl hl.1 rfl (Nat.le_of_ble_eq_true rfl) dX2_isUnheardIn_42 ⟨Nat.le_of_ble_eq_true rfl, Nat.le_of_ble_eq_true rfl⟩) hS (fun r3 u H locs hp hM hS => ?_)
      obtain ⟨rfl, hw⟩ := hp
      refine lv_if_eq (tgt := 50) hx hb dX2_isUnheardIn_45 (by decide) (fun cq => ?_) (fun cq => ?_)
      · have hw := hw.1 cq
        obtain ⟨x4, ex4⟩ : ∃ y : Int32, y = v3 + 1 := ⟨_, rfl⟩
        have hw := hw x4 ex4
        refine lv_iinc (v := x4) (lv' := [(3, .int x4), (0, .ref (ad bs o)), (1, .int a1), (2, .int a2)]) hx hb dX2_isUnheardIn_50 hl (k := 3) rfl (by rw [ex4]; rfl) (by decide) rfl (fun ls hl => ?_)
        refine lv_goto (tgt := 2) hx hb dX2_isUnheardIn_53 (by decide) ?_
        exact hw H locs ls  hM hS (lv_sub hl [1, 2, 3, 0] rfl)
      · have hw := hw.2 cq
        refine lv_iconst (v := 0) hx hb dX2_isUnheardIn_48 (by decide) ?_
        exact m_retz hx hb hr hlk (Or.inl rfl) hM hS ⟨false, rfl, rfl, hw⟩ dX2_isUnheardIn_49
def w_X2_isUnheardIn (I : mI) (o : Nat) (oh : Nat) (a1 : Int32) (a2 : Int32) (post : Bool → Prop) : Prop := (w_X2_isUnheardIn_2 I o oh a1 a2 post) 0
set_option maxRecDepth 100000 in
set_option maxHeartbeats 4000000 in
theorem c_X2_isUnheardIn {l : Launch} {D : va_G} {cA : Nat → ClassId} {Z : mZ} {bs : Ad} {n : Nat} {K : mK} {R : mR} {I : mI} {L : mL} {o : Nat} {oh : Nat} {a1 : Int32} {a2 : Int32} {post : Bool → Prop} (ho : isX2 K R o oh) (hw : w_X2_isUnheardIn I o oh a1 a2 post) : Met l yX2_isUnheardIn (.code yX2_isUnheardIn cX2_isUnheardIn 4 (some .boolean) :: gw) ({ frames := 2, cells := 0, slots := 0, locals := 63 } : Room) (PreM D cA Z bs (n, K, R, I, L) [.ref (ad bs o), .int a1, .int a2]) (QI D cA bs (fun r u => ∃ b, r = bI b ∧ u = (n, K, R, I, L) ∧ post b)) 0 0 (Ab bs) := by
  refine m_met (by decide) (Nat.le_of_ble_eq_true rfl) (fun p e s m below meth c ls E hr hlk hM hS hl => ?_)
  have E : Ev p s m _ c cX2_isUnheardIn 4 RX2 D cA Z bs := E
  have hl : lv_has ls 4 [(0, .ref (ad bs o)), (1, .int a1), (2, .int a2)] := hl
  have hx := E.1.1
  have hb := E.1.2.1
  generalize hHe : s.heap = H at hM ⊢
  have hS : va_S (Ab bs) s.heap H [] := by rw [← hHe]; exact va_S.rf
  clear hHe
  refine lv_iconst (v := 0) hx hb dX2_isUnheardIn_0 (by decide) ?_
  refine lv_istore_n (lv' := [(3, .int 0), (0, .ref (ad bs o)), (1, .int a1), (2, .int a2)]) hx hb dX2_isUnheardIn_1 rfl hl (by decide) rfl (fun ls hl => ?_)
  exact s_X2_isUnheardIn_2 E hr hlk ho  hw hM hS (lv_sub hl [1, 2, 3, 0] rfl)
theorem dX2_loudestUnheardShoe_0 : decode cX2_loudestUnheardShoe 0 = .ok (.bipush 9, 2) := by decide +kernel
theorem dX2_loudestUnheardShoe_2 : decode cX2_loudestUnheardShoe 2 = .ok (.istore_n 2, 1) := by decide +kernel
theorem dX2_loudestUnheardShoe_3 : decode cX2_loudestUnheardShoe 3 = .ok (.iload_n 2, 1) := by decide +kernel
theorem dX2_loudestUnheardShoe_4 : decode cX2_loudestUnheardShoe 4 = .ok (.ifCond .lt 20, 3) := by decide +kernel
theorem dX2_loudestUnheardShoe_7 : decode cX2_loudestUnheardShoe 7 = .ok (.aload_n 0, 1) := by decide +kernel
theorem dX2_loudestUnheardShoe_8 : decode cX2_loudestUnheardShoe 8 = .ok (.iload_n 1, 1) := by decide +kernel
theorem dX2_loudestUnheardShoe_9 : decode cX2_loudestUnheardShoe 9 = .ok (.iload_n 2, 1) := by decide +kernel
theorem dX2_loudestUnheardShoe_10 : decode cX2_loudestUnheardShoe 10 = .ok (.invokevirtual 188, 3) := by decide +kernel
theorem dX2_loudestUnheardShoe_13 : decode cX2_loudestUnheardShoe 13 = .ok (.ifCond .eq 5, 3) := by decide +kernel
theorem dX2_loudestUnheardShoe_16 : decode cX2_loudestUnheardShoe 16 = .ok (.iload_n 2, 1) := by decide +kernel
theorem dX2_loudestUnheardShoe_17 : decode cX2_loudestUnheardShoe 17 = .ok (.ireturn, 1) := by decide +kernel
theorem dX2_loudestUnheardShoe_18 : decode cX2_loudestUnheardShoe 18 = .ok (.iinc 2 (-1), 3) := by decide +kernel
theorem dX2_loudestUnheardShoe_21 : decode cX2_loudestUnheardShoe 21 = .ok (.goto (-18), 3) := by decide +kernel
theorem dX2_loudestUnheardShoe_24 : decode cX2_loudestUnheardShoe 24 = .ok (.iconst (-1), 1) := by decide +kernel
theorem dX2_loudestUnheardShoe_25 : decode cX2_loudestUnheardShoe 25 = .ok (.ireturn, 1) := by decide +kernel
def w_X2_loudestUnheardShoe_3 (I : mI) (o : Nat) (oh : Nat) (a1 : Int32) (post : Int32 → Prop) (v2 : Int32) : Prop := ∀ ZZ : (Int32 → Prop), (∀ (v2 : Int32), ((v2 < 0 → post (-1)) ∧ (¬ v2 < 0 → w_X2_isUnheardIn I o oh a1 v2 (fun b1 => (b1 = false → ∀ x2, x2 = v2 + (-1) → ZZ x2) ∧ (b1 = true → post v2)))) → ZZ v2) → ZZ v2
set_option maxRecDepth 100000 in
set_option maxHeartbeats 4000000 in
theorem s_X2_loudestUnheardShoe_3 {p : Program} {l : Launch} {e : Env} {s : State} {m : MethodId} {args : Array Value} {below : List Frame} {meth : Method} {c : Code} {D : va_G} {cA : Nat → ClassId} {Z : mZ} {bs : Ad} {n : Nat} {K : mK} {R : mR} {I : mI} {L : mL} (E : Ev p s m args c cX2_loudestUnheardShoe 3 RX2 D cA Z bs) (hr : meth.sig.returnType = (some .int)) (hlk : meth.locks = false) {o : Nat} {oh : Nat} {a1 : Int32} (ho : isX2 K R o oh) {post : Int32 → Prop} {v2 : Int32} {H : Heap} {locs : List Loc} {ls : Array Slot} (hw : w_X2_loudestUnheardShoe_3 I o oh a1 post v2) (hM : mm D cA bs (n, K, R, I, L) H) (hS : va_S (Ab bs) s.heap H locs) (hl : lv_has ls 3 [(0, .ref (ad bs o)), (1, .int a1), (2, .int v2)]) : W p l e ({ frames := 3, cells := 0, slots := 0, locals := 86 } : Room) s m args below meth c H locs 0 0 (MQ below (QI D cA bs (fun r u => u = (n, K, R, I, L) ∧ post r)) args s 0 0 (Ab bs)) (F0 m 3 ls []) := by
  have hx := E.1.1
  have hb := E.1.2.1
  refine hw (fun v2 => ∀ (H : Heap) (locs : List Loc) (ls : Array Slot), mm D cA bs (n, K, R, I, L) H → va_S (Ab bs) s.heap H locs → lv_has ls 3 [(0, .ref (ad bs o)), (1, .int a1), (2, .int v2)] → W p l e ({ frames := 3, cells := 0, slots := 0, locals := 86 } : Room) s m args below meth c H locs 0 0 (MQ below (QI D cA bs (fun r u => u = (n, K, R, I, L) ∧ post r)) args s 0 0 (Ab bs)) (F0 m 3 ls [])) ?_ H locs ls hM hS hl
  clear hw hM hS hl
  intro v2 hw H locs ls hM hS hl
  refine lv_iload_n hx hb dX2_loudestUnheardShoe_3 rfl (lv_at hl 2 rfl) ?_
  refine lv_if_lt (tgt := 24) hx hb dX2_loudestUnheardShoe_4 (by decide) (fun cq => ?_) (fun cq => ?_)
  · have hw := hw.1 cq
    refine lv_iconst (v := (-1)) hx hb dX2_loudestUnheardShoe_24 (by decide) ?_
    exact m_reti hx hb hr hlk hM hS ⟨rfl, hw⟩ dX2_loudestUnheardShoe_25
  · have hw := hw.2 cq
    refine lv_aload_n hx hb dX2_loudestUnheardShoe_7 rfl (lv_at hl 0 rfl) ?_
    refine lv_iload_n hx hb dX2_loudestUnheardShoe_8 rfl (lv_at hl 1 rfl) ?_
    refine lv_iload_n hx hb dX2_loudestUnheardShoe_9 rfl (lv_at hl 2 rfl) ?_
    refine m_ci (m_runV E hM hS cs_X2_188 ho.1.1 (by decide) rfl rfl (c_X2_isUnheardIn ho hw) rfl rfl ⟨Nat.le_of_ble_eq_true rfl, Nat.le_of_ble_eq_true rfl⟩ rfl hl.1 rfl (Nat.le_of_ble_eq_true rfl) dX2_loudestUnheardShoe_10 ⟨Nat.le_of_ble_eq_true rfl, Nat.le_of_ble_eq_true rfl⟩) hS (fun r9 u H locs hp hM hS => ?_)
    obtain ⟨b1, rfl, rfl, hw⟩ := hp
    refine lv_if_eq (tgt := 18) hx hb dX2_loudestUnheardShoe_13 (by decide) (fun cq => ?_) (fun cq => ?_)
    · have hw := hw.1 (bI_f cq)
      obtain ⟨x2, ex2⟩ : ∃ y : Int32, y = v2 + (-1) := ⟨_, rfl⟩
      have hw := hw x2 ex2
      refine lv_iinc (v := x2) (lv' := [(2, .int x2), (0, .ref (ad bs o)), (1, .int a1)]) hx hb dX2_loudestUnheardShoe_18 hl (k := 2) rfl (by rw [ex2]; rfl) (by decide) rfl (fun ls hl => ?_)
      refine lv_goto (tgt := 3) hx hb dX2_loudestUnheardShoe_21 (by decide) ?_
      exact hw H locs ls  hM hS (lv_sub hl [1, 2, 0] rfl)
    · have hw := hw.2 (bI_t cq)
      refine lv_iload_n hx hb dX2_loudestUnheardShoe_16 rfl (lv_at hl 2 rfl) ?_
      exact m_reti hx hb hr hlk hM hS ⟨rfl, hw⟩ dX2_loudestUnheardShoe_17
def w_X2_loudestUnheardShoe (I : mI) (o : Nat) (oh : Nat) (a1 : Int32) (post : Int32 → Prop) : Prop := (w_X2_loudestUnheardShoe_3 I o oh a1 post) 9
set_option maxRecDepth 100000 in
set_option maxHeartbeats 4000000 in
theorem c_X2_loudestUnheardShoe {l : Launch} {D : va_G} {cA : Nat → ClassId} {Z : mZ} {bs : Ad} {n : Nat} {K : mK} {R : mR} {I : mI} {L : mL} {o : Nat} {oh : Nat} {a1 : Int32} {post : Int32 → Prop} (ho : isX2 K R o oh) (hw : w_X2_loudestUnheardShoe I o oh a1 post) : Met l yX2_loudestUnheardShoe (.code yX2_loudestUnheardShoe cX2_loudestUnheardShoe 3 (some .int) :: gw) ({ frames := 3, cells := 0, slots := 0, locals := 86 } : Room) (PreM D cA Z bs (n, K, R, I, L) [.ref (ad bs o), .int a1]) (QI D cA bs (fun r u => u = (n, K, R, I, L) ∧ post r)) 0 0 (Ab bs) := by
  refine m_met (by decide) (Nat.le_of_ble_eq_true rfl) (fun p e s m below meth c ls E hr hlk hM hS hl => ?_)
  have E : Ev p s m _ c cX2_loudestUnheardShoe 3 RX2 D cA Z bs := E
  have hl : lv_has ls 3 [(0, .ref (ad bs o)), (1, .int a1)] := hl
  have hx := E.1.1
  have hb := E.1.2.1
  generalize hHe : s.heap = H at hM ⊢
  have hS : va_S (Ab bs) s.heap H [] := by rw [← hHe]; exact va_S.rf
  clear hHe
  refine lv_bipush (v := 9) hx hb dX2_loudestUnheardShoe_0 (by decide) ?_
  refine lv_istore_n (lv' := [(2, .int 9), (0, .ref (ad bs o)), (1, .int a1)]) hx hb dX2_loudestUnheardShoe_2 rfl hl (by decide) rfl (fun ls hl => ?_)
  exact s_X2_loudestUnheardShoe_3 E hr hlk ho  hw hM hS (lv_sub hl [1, 2, 0] rfl)
theorem dX3_clear_0 : decode cX3_clear 0 = .ok (.aload_n 0, 1) := by decide +kernel
theorem dX3_clear_1 : decode cX3_clear 1 = .ok (.bipush 12, 2) := by decide +kernel
theorem dX3_clear_3 : decode cX3_clear 3 = .ok (.putfield 51, 3) := by decide +kernel
theorem dX3_clear_6 : decode cX3_clear 6 = .ok (.aload_n 0, 1) := by decide +kernel
theorem dX3_clear_7 : decode cX3_clear 7 = .ok (.bipush 60, 2) := by decide +kernel
theorem dX3_clear_9 : decode cX3_clear 9 = .ok (.putfield 55, 3) := by decide +kernel
theorem dX3_clear_12 : decode cX3_clear 12 = .ok (.aload_n 0, 1) := by decide +kernel
theorem dX3_clear_13 : decode cX3_clear 13 = .ok (.iconst 0, 1) := by decide +kernel
theorem dX3_clear_14 : decode cX3_clear 14 = .ok (.putfield 58, 3) := by decide +kernel
theorem dX3_clear_17 : decode cX3_clear 17 = .ok (.aload_n 0, 1) := by decide +kernel
theorem dX3_clear_18 : decode cX3_clear 18 = .ok (.iconst 0, 1) := by decide +kernel
theorem dX3_clear_19 : decode cX3_clear 19 = .ok (.putfield 61, 3) := by decide +kernel
theorem dX3_clear_22 : decode cX3_clear 22 = .ok (.aload_n 0, 1) := by decide +kernel
theorem dX3_clear_23 : decode cX3_clear 23 = .ok (.iconst 0, 1) := by decide +kernel
theorem dX3_clear_24 : decode cX3_clear 24 = .ok (.putfield 64, 3) := by decide +kernel
theorem dX3_clear_27 : decode cX3_clear 27 = .ok (.aload_n 0, 1) := by decide +kernel
theorem dX3_clear_28 : decode cX3_clear 28 = .ok (.getfield 9, 3) := by decide +kernel
theorem dX3_clear_31 : decode cX3_clear 31 = .ok (.iconst 0, 1) := by decide +kernel
theorem dX3_clear_32 : decode cX3_clear 32 = .ok (.invokestatic 67, 3) := by decide +kernel
theorem dX3_clear_35 : decode cX3_clear 35 = .ok (.aload_n 0, 1) := by decide +kernel
theorem dX3_clear_36 : decode cX3_clear 36 = .ok (.getfield 30, 3) := by decide +kernel
theorem dX3_clear_39 : decode cX3_clear 39 = .ok (.iconst (-1), 1) := by decide +kernel
theorem dX3_clear_40 : decode cX3_clear 40 = .ok (.invokestatic 67, 3) := by decide +kernel
theorem dX3_clear_43 : decode cX3_clear 43 = .ok (.aload_n 0, 1) := by decide +kernel
theorem dX3_clear_44 : decode cX3_clear 44 = .ok (.getfield 33, 3) := by decide +kernel
theorem dX3_clear_47 : decode cX3_clear 47 = .ok (.iconst (-1), 1) := by decide +kernel
theorem dX3_clear_48 : decode cX3_clear 48 = .ok (.invokestatic 67, 3) := by decide +kernel
theorem dX3_clear_51 : decode cX3_clear 51 = .ok (.aload_n 0, 1) := by decide +kernel
theorem dX3_clear_52 : decode cX3_clear 52 = .ok (.getfield 36, 3) := by decide +kernel
theorem dX3_clear_55 : decode cX3_clear 55 = .ok (.iconst 0, 1) := by decide +kernel
theorem dX3_clear_56 : decode cX3_clear 56 = .ok (.invokestatic 67, 3) := by decide +kernel
theorem dX3_clear_59 : decode cX3_clear 59 = .ok (.return_, 1) := by decide +kernel
def w_X3_clear (I : mI) (o : Nat) (post : mI → Prop) : Prop := ∀ I1, I1 = up2 I o 0 12 → ∀ I2, I2 = up2 I1 o 1 60 → ∀ I3, I3 = up2 I2 o 2 0 → ∀ I4, I4 = up2 I3 o 3 0 → ∀ I5, I5 = up2 I4 o 4 0 → w_J7_fill_53178 I5 (o + 1) 24 0 (fun I6 => w_J7_fill_53178 I6 (o + 7) 6 (-1) (fun I7 => w_J7_fill_53178 I7 (o + 8) 6 (-1) (fun I8 => w_J7_fill_53178 I8 (o + 9) 6 0 (fun I9 => post I9))))
set_option maxRecDepth 100000 in
set_option maxHeartbeats 4000000 in
theorem c_X3_clear {l : Launch} {D : va_G} {cA : Nat → ClassId} {Z : mZ} {bs : Ad} {n : Nat} {K : mK} {R : mR} {I : mI} {L : mL} {o : Nat} {post : mI → Prop} (ho : isX3 K R o) (hw : w_X3_clear I o post) : Met l yX3_clear (.code yX3_clear cX3_clear 1 none :: gw) ({ frames := 1, cells := 0, slots := 0, locals := 23 } : Room) (PreM D cA Z bs (n, K, R, I, L) [.ref (ad bs o)]) (QV D cA bs (fun u => ∃ I', u = (n, K, R, I', L) ∧ post I')) 0 0 (Ab bs) := by
  refine m_met (by decide) (Nat.le_of_ble_eq_true rfl) (fun p e s m below meth c ls E hr hlk hM hS hl => ?_)
  have E : Ev p s m _ c cX3_clear 1 RX3 D cA Z bs := E
  have hl : lv_has ls 1 [(0, .ref (ad bs o))] := hl
  have hx := E.1.1
  have hb := E.1.2.1
  generalize hHe : s.heap = H at hM ⊢
  have hS : va_S (Ab bs) s.heap H [] := by rw [← hHe]; exact va_S.rf
  clear hHe
  refine lv_aload_n hx hb dX3_clear_0 rfl (lv_at hl 0 rfl) ?_
  refine lv_bipush (v := 12) hx hb dX3_clear_1 (by decide) ?_
  refine m_puti E hM hS fp_X3_51 ho.1 rfl rfl dX3_clear_3 (fun I1 H locs eI1 hM hS => ?_)
  have hw := hw I1 eI1
  refine lv_aload_n hx hb dX3_clear_6 rfl (lv_at hl 0 rfl) ?_
  refine lv_bipush (v := 60) hx hb dX3_clear_7 (by decide) ?_
  refine m_puti E hM hS fp_X3_55 ho.1 rfl rfl dX3_clear_9 (fun I2 H locs eI2 hM hS => ?_)
  have hw := hw I2 eI2
  refine lv_aload_n hx hb dX3_clear_12 rfl (lv_at hl 0 rfl) ?_
  refine lv_iconst (v := 0) hx hb dX3_clear_13 (by decide) ?_
  refine m_puti E hM hS fp_X3_58 ho.1 rfl rfl dX3_clear_14 (fun I3 H locs eI3 hM hS => ?_)
  have hw := hw I3 eI3
  refine lv_aload_n hx hb dX3_clear_17 rfl (lv_at hl 0 rfl) ?_
  refine lv_iconst (v := 0) hx hb dX3_clear_18 (by decide) ?_
  refine m_puti E hM hS fp_X3_61 ho.1 rfl rfl dX3_clear_19 (fun I4 H locs eI4 hM hS => ?_)
  have hw := hw I4 eI4
  refine lv_aload_n hx hb dX3_clear_22 rfl (lv_at hl 0 rfl) ?_
  refine lv_iconst (v := 0) hx hb dX3_clear_23 (by decide) ?_
  refine m_puti E hM hS fp_X3_64 ho.1 rfl rfl dX3_clear_24 (fun I5 H locs eI5 hM hS => ?_)
  have hw := hw I5 eI5
  refine lv_aload_n hx hb dX3_clear_27 rfl (lv_at hl 0 rfl) ?_
  refine m_getr E hM fs_X3_9 ho.1 (isO_at ho 0 rfl).1 dX3_clear_28 ?_
  refine lv_iconst (v := 0) hx hb dX3_clear_31 (by decide) ?_
  refine m_cv (m_runS E hM hS cs_X3_67 (c_J7_fill_53178 ((isO_at ho 0 rfl).2) hw) rfl rfl ⟨Nat.le_of_ble_eq_true rfl, Nat.le_of_ble_eq_true rfl⟩ rfl hl.1 rfl (Nat.le_of_ble_eq_true rfl) dX3_clear_32 ⟨Nat.le_of_ble_eq_true rfl, Nat.le_of_ble_eq_true rfl⟩) hS (fun u H locs hp hM hS => ?_)
  obtain ⟨I6, rfl, hw⟩ := hp
  refine lv_aload_n hx hb dX3_clear_35 rfl (lv_at hl 0 rfl) ?_
  refine m_getr E hM fs_X3_30 ho.1 (isO_at ho 6 rfl).1 dX3_clear_36 ?_
  refine lv_iconst (v := (-1)) hx hb dX3_clear_39 (by decide) ?_
  refine m_cv (m_runS E hM hS cs_X3_67 (c_J7_fill_53178 ((isO_at ho 6 rfl).2) hw) rfl rfl ⟨Nat.le_of_ble_eq_true rfl, Nat.le_of_ble_eq_true rfl⟩ rfl hl.1 rfl (Nat.le_of_ble_eq_true rfl) dX3_clear_40 ⟨Nat.le_of_ble_eq_true rfl, Nat.le_of_ble_eq_true rfl⟩) hS (fun u H locs hp hM hS => ?_)
  obtain ⟨I7, rfl, hw⟩ := hp
  refine lv_aload_n hx hb dX3_clear_43 rfl (lv_at hl 0 rfl) ?_
  refine m_getr E hM fs_X3_33 ho.1 (isO_at ho 7 rfl).1 dX3_clear_44 ?_
  refine lv_iconst (v := (-1)) hx hb dX3_clear_47 (by decide) ?_
  refine m_cv (m_runS E hM hS cs_X3_67 (c_J7_fill_53178 ((isO_at ho 7 rfl).2) hw) rfl rfl ⟨Nat.le_of_ble_eq_true rfl, Nat.le_of_ble_eq_true rfl⟩ rfl hl.1 rfl (Nat.le_of_ble_eq_true rfl) dX3_clear_48 ⟨Nat.le_of_ble_eq_true rfl, Nat.le_of_ble_eq_true rfl⟩) hS (fun u H locs hp hM hS => ?_)
  obtain ⟨I8, rfl, hw⟩ := hp
  refine lv_aload_n hx hb dX3_clear_51 rfl (lv_at hl 0 rfl) ?_
  refine m_getr E hM fs_X3_36 ho.1 (isO_at ho 8 rfl).1 dX3_clear_52 ?_
  refine lv_iconst (v := 0) hx hb dX3_clear_55 (by decide) ?_
  refine m_cv (m_runS E hM hS cs_X3_67 (c_J7_fill_53178 ((isO_at ho 8 rfl).2) hw) rfl rfl ⟨Nat.le_of_ble_eq_true rfl, Nat.le_of_ble_eq_true rfl⟩ rfl hl.1 rfl (Nat.le_of_ble_eq_true rfl) dX3_clear_56 ⟨Nat.le_of_ble_eq_true rfl, Nat.le_of_ble_eq_true rfl⟩) hS (fun u H locs hp hM hS => ?_)
  obtain ⟨I9, rfl, hw⟩ := hp
  exact m_retv hx hb hr hlk hM hS ⟨_, rfl, hw⟩ dX3_clear_59
theorem dX3_copyFrom_0 : decode cX3_copyFrom 0 = .ok (.aload_n 0, 1) := by decide +kernel
theorem dX3_copyFrom_1 : decode cX3_copyFrom 1 = .ok (.aload_n 1, 1) := by decide +kernel
theorem dX3_copyFrom_2 : decode cX3_copyFrom 2 = .ok (.getfield 51, 3) := by decide +kernel
theorem dX3_copyFrom_5 : decode cX3_copyFrom 5 = .ok (.putfield 51, 3) := by decide +kernel
theorem dX3_copyFrom_8 : decode cX3_copyFrom 8 = .ok (.aload_n 0, 1) := by decide +kernel
theorem dX3_copyFrom_9 : decode cX3_copyFrom 9 = .ok (.aload_n 1, 1) := by decide +kernel
theorem dX3_copyFrom_10 : decode cX3_copyFrom 10 = .ok (.getfield 55, 3) := by decide +kernel
theorem dX3_copyFrom_13 : decode cX3_copyFrom 13 = .ok (.putfield 55, 3) := by decide +kernel
theorem dX3_copyFrom_16 : decode cX3_copyFrom 16 = .ok (.aload_n 0, 1) := by decide +kernel
theorem dX3_copyFrom_17 : decode cX3_copyFrom 17 = .ok (.aload_n 1, 1) := by decide +kernel
theorem dX3_copyFrom_18 : decode cX3_copyFrom 18 = .ok (.getfield 58, 3) := by decide +kernel
theorem dX3_copyFrom_21 : decode cX3_copyFrom 21 = .ok (.putfield 58, 3) := by decide +kernel
theorem dX3_copyFrom_24 : decode cX3_copyFrom 24 = .ok (.aload_n 0, 1) := by decide +kernel
theorem dX3_copyFrom_25 : decode cX3_copyFrom 25 = .ok (.aload_n 1, 1) := by decide +kernel
theorem dX3_copyFrom_26 : decode cX3_copyFrom 26 = .ok (.getfield 61, 3) := by decide +kernel
theorem dX3_copyFrom_29 : decode cX3_copyFrom 29 = .ok (.putfield 61, 3) := by decide +kernel
theorem dX3_copyFrom_32 : decode cX3_copyFrom 32 = .ok (.aload_n 0, 1) := by decide +kernel
theorem dX3_copyFrom_33 : decode cX3_copyFrom 33 = .ok (.aload_n 1, 1) := by decide +kernel
theorem dX3_copyFrom_34 : decode cX3_copyFrom 34 = .ok (.getfield 64, 3) := by decide +kernel
theorem dX3_copyFrom_37 : decode cX3_copyFrom 37 = .ok (.putfield 64, 3) := by decide +kernel
theorem dX3_copyFrom_40 : decode cX3_copyFrom 40 = .ok (.aload_n 1, 1) := by decide +kernel
theorem dX3_copyFrom_41 : decode cX3_copyFrom 41 = .ok (.getfield 9, 3) := by decide +kernel
theorem dX3_copyFrom_44 : decode cX3_copyFrom 44 = .ok (.iconst 0, 1) := by decide +kernel
theorem dX3_copyFrom_45 : decode cX3_copyFrom 45 = .ok (.aload_n 0, 1) := by decide +kernel
theorem dX3_copyFrom_46 : decode cX3_copyFrom 46 = .ok (.getfield 9, 3) := by decide +kernel
theorem dX3_copyFrom_49 : decode cX3_copyFrom 49 = .ok (.iconst 0, 1) := by decide +kernel
theorem dX3_copyFrom_50 : decode cX3_copyFrom 50 = .ok (.bipush 24, 2) := by decide +kernel
theorem dX3_copyFrom_52 : decode cX3_copyFrom 52 = .ok (.invokestatic 73, 3) := by decide +kernel
theorem dX3_copyFrom_55 : decode cX3_copyFrom 55 = .ok (.aload_n 1, 1) := by decide +kernel
theorem dX3_copyFrom_56 : decode cX3_copyFrom 56 = .ok (.getfield 15, 3) := by decide +kernel
theorem dX3_copyFrom_59 : decode cX3_copyFrom 59 = .ok (.iconst 0, 1) := by decide +kernel
theorem dX3_copyFrom_60 : decode cX3_copyFrom 60 = .ok (.aload_n 0, 1) := by decide +kernel
theorem dX3_copyFrom_61 : decode cX3_copyFrom 61 = .ok (.getfield 15, 3) := by decide +kernel
theorem dX3_copyFrom_64 : decode cX3_copyFrom 64 = .ok (.iconst 0, 1) := by decide +kernel
theorem dX3_copyFrom_65 : decode cX3_copyFrom 65 = .ok (.bipush 6, 2) := by decide +kernel
theorem dX3_copyFrom_67 : decode cX3_copyFrom 67 = .ok (.invokestatic 73, 3) := by decide +kernel
theorem dX3_copyFrom_70 : decode cX3_copyFrom 70 = .ok (.aload_n 1, 1) := by decide +kernel
theorem dX3_copyFrom_71 : decode cX3_copyFrom 71 = .ok (.getfield 18, 3) := by decide +kernel
theorem dX3_copyFrom_74 : decode cX3_copyFrom 74 = .ok (.iconst 0, 1) := by decide +kernel
theorem dX3_copyFrom_75 : decode cX3_copyFrom 75 = .ok (.aload_n 0, 1) := by decide +kernel
theorem dX3_copyFrom_76 : decode cX3_copyFrom 76 = .ok (.getfield 18, 3) := by decide +kernel
theorem dX3_copyFrom_79 : decode cX3_copyFrom 79 = .ok (.iconst 0, 1) := by decide +kernel
theorem dX3_copyFrom_80 : decode cX3_copyFrom 80 = .ok (.bipush 6, 2) := by decide +kernel
theorem dX3_copyFrom_82 : decode cX3_copyFrom 82 = .ok (.invokestatic 73, 3) := by decide +kernel
theorem dX3_copyFrom_85 : decode cX3_copyFrom 85 = .ok (.aload_n 1, 1) := by decide +kernel
theorem dX3_copyFrom_86 : decode cX3_copyFrom 86 = .ok (.getfield 21, 3) := by decide +kernel
theorem dX3_copyFrom_89 : decode cX3_copyFrom 89 = .ok (.iconst 0, 1) := by decide +kernel
theorem dX3_copyFrom_90 : decode cX3_copyFrom 90 = .ok (.aload_n 0, 1) := by decide +kernel
theorem dX3_copyFrom_91 : decode cX3_copyFrom 91 = .ok (.getfield 21, 3) := by decide +kernel
theorem dX3_copyFrom_94 : decode cX3_copyFrom 94 = .ok (.iconst 0, 1) := by decide +kernel
theorem dX3_copyFrom_95 : decode cX3_copyFrom 95 = .ok (.bipush 6, 2) := by decide +kernel
theorem dX3_copyFrom_97 : decode cX3_copyFrom 97 = .ok (.invokestatic 73, 3) := by decide +kernel
theorem dX3_copyFrom_100 : decode cX3_copyFrom 100 = .ok (.aload_n 1, 1) := by decide +kernel
theorem dX3_copyFrom_101 : decode cX3_copyFrom 101 = .ok (.getfield 24, 3) := by decide +kernel
theorem dX3_copyFrom_104 : decode cX3_copyFrom 104 = .ok (.iconst 0, 1) := by decide +kernel
theorem dX3_copyFrom_105 : decode cX3_copyFrom 105 = .ok (.aload_n 0, 1) := by decide +kernel
theorem dX3_copyFrom_106 : decode cX3_copyFrom 106 = .ok (.getfield 24, 3) := by decide +kernel
theorem dX3_copyFrom_109 : decode cX3_copyFrom 109 = .ok (.iconst 0, 1) := by decide +kernel
theorem dX3_copyFrom_110 : decode cX3_copyFrom 110 = .ok (.bipush 6, 2) := by decide +kernel
theorem dX3_copyFrom_112 : decode cX3_copyFrom 112 = .ok (.invokestatic 73, 3) := by decide +kernel
theorem dX3_copyFrom_115 : decode cX3_copyFrom 115 = .ok (.aload_n 1, 1) := by decide +kernel
theorem dX3_copyFrom_116 : decode cX3_copyFrom 116 = .ok (.getfield 27, 3) := by decide +kernel
theorem dX3_copyFrom_119 : decode cX3_copyFrom 119 = .ok (.iconst 0, 1) := by decide +kernel
theorem dX3_copyFrom_120 : decode cX3_copyFrom 120 = .ok (.aload_n 0, 1) := by decide +kernel
theorem dX3_copyFrom_121 : decode cX3_copyFrom 121 = .ok (.getfield 27, 3) := by decide +kernel
theorem dX3_copyFrom_124 : decode cX3_copyFrom 124 = .ok (.iconst 0, 1) := by decide +kernel
theorem dX3_copyFrom_125 : decode cX3_copyFrom 125 = .ok (.bipush 6, 2) := by decide +kernel
theorem dX3_copyFrom_127 : decode cX3_copyFrom 127 = .ok (.invokestatic 73, 3) := by decide +kernel
theorem dX3_copyFrom_130 : decode cX3_copyFrom 130 = .ok (.aload_n 1, 1) := by decide +kernel
theorem dX3_copyFrom_131 : decode cX3_copyFrom 131 = .ok (.getfield 30, 3) := by decide +kernel
theorem dX3_copyFrom_134 : decode cX3_copyFrom 134 = .ok (.iconst 0, 1) := by decide +kernel
theorem dX3_copyFrom_135 : decode cX3_copyFrom 135 = .ok (.aload_n 0, 1) := by decide +kernel
theorem dX3_copyFrom_136 : decode cX3_copyFrom 136 = .ok (.getfield 30, 3) := by decide +kernel
theorem dX3_copyFrom_139 : decode cX3_copyFrom 139 = .ok (.iconst 0, 1) := by decide +kernel
theorem dX3_copyFrom_140 : decode cX3_copyFrom 140 = .ok (.bipush 6, 2) := by decide +kernel
theorem dX3_copyFrom_142 : decode cX3_copyFrom 142 = .ok (.invokestatic 73, 3) := by decide +kernel
theorem dX3_copyFrom_145 : decode cX3_copyFrom 145 = .ok (.aload_n 1, 1) := by decide +kernel
theorem dX3_copyFrom_146 : decode cX3_copyFrom 146 = .ok (.getfield 33, 3) := by decide +kernel
theorem dX3_copyFrom_149 : decode cX3_copyFrom 149 = .ok (.iconst 0, 1) := by decide +kernel
theorem dX3_copyFrom_150 : decode cX3_copyFrom 150 = .ok (.aload_n 0, 1) := by decide +kernel
theorem dX3_copyFrom_151 : decode cX3_copyFrom 151 = .ok (.getfield 33, 3) := by decide +kernel
theorem dX3_copyFrom_154 : decode cX3_copyFrom 154 = .ok (.iconst 0, 1) := by decide +kernel
theorem dX3_copyFrom_155 : decode cX3_copyFrom 155 = .ok (.bipush 6, 2) := by decide +kernel
theorem dX3_copyFrom_157 : decode cX3_copyFrom 157 = .ok (.invokestatic 73, 3) := by decide +kernel
theorem dX3_copyFrom_160 : decode cX3_copyFrom 160 = .ok (.aload_n 1, 1) := by decide +kernel
theorem dX3_copyFrom_161 : decode cX3_copyFrom 161 = .ok (.getfield 36, 3) := by decide +kernel
theorem dX3_copyFrom_164 : decode cX3_copyFrom 164 = .ok (.iconst 0, 1) := by decide +kernel
theorem dX3_copyFrom_165 : decode cX3_copyFrom 165 = .ok (.aload_n 0, 1) := by decide +kernel
theorem dX3_copyFrom_166 : decode cX3_copyFrom 166 = .ok (.getfield 36, 3) := by decide +kernel
theorem dX3_copyFrom_169 : decode cX3_copyFrom 169 = .ok (.iconst 0, 1) := by decide +kernel
theorem dX3_copyFrom_170 : decode cX3_copyFrom 170 = .ok (.bipush 6, 2) := by decide +kernel
theorem dX3_copyFrom_172 : decode cX3_copyFrom 172 = .ok (.invokestatic 73, 3) := by decide +kernel
theorem dX3_copyFrom_175 : decode cX3_copyFrom 175 = .ok (.aload_n 1, 1) := by decide +kernel
theorem dX3_copyFrom_176 : decode cX3_copyFrom 176 = .ok (.getfield 39, 3) := by decide +kernel
theorem dX3_copyFrom_179 : decode cX3_copyFrom 179 = .ok (.iconst 0, 1) := by decide +kernel
theorem dX3_copyFrom_180 : decode cX3_copyFrom 180 = .ok (.aload_n 0, 1) := by decide +kernel
theorem dX3_copyFrom_181 : decode cX3_copyFrom 181 = .ok (.getfield 39, 3) := by decide +kernel
theorem dX3_copyFrom_184 : decode cX3_copyFrom 184 = .ok (.iconst 0, 1) := by decide +kernel
theorem dX3_copyFrom_185 : decode cX3_copyFrom 185 = .ok (.bipush 48, 2) := by decide +kernel
theorem dX3_copyFrom_187 : decode cX3_copyFrom 187 = .ok (.invokestatic 73, 3) := by decide +kernel
theorem dX3_copyFrom_190 : decode cX3_copyFrom 190 = .ok (.aload_n 1, 1) := by decide +kernel
theorem dX3_copyFrom_191 : decode cX3_copyFrom 191 = .ok (.getfield 42, 3) := by decide +kernel
theorem dX3_copyFrom_194 : decode cX3_copyFrom 194 = .ok (.iconst 0, 1) := by decide +kernel
theorem dX3_copyFrom_195 : decode cX3_copyFrom 195 = .ok (.aload_n 0, 1) := by decide +kernel
theorem dX3_copyFrom_196 : decode cX3_copyFrom 196 = .ok (.getfield 42, 3) := by decide +kernel
theorem dX3_copyFrom_199 : decode cX3_copyFrom 199 = .ok (.iconst 0, 1) := by decide +kernel
theorem dX3_copyFrom_200 : decode cX3_copyFrom 200 = .ok (.bipush 8, 2) := by decide +kernel
theorem dX3_copyFrom_202 : decode cX3_copyFrom 202 = .ok (.invokestatic 73, 3) := by decide +kernel
theorem dX3_copyFrom_205 : decode cX3_copyFrom 205 = .ok (.aload_n 1, 1) := by decide +kernel
theorem dX3_copyFrom_206 : decode cX3_copyFrom 206 = .ok (.getfield 45, 3) := by decide +kernel
theorem dX3_copyFrom_209 : decode cX3_copyFrom 209 = .ok (.iconst 0, 1) := by decide +kernel
theorem dX3_copyFrom_210 : decode cX3_copyFrom 210 = .ok (.aload_n 0, 1) := by decide +kernel
theorem dX3_copyFrom_211 : decode cX3_copyFrom 211 = .ok (.getfield 45, 3) := by decide +kernel
theorem dX3_copyFrom_214 : decode cX3_copyFrom 214 = .ok (.iconst 0, 1) := by decide +kernel
theorem dX3_copyFrom_215 : decode cX3_copyFrom 215 = .ok (.bipush 8, 2) := by decide +kernel
theorem dX3_copyFrom_217 : decode cX3_copyFrom 217 = .ok (.invokestatic 73, 3) := by decide +kernel
theorem dX3_copyFrom_220 : decode cX3_copyFrom 220 = .ok (.aload_n 1, 1) := by decide +kernel
theorem dX3_copyFrom_221 : decode cX3_copyFrom 221 = .ok (.getfield 48, 3) := by decide +kernel
theorem dX3_copyFrom_224 : decode cX3_copyFrom 224 = .ok (.iconst 0, 1) := by decide +kernel
theorem dX3_copyFrom_225 : decode cX3_copyFrom 225 = .ok (.aload_n 0, 1) := by decide +kernel
theorem dX3_copyFrom_226 : decode cX3_copyFrom 226 = .ok (.getfield 48, 3) := by decide +kernel
theorem dX3_copyFrom_229 : decode cX3_copyFrom 229 = .ok (.iconst 0, 1) := by decide +kernel
theorem dX3_copyFrom_230 : decode cX3_copyFrom 230 = .ok (.bipush 8, 2) := by decide +kernel
theorem dX3_copyFrom_232 : decode cX3_copyFrom 232 = .ok (.invokestatic 73, 3) := by decide +kernel
theorem dX3_copyFrom_235 : decode cX3_copyFrom 235 = .ok (.return_, 1) := by decide +kernel
def w_X3_copyFrom (I : mI) (o : Nat) (a1 : Nat) (post : mI → Prop) : Prop := ∀ I1, I1 = up2 I o 0 (I a1 0) → ∀ I2, I2 = up2 I1 o 1 (I1 a1 1) → ∀ I3, I3 = up2 I2 o 2 (I2 a1 2) → ∀ I4, I4 = up2 I3 o 3 (I3 a1 3) → ∀ I5, I5 = up2 I4 o 4 (I4 a1 4) → (a1 + 1) ≠ (o + 1) ∧ ¬ (0 : Int32) < 0 ∧ ¬ (0 : Int32) < 0 ∧ ¬ (24 : Int32) < 0 ∧ (0 : Int32).toNatClampNeg + (24 : Int32).toNatClampNeg ≤ 24 ∧ (0 : Int32).toNatClampNeg + (24 : Int32).toNatClampNeg ≤ 24 ∧ ∀ I6, I6 = cpy2 I5 (a1 + 1) (o + 1) ((0 : Int32).toNatClampNeg) ((0 : Int32).toNatClampNeg) ((24 : Int32).toNatClampNeg) → (a1 + 2) ≠ (o + 2) ∧ ¬ (0 : Int32) < 0 ∧ ¬ (0 : Int32) < 0 ∧ ¬ (6 : Int32) < 0 ∧ (0 : Int32).toNatClampNeg + (6 : Int32).toNatClampNeg ≤ 6 ∧ (0 : Int32).toNatClampNeg + (6 : Int32).toNatClampNeg ≤ 6 ∧ ∀ I7, I7 = cpy2 I6 (a1 + 2) (o + 2) ((0 : Int32).toNatClampNeg) ((0 : Int32).toNatClampNeg) ((6 : Int32).toNatClampNeg) → (a1 + 3) ≠ (o + 3) ∧ ¬ (0 : Int32) < 0 ∧ ¬ (0 : Int32) < 0 ∧ ¬ (6 : Int32) < 0 ∧ (0 : Int32).toNatClampNeg + (6 : Int32).toNatClampNeg ≤ 6 ∧ (0 : Int32).toNatClampNeg + (6 : Int32).toNatClampNeg ≤ 6 ∧ ∀ I8, I8 = cpy2 I7 (a1 + 3) (o + 3) ((0 : Int32).toNatClampNeg) ((0 : Int32).toNatClampNeg) ((6 : Int32).toNatClampNeg) → (a1 + 4) ≠ (o + 4) ∧ ¬ (0 : Int32) < 0 ∧ ¬ (0 : Int32) < 0 ∧ ¬ (6 : Int32) < 0 ∧ (0 : Int32).toNatClampNeg + (6 : Int32).toNatClampNeg ≤ 6 ∧ (0 : Int32).toNatClampNeg + (6 : Int32).toNatClampNeg ≤ 6 ∧ ∀ I9, I9 = cpy2 I8 (a1 + 4) (o + 4) ((0 : Int32).toNatClampNeg) ((0 : Int32).toNatClampNeg) ((6 : Int32).toNatClampNeg) → (a1 + 5) ≠ (o + 5) ∧ ¬ (0 : Int32) < 0 ∧ ¬ (0 : Int32) < 0 ∧ ¬ (6 : Int32) < 0 ∧ (0 : Int32).toNatClampNeg + (6 : Int32).toNatClampNeg ≤ 6 ∧ (0 : Int32).toNatClampNeg + (6 : Int32).toNatClampNeg ≤ 6 ∧ ∀ I10, I10 = cpy2 I9 (a1 + 5) (o + 5) ((0 : Int32).toNatClampNeg) ((0 : Int32).toNatClampNeg) ((6 : Int32).toNatClampNeg) → (a1 + 6) ≠ (o + 6) ∧ ¬ (0 : Int32) < 0 ∧ ¬ (0 : Int32) < 0 ∧ ¬ (6 : Int32) < 0 ∧ (0 : Int32).toNatClampNeg + (6 : Int32).toNatClampNeg ≤ 6 ∧ (0 : Int32).toNatClampNeg + (6 : Int32).toNatClampNeg ≤ 6 ∧ ∀ I11, I11 = cpy2 I10 (a1 + 6) (o + 6) ((0 : Int32).toNatClampNeg) ((0 : Int32).toNatClampNeg) ((6 : Int32).toNatClampNeg) → (a1 + 7) ≠ (o + 7) ∧ ¬ (0 : Int32) < 0 ∧ ¬ (0 : Int32) < 0 ∧ ¬ (6 : Int32) < 0 ∧ (0 : Int32).toNatClampNeg + (6 : Int32).toNatClampNeg ≤ 6 ∧ (0 : Int32).toNatClampNeg + (6 : Int32).toNatClampNeg ≤ 6 ∧ ∀ I12, I12 = cpy2 I11 (a1 + 7) (o + 7) ((0 : Int32).toNatClampNeg) ((0 : Int32).toNatClampNeg) ((6 : Int32).toNatClampNeg) → (a1 + 8) ≠ (o + 8) ∧ ¬ (0 : Int32) < 0 ∧ ¬ (0 : Int32) < 0 ∧ ¬ (6 : Int32) < 0 ∧ (0 : Int32).toNatClampNeg + (6 : Int32).toNatClampNeg ≤ 6 ∧ (0 : Int32).toNatClampNeg + (6 : Int32).toNatClampNeg ≤ 6 ∧ ∀ I13, I13 = cpy2 I12 (a1 + 8) (o + 8) ((0 : Int32).toNatClampNeg) ((0 : Int32).toNatClampNeg) ((6 : Int32).toNatClampNeg) → (a1 + 9) ≠ (o + 9) ∧ ¬ (0 : Int32) < 0 ∧ ¬ (0 : Int32) < 0 ∧ ¬ (6 : Int32) < 0 ∧ (0 : Int32).toNatClampNeg + (6 : Int32).toNatClampNeg ≤ 6 ∧ (0 : Int32).toNatClampNeg + (6 : Int32).toNatClampNeg ≤ 6 ∧ ∀ I14, I14 = cpy2 I13 (a1 + 9) (o + 9) ((0 : Int32).toNatClampNeg) ((0 : Int32).toNatClampNeg) ((6 : Int32).toNatClampNeg) → (a1 + 10) ≠ (o + 10) ∧ ¬ (0 : Int32) < 0 ∧ ¬ (0 : Int32) < 0 ∧ ¬ (48 : Int32) < 0 ∧ (0 : Int32).toNatClampNeg + (48 : Int32).toNatClampNeg ≤ 48 ∧ (0 : Int32).toNatClampNeg + (48 : Int32).toNatClampNeg ≤ 48 ∧ ∀ I15, I15 = cpy2 I14 (a1 + 10) (o + 10) ((0 : Int32).toNatClampNeg) ((0 : Int32).toNatClampNeg) ((48 : Int32).toNatClampNeg) → (a1 + 11) ≠ (o + 11) ∧ ¬ (0 : Int32) < 0 ∧ ¬ (0 : Int32) < 0 ∧ ¬ (8 : Int32) < 0 ∧ (0 : Int32).toNatClampNeg + (8 : Int32).toNatClampNeg ≤ 8 ∧ (0 : Int32).toNatClampNeg + (8 : Int32).toNatClampNeg ≤ 8 ∧ ∀ I16, I16 = cpy2 I15 (a1 + 11) (o + 11) ((0 : Int32).toNatClampNeg) ((0 : Int32).toNatClampNeg) ((8 : Int32).toNatClampNeg) → (a1 + 12) ≠ (o + 12) ∧ ¬ (0 : Int32) < 0 ∧ ¬ (0 : Int32) < 0 ∧ ¬ (8 : Int32) < 0 ∧ (0 : Int32).toNatClampNeg + (8 : Int32).toNatClampNeg ≤ 8 ∧ (0 : Int32).toNatClampNeg + (8 : Int32).toNatClampNeg ≤ 8 ∧ ∀ I17, I17 = cpy2 I16 (a1 + 12) (o + 12) ((0 : Int32).toNatClampNeg) ((0 : Int32).toNatClampNeg) ((8 : Int32).toNatClampNeg) → (a1 + 13) ≠ (o + 13) ∧ ¬ (0 : Int32) < 0 ∧ ¬ (0 : Int32) < 0 ∧ ¬ (8 : Int32) < 0 ∧ (0 : Int32).toNatClampNeg + (8 : Int32).toNatClampNeg ≤ 8 ∧ (0 : Int32).toNatClampNeg + (8 : Int32).toNatClampNeg ≤ 8 ∧ ∀ I18, I18 = cpy2 I17 (a1 + 13) (o + 13) ((0 : Int32).toNatClampNeg) ((0 : Int32).toNatClampNeg) ((8 : Int32).toNatClampNeg) → post I18
set_option maxRecDepth 100000 in
set_option maxHeartbeats 4000000 in
theorem c_X3_copyFrom {l : Launch} {D : va_G} {cA : Nat → ClassId} {Z : mZ} {bs : Ad} {n : Nat} {K : mK} {R : mR} {I : mI} {L : mL} {o : Nat} {a1 : Nat} {post : mI → Prop} (ho : isX3 K R o) (ha1 : isX3 K R a1) (hw : w_X3_copyFrom I o a1 post) : Met l yX3_copyFrom (.code yX3_copyFrom cX3_copyFrom 2 none :: gw) ({ frames := 1, cells := 0, slots := 0, locals := 80 } : Room) (PreM D cA Z bs (n, K, R, I, L) [.ref (ad bs o), .ref (ad bs a1)]) (QV D cA bs (fun u => ∃ I', u = (n, K, R, I', L) ∧ post I')) 0 0 (Ab bs) := by
  refine m_met (by decide) (Nat.le_of_ble_eq_true rfl) (fun p e s m below meth c ls E hr hlk hM hS hl => ?_)
  have E : Ev p s m _ c cX3_copyFrom 2 RX3 D cA Z bs := E
  have hl : lv_has ls 2 [(0, .ref (ad bs o)), (1, .ref (ad bs a1))] := hl
  have hx := E.1.1
  have hb := E.1.2.1
  generalize hHe : s.heap = H at hM ⊢
  have hS : va_S (Ab bs) s.heap H [] := by rw [← hHe]; exact va_S.rf
  clear hHe
  refine lv_aload_n hx hb dX3_copyFrom_0 rfl (lv_at hl 0 rfl) ?_
  refine lv_aload_n hx hb dX3_copyFrom_1 rfl (lv_at hl 1 rfl) ?_
  refine m_geti E hM fs_X3_51 ha1.1 dX3_copyFrom_2 ?_
  refine m_puti E hM hS fp_X3_51 ho.1 rfl rfl dX3_copyFrom_5 (fun I1 H locs eI1 hM hS => ?_)
  have hw := hw I1 eI1
  refine lv_aload_n hx hb dX3_copyFrom_8 rfl (lv_at hl 0 rfl) ?_
  refine lv_aload_n hx hb dX3_copyFrom_9 rfl (lv_at hl 1 rfl) ?_
  refine m_geti E hM fs_X3_55 ha1.1 dX3_copyFrom_10 ?_
  refine m_puti E hM hS fp_X3_55 ho.1 rfl rfl dX3_copyFrom_13 (fun I2 H locs eI2 hM hS => ?_)
  have hw := hw I2 eI2
  refine lv_aload_n hx hb dX3_copyFrom_16 rfl (lv_at hl 0 rfl) ?_
  refine lv_aload_n hx hb dX3_copyFrom_17 rfl (lv_at hl 1 rfl) ?_
  refine m_geti E hM fs_X3_58 ha1.1 dX3_copyFrom_18 ?_
  refine m_puti E hM hS fp_X3_58 ho.1 rfl rfl dX3_copyFrom_21 (fun I3 H locs eI3 hM hS => ?_)
  have hw := hw I3 eI3
  refine lv_aload_n hx hb dX3_copyFrom_24 rfl (lv_at hl 0 rfl) ?_
  refine lv_aload_n hx hb dX3_copyFrom_25 rfl (lv_at hl 1 rfl) ?_
  refine m_geti E hM fs_X3_61 ha1.1 dX3_copyFrom_26 ?_
  refine m_puti E hM hS fp_X3_61 ho.1 rfl rfl dX3_copyFrom_29 (fun I4 H locs eI4 hM hS => ?_)
  have hw := hw I4 eI4
  refine lv_aload_n hx hb dX3_copyFrom_32 rfl (lv_at hl 0 rfl) ?_
  refine lv_aload_n hx hb dX3_copyFrom_33 rfl (lv_at hl 1 rfl) ?_
  refine m_geti E hM fs_X3_64 ha1.1 dX3_copyFrom_34 ?_
  refine m_puti E hM hS fp_X3_64 ho.1 rfl rfl dX3_copyFrom_37 (fun I5 H locs eI5 hM hS => ?_)
  have hw := hw I5 eI5
  refine lv_aload_n hx hb dX3_copyFrom_40 rfl (lv_at hl 1 rfl) ?_
  refine m_getr E hM fs_X3_9 ha1.1 (isO_at ha1 0 rfl).1 dX3_copyFrom_41 ?_
  refine lv_iconst (v := 0) hx hb dX3_copyFrom_44 (by decide) ?_
  refine lv_aload_n hx hb dX3_copyFrom_45 rfl (lv_at hl 0 rfl) ?_
  refine m_getr E hM fs_X3_9 ho.1 (isO_at ho 0 rfl).1 dX3_copyFrom_46 ?_
  refine lv_iconst (v := 0) hx hb dX3_copyFrom_49 (by decide) ?_
  refine lv_bipush (v := 24) hx hb dX3_copyFrom_50 (by decide) ?_
  obtain ⟨q1, q2, q3, q4, q5, q6, hw⟩ := hw
  refine m_copy E hM hS ml_X3_73 hl.1 (isO_at ha1 0 rfl).2 (isO_at ho 0 rfl).2 (by simp) q1 q2 q3 q4 q5 q6 (fun h9 => absurd h9 (by decide)) (Nat.le_of_ble_eq_true rfl) (Nat.le_of_ble_eq_true rfl) dX3_copyFrom_52 (fun I6 H locs eI6 hM hS => ?_)
  have hw := hw I6 eI6
  refine lv_aload_n hx hb dX3_copyFrom_55 rfl (lv_at hl 1 rfl) ?_
  refine m_getr E hM fs_X3_15 ha1.1 (isO_at ha1 1 rfl).1 dX3_copyFrom_56 ?_
  refine lv_iconst (v := 0) hx hb dX3_copyFrom_59 (by decide) ?_
  refine lv_aload_n hx hb dX3_copyFrom_60 rfl (lv_at hl 0 rfl) ?_
  refine m_getr E hM fs_X3_15 ho.1 (isO_at ho 1 rfl).1 dX3_copyFrom_61 ?_
  refine lv_iconst (v := 0) hx hb dX3_copyFrom_64 (by decide) ?_
  refine lv_bipush (v := 6) hx hb dX3_copyFrom_65 (by decide) ?_
  obtain ⟨q1, q2, q3, q4, q5, q6, hw⟩ := hw
  refine m_copy E hM hS ml_X3_73 hl.1 (isO_at ha1 1 rfl).2 (isO_at ho 1 rfl).2 (by simp) q1 q2 q3 q4 q5 q6 (fun h9 => absurd h9 (by decide)) (Nat.le_of_ble_eq_true rfl) (Nat.le_of_ble_eq_true rfl) dX3_copyFrom_67 (fun I7 H locs eI7 hM hS => ?_)
  have hw := hw I7 eI7
  refine lv_aload_n hx hb dX3_copyFrom_70 rfl (lv_at hl 1 rfl) ?_
  refine m_getr E hM fs_X3_18 ha1.1 (isO_at ha1 2 rfl).1 dX3_copyFrom_71 ?_
  refine lv_iconst (v := 0) hx hb dX3_copyFrom_74 (by decide) ?_
  refine lv_aload_n hx hb dX3_copyFrom_75 rfl (lv_at hl 0 rfl) ?_
  refine m_getr E hM fs_X3_18 ho.1 (isO_at ho 2 rfl).1 dX3_copyFrom_76 ?_
  refine lv_iconst (v := 0) hx hb dX3_copyFrom_79 (by decide) ?_
  refine lv_bipush (v := 6) hx hb dX3_copyFrom_80 (by decide) ?_
  obtain ⟨q1, q2, q3, q4, q5, q6, hw⟩ := hw
  refine m_copy E hM hS ml_X3_73 hl.1 (isO_at ha1 2 rfl).2 (isO_at ho 2 rfl).2 (by simp) q1 q2 q3 q4 q5 q6 (fun h9 => absurd h9 (by decide)) (Nat.le_of_ble_eq_true rfl) (Nat.le_of_ble_eq_true rfl) dX3_copyFrom_82 (fun I8 H locs eI8 hM hS => ?_)
  have hw := hw I8 eI8
  refine lv_aload_n hx hb dX3_copyFrom_85 rfl (lv_at hl 1 rfl) ?_
  refine m_getr E hM fs_X3_21 ha1.1 (isO_at ha1 3 rfl).1 dX3_copyFrom_86 ?_
  refine lv_iconst (v := 0) hx hb dX3_copyFrom_89 (by decide) ?_
  refine lv_aload_n hx hb dX3_copyFrom_90 rfl (lv_at hl 0 rfl) ?_
  refine m_getr E hM fs_X3_21 ho.1 (isO_at ho 3 rfl).1 dX3_copyFrom_91 ?_
  refine lv_iconst (v := 0) hx hb dX3_copyFrom_94 (by decide) ?_
  refine lv_bipush (v := 6) hx hb dX3_copyFrom_95 (by decide) ?_
  obtain ⟨q1, q2, q3, q4, q5, q6, hw⟩ := hw
  refine m_copy E hM hS ml_X3_73 hl.1 (isO_at ha1 3 rfl).2 (isO_at ho 3 rfl).2 (by simp) q1 q2 q3 q4 q5 q6 (fun h9 => absurd h9 (by decide)) (Nat.le_of_ble_eq_true rfl) (Nat.le_of_ble_eq_true rfl) dX3_copyFrom_97 (fun I9 H locs eI9 hM hS => ?_)
  have hw := hw I9 eI9
  refine lv_aload_n hx hb dX3_copyFrom_100 rfl (lv_at hl 1 rfl) ?_
  refine m_getr E hM fs_X3_24 ha1.1 (isO_at ha1 4 rfl).1 dX3_copyFrom_101 ?_
  refine lv_iconst (v := 0) hx hb dX3_copyFrom_104 (by decide) ?_
  refine lv_aload_n hx hb dX3_copyFrom_105 rfl (lv_at hl 0 rfl) ?_
  refine m_getr E hM fs_X3_24 ho.1 (isO_at ho 4 rfl).1 dX3_copyFrom_106 ?_
  refine lv_iconst (v := 0) hx hb dX3_copyFrom_109 (by decide) ?_
  refine lv_bipush (v := 6) hx hb dX3_copyFrom_110 (by decide) ?_
  obtain ⟨q1, q2, q3, q4, q5, q6, hw⟩ := hw
  refine m_copy E hM hS ml_X3_73 hl.1 (isO_at ha1 4 rfl).2 (isO_at ho 4 rfl).2 (by simp) q1 q2 q3 q4 q5 q6 (fun h9 => absurd h9 (by decide)) (Nat.le_of_ble_eq_true rfl) (Nat.le_of_ble_eq_true rfl) dX3_copyFrom_112 (fun I10 H locs eI10 hM hS => ?_)
  have hw := hw I10 eI10
  refine lv_aload_n hx hb dX3_copyFrom_115 rfl (lv_at hl 1 rfl) ?_
  refine m_getr E hM fs_X3_27 ha1.1 (isO_at ha1 5 rfl).1 dX3_copyFrom_116 ?_
  refine lv_iconst (v := 0) hx hb dX3_copyFrom_119 (by decide) ?_
  refine lv_aload_n hx hb dX3_copyFrom_120 rfl (lv_at hl 0 rfl) ?_
  refine m_getr E hM fs_X3_27 ho.1 (isO_at ho 5 rfl).1 dX3_copyFrom_121 ?_
  refine lv_iconst (v := 0) hx hb dX3_copyFrom_124 (by decide) ?_
  refine lv_bipush (v := 6) hx hb dX3_copyFrom_125 (by decide) ?_
  obtain ⟨q1, q2, q3, q4, q5, q6, hw⟩ := hw
  refine m_copy E hM hS ml_X3_73 hl.1 (isO_at ha1 5 rfl).2 (isO_at ho 5 rfl).2 (by simp) q1 q2 q3 q4 q5 q6 (fun h9 => absurd h9 (by decide)) (Nat.le_of_ble_eq_true rfl) (Nat.le_of_ble_eq_true rfl) dX3_copyFrom_127 (fun I11 H locs eI11 hM hS => ?_)
  have hw := hw I11 eI11
  refine lv_aload_n hx hb dX3_copyFrom_130 rfl (lv_at hl 1 rfl) ?_
  refine m_getr E hM fs_X3_30 ha1.1 (isO_at ha1 6 rfl).1 dX3_copyFrom_131 ?_
  refine lv_iconst (v := 0) hx hb dX3_copyFrom_134 (by decide) ?_
  refine lv_aload_n hx hb dX3_copyFrom_135 rfl (lv_at hl 0 rfl) ?_
  refine m_getr E hM fs_X3_30 ho.1 (isO_at ho 6 rfl).1 dX3_copyFrom_136 ?_
  refine lv_iconst (v := 0) hx hb dX3_copyFrom_139 (by decide) ?_
  refine lv_bipush (v := 6) hx hb dX3_copyFrom_140 (by decide) ?_
  obtain ⟨q1, q2, q3, q4, q5, q6, hw⟩ := hw
  refine m_copy E hM hS ml_X3_73 hl.1 (isO_at ha1 6 rfl).2 (isO_at ho 6 rfl).2 (by simp) q1 q2 q3 q4 q5 q6 (fun h9 => absurd h9 (by decide)) (Nat.le_of_ble_eq_true rfl) (Nat.le_of_ble_eq_true rfl) dX3_copyFrom_142 (fun I12 H locs eI12 hM hS => ?_)
  have hw := hw I12 eI12
  refine lv_aload_n hx hb dX3_copyFrom_145 rfl (lv_at hl 1 rfl) ?_
  refine m_getr E hM fs_X3_33 ha1.1 (isO_at ha1 7 rfl).1 dX3_copyFrom_146 ?_
  refine lv_iconst (v := 0) hx hb dX3_copyFrom_149 (by decide) ?_
  refine lv_aload_n hx hb dX3_copyFrom_150 rfl (lv_at hl 0 rfl) ?_
  refine m_getr E hM fs_X3_33 ho.1 (isO_at ho 7 rfl).1 dX3_copyFrom_151 ?_
  refine lv_iconst (v := 0) hx hb dX3_copyFrom_154 (by decide) ?_
  refine lv_bipush (v := 6) hx hb dX3_copyFrom_155 (by decide) ?_
  obtain ⟨q1, q2, q3, q4, q5, q6, hw⟩ := hw
  refine m_copy E hM hS ml_X3_73 hl.1 (isO_at ha1 7 rfl).2 (isO_at ho 7 rfl).2 (by simp) q1 q2 q3 q4 q5 q6 (fun h9 => absurd h9 (by decide)) (Nat.le_of_ble_eq_true rfl) (Nat.le_of_ble_eq_true rfl) dX3_copyFrom_157 (fun I13 H locs eI13 hM hS => ?_)
  have hw := hw I13 eI13
  refine lv_aload_n hx hb dX3_copyFrom_160 rfl (lv_at hl 1 rfl) ?_
  refine m_getr E hM fs_X3_36 ha1.1 (isO_at ha1 8 rfl).1 dX3_copyFrom_161 ?_
  refine lv_iconst (v := 0) hx hb dX3_copyFrom_164 (by decide) ?_
  refine lv_aload_n hx hb dX3_copyFrom_165 rfl (lv_at hl 0 rfl) ?_
  refine m_getr E hM fs_X3_36 ho.1 (isO_at ho 8 rfl).1 dX3_copyFrom_166 ?_
  refine lv_iconst (v := 0) hx hb dX3_copyFrom_169 (by decide) ?_
  refine lv_bipush (v := 6) hx hb dX3_copyFrom_170 (by decide) ?_
  obtain ⟨q1, q2, q3, q4, q5, q6, hw⟩ := hw
  refine m_copy E hM hS ml_X3_73 hl.1 (isO_at ha1 8 rfl).2 (isO_at ho 8 rfl).2 (by simp) q1 q2 q3 q4 q5 q6 (fun h9 => absurd h9 (by decide)) (Nat.le_of_ble_eq_true rfl) (Nat.le_of_ble_eq_true rfl) dX3_copyFrom_172 (fun I14 H locs eI14 hM hS => ?_)
  have hw := hw I14 eI14
  refine lv_aload_n hx hb dX3_copyFrom_175 rfl (lv_at hl 1 rfl) ?_
  refine m_getr E hM fs_X3_39 ha1.1 (isO_at ha1 9 rfl).1 dX3_copyFrom_176 ?_
  refine lv_iconst (v := 0) hx hb dX3_copyFrom_179 (by decide) ?_
  refine lv_aload_n hx hb dX3_copyFrom_180 rfl (lv_at hl 0 rfl) ?_
  refine m_getr E hM fs_X3_39 ho.1 (isO_at ho 9 rfl).1 dX3_copyFrom_181 ?_
  refine lv_iconst (v := 0) hx hb dX3_copyFrom_184 (by decide) ?_
  refine lv_bipush (v := 48) hx hb dX3_copyFrom_185 (by decide) ?_
  obtain ⟨q1, q2, q3, q4, q5, q6, hw⟩ := hw
  refine m_copy E hM hS ml_X3_73 hl.1 (isO_at ha1 9 rfl).2 (isO_at ho 9 rfl).2 (by simp) q1 q2 q3 q4 q5 q6 (fun h9 => absurd h9 (by decide)) (Nat.le_of_ble_eq_true rfl) (Nat.le_of_ble_eq_true rfl) dX3_copyFrom_187 (fun I15 H locs eI15 hM hS => ?_)
  have hw := hw I15 eI15
  refine lv_aload_n hx hb dX3_copyFrom_190 rfl (lv_at hl 1 rfl) ?_
  refine m_getr E hM fs_X3_42 ha1.1 (isO_at ha1 10 rfl).1 dX3_copyFrom_191 ?_
  refine lv_iconst (v := 0) hx hb dX3_copyFrom_194 (by decide) ?_
  refine lv_aload_n hx hb dX3_copyFrom_195 rfl (lv_at hl 0 rfl) ?_
  refine m_getr E hM fs_X3_42 ho.1 (isO_at ho 10 rfl).1 dX3_copyFrom_196 ?_
  refine lv_iconst (v := 0) hx hb dX3_copyFrom_199 (by decide) ?_
  refine lv_bipush (v := 8) hx hb dX3_copyFrom_200 (by decide) ?_
  obtain ⟨q1, q2, q3, q4, q5, q6, hw⟩ := hw
  refine m_copy E hM hS ml_X3_73 hl.1 (isO_at ha1 10 rfl).2 (isO_at ho 10 rfl).2 (by simp) q1 q2 q3 q4 q5 q6 (fun h9 => absurd h9 (by decide)) (Nat.le_of_ble_eq_true rfl) (Nat.le_of_ble_eq_true rfl) dX3_copyFrom_202 (fun I16 H locs eI16 hM hS => ?_)
  have hw := hw I16 eI16
  refine lv_aload_n hx hb dX3_copyFrom_205 rfl (lv_at hl 1 rfl) ?_
  refine m_getr E hM fs_X3_45 ha1.1 (isO_at ha1 11 rfl).1 dX3_copyFrom_206 ?_
  refine lv_iconst (v := 0) hx hb dX3_copyFrom_209 (by decide) ?_
  refine lv_aload_n hx hb dX3_copyFrom_210 rfl (lv_at hl 0 rfl) ?_
  refine m_getr E hM fs_X3_45 ho.1 (isO_at ho 11 rfl).1 dX3_copyFrom_211 ?_
  refine lv_iconst (v := 0) hx hb dX3_copyFrom_214 (by decide) ?_
  refine lv_bipush (v := 8) hx hb dX3_copyFrom_215 (by decide) ?_
  obtain ⟨q1, q2, q3, q4, q5, q6, hw⟩ := hw
  refine m_copy E hM hS ml_X3_73 hl.1 (isO_at ha1 11 rfl).2 (isO_at ho 11 rfl).2 (by simp) q1 q2 q3 q4 q5 q6 (fun h9 => absurd h9 (by decide)) (Nat.le_of_ble_eq_true rfl) (Nat.le_of_ble_eq_true rfl) dX3_copyFrom_217 (fun I17 H locs eI17 hM hS => ?_)
  have hw := hw I17 eI17
  refine lv_aload_n hx hb dX3_copyFrom_220 rfl (lv_at hl 1 rfl) ?_
  refine m_getr E hM fs_X3_48 ha1.1 (isO_at ha1 12 rfl).1 dX3_copyFrom_221 ?_
  refine lv_iconst (v := 0) hx hb dX3_copyFrom_224 (by decide) ?_
  refine lv_aload_n hx hb dX3_copyFrom_225 rfl (lv_at hl 0 rfl) ?_
  refine m_getr E hM fs_X3_48 ho.1 (isO_at ho 12 rfl).1 dX3_copyFrom_226 ?_
  refine lv_iconst (v := 0) hx hb dX3_copyFrom_229 (by decide) ?_
  refine lv_bipush (v := 8) hx hb dX3_copyFrom_230 (by decide) ?_
  obtain ⟨q1, q2, q3, q4, q5, q6, hw⟩ := hw
  refine m_copy E hM hS ml_X3_73 hl.1 (isO_at ha1 12 rfl).2 (isO_at ho 12 rfl).2 (by simp) q1 q2 q3 q4 q5 q6 (fun h9 => absurd h9 (by decide)) (Nat.le_of_ble_eq_true rfl) (Nat.le_of_ble_eq_true rfl) dX3_copyFrom_232 (fun I18 H locs eI18 hM hS => ?_)
  have hw := hw I18 eI18
  exact m_retv hx hb hr hlk hM hS ⟨_, rfl, hw⟩ dX3_copyFrom_235
theorem dX3_hasFlat_0 : decode cX3_hasFlat 0 = .ok (.iload_n 1, 1) := by decide +kernel
theorem dX3_hasFlat_1 : decode cX3_hasFlat 1 = .ok (.ifCond .lt 15, 3) := by decide +kernel
theorem dX3_hasFlat_4 : decode cX3_hasFlat 4 = .ok (.iload_n 1, 1) := by decide +kernel
theorem dX3_hasFlat_5 : decode cX3_hasFlat 5 = .ok (.aload_n 0, 1) := by decide +kernel
theorem dX3_hasFlat_6 : decode cX3_hasFlat 6 = .ok (.getfield 58, 3) := by decide +kernel
theorem dX3_hasFlat_9 : decode cX3_hasFlat 9 = .ok (.if_icmp .ge 7, 3) := by decide +kernel
theorem dX3_hasFlat_12 : decode cX3_hasFlat 12 = .ok (.iconst 1, 1) := by decide +kernel
theorem dX3_hasFlat_13 : decode cX3_hasFlat 13 = .ok (.goto 4, 3) := by decide +kernel
theorem dX3_hasFlat_16 : decode cX3_hasFlat 16 = .ok (.iconst 0, 1) := by decide +kernel
theorem dX3_hasFlat_17 : decode cX3_hasFlat 17 = .ok (.ireturn, 1) := by decide +kernel
def w_X3_hasFlat (I : mI) (o : Nat) (a1 : Int32) (post : Bool → Prop) : Prop := (a1 < 0 → post false) ∧ (¬ a1 < 0 → ((I o 2) ≤ a1 → post false) ∧ (¬ (I o 2) ≤ a1 → post true))
set_option maxRecDepth 100000 in
set_option maxHeartbeats 4000000 in
theorem c_X3_hasFlat {l : Launch} {D : va_G} {cA : Nat → ClassId} {Z : mZ} {bs : Ad} {n : Nat} {K : mK} {R : mR} {I : mI} {L : mL} {o : Nat} {a1 : Int32} {post : Bool → Prop} (ho : isX3 K R o) (hw : w_X3_hasFlat I o a1 post) : Met l yX3_hasFlat (.code yX3_hasFlat cX3_hasFlat 2 (some .boolean) :: gw) ({ frames := 0, cells := 0, slots := 0, locals := 0 } : Room) (PreM D cA Z bs (n, K, R, I, L) [.ref (ad bs o), .int a1]) (QI D cA bs (fun r u => ∃ b, r = bI b ∧ u = (n, K, R, I, L) ∧ post b)) 0 0 (Ab bs) := by
  refine m_met (by decide) (Nat.le_of_ble_eq_true rfl) (fun p e s m below meth c ls E hr hlk hM hS hl => ?_)
  have E : Ev p s m _ c cX3_hasFlat 2 RX3 D cA Z bs := E
  have hl : lv_has ls 2 [(0, .ref (ad bs o)), (1, .int a1)] := hl
  have hx := E.1.1
  have hb := E.1.2.1
  generalize hHe : s.heap = H at hM ⊢
  have hS : va_S (Ab bs) s.heap H [] := by rw [← hHe]; exact va_S.rf
  clear hHe
  refine lv_iload_n hx hb dX3_hasFlat_0 rfl (lv_at hl 1 rfl) ?_
  refine lv_if_lt (tgt := 16) hx hb dX3_hasFlat_1 (by decide) (fun cq => ?_) (fun cq => ?_)
  · have hw := hw.1 cq
    refine lv_iconst (v := 0) hx hb dX3_hasFlat_16 (by decide) ?_
    exact m_retz hx hb hr hlk (Or.inl rfl) hM hS ⟨false, rfl, rfl, hw⟩ dX3_hasFlat_17
  · have hw := hw.2 cq
    refine lv_iload_n hx hb dX3_hasFlat_4 rfl (lv_at hl 1 rfl) ?_
    refine lv_aload_n hx hb dX3_hasFlat_5 rfl (lv_at hl 0 rfl) ?_
    refine m_geti E hM fs_X3_58 ho.1 dX3_hasFlat_6 ?_
    refine lv_icmp_ge (tgt := 16) hx hb dX3_hasFlat_9 (by decide) (fun cq => ?_) (fun cq => ?_)
    · have hw := hw.1 cq
      refine lv_iconst (v := 0) hx hb dX3_hasFlat_16 (by decide) ?_
      exact m_retz hx hb hr hlk (Or.inl rfl) hM hS ⟨false, rfl, rfl, hw⟩ dX3_hasFlat_17
    · have hw := hw.2 cq
      refine lv_iconst (v := 1) hx hb dX3_hasFlat_12 (by decide) ?_
      refine lv_goto (tgt := 17) hx hb dX3_hasFlat_13 (by decide) ?_
      exact m_retz hx hb hr hlk (Or.inr rfl) hM hS ⟨true, rfl, rfl, hw⟩ dX3_hasFlat_17
theorem dX3_hasPerson_0 : decode cX3_hasPerson 0 = .ok (.iload_n 1, 1) := by decide +kernel
theorem dX3_hasPerson_1 : decode cX3_hasPerson 1 = .ok (.ifCond .lt 15, 3) := by decide +kernel
theorem dX3_hasPerson_4 : decode cX3_hasPerson 4 = .ok (.iload_n 1, 1) := by decide +kernel
theorem dX3_hasPerson_5 : decode cX3_hasPerson 5 = .ok (.aload_n 0, 1) := by decide +kernel
theorem dX3_hasPerson_6 : decode cX3_hasPerson 6 = .ok (.getfield 61, 3) := by decide +kernel
theorem dX3_hasPerson_9 : decode cX3_hasPerson 9 = .ok (.if_icmp .ge 7, 3) := by decide +kernel
theorem dX3_hasPerson_12 : decode cX3_hasPerson 12 = .ok (.iconst 1, 1) := by decide +kernel
theorem dX3_hasPerson_13 : decode cX3_hasPerson 13 = .ok (.goto 4, 3) := by decide +kernel
theorem dX3_hasPerson_16 : decode cX3_hasPerson 16 = .ok (.iconst 0, 1) := by decide +kernel
theorem dX3_hasPerson_17 : decode cX3_hasPerson 17 = .ok (.ireturn, 1) := by decide +kernel
def w_X3_hasPerson (I : mI) (o : Nat) (a1 : Int32) (post : Bool → Prop) : Prop := (a1 < 0 → post false) ∧ (¬ a1 < 0 → ((I o 3) ≤ a1 → post false) ∧ (¬ (I o 3) ≤ a1 → post true))
set_option maxRecDepth 100000 in
set_option maxHeartbeats 4000000 in
theorem c_X3_hasPerson {l : Launch} {D : va_G} {cA : Nat → ClassId} {Z : mZ} {bs : Ad} {n : Nat} {K : mK} {R : mR} {I : mI} {L : mL} {o : Nat} {a1 : Int32} {post : Bool → Prop} (ho : isX3 K R o) (hw : w_X3_hasPerson I o a1 post) : Met l yX3_hasPerson (.code yX3_hasPerson cX3_hasPerson 2 (some .boolean) :: gw) ({ frames := 0, cells := 0, slots := 0, locals := 0 } : Room) (PreM D cA Z bs (n, K, R, I, L) [.ref (ad bs o), .int a1]) (QI D cA bs (fun r u => ∃ b, r = bI b ∧ u = (n, K, R, I, L) ∧ post b)) 0 0 (Ab bs) := by
  refine m_met (by decide) (Nat.le_of_ble_eq_true rfl) (fun p e s m below meth c ls E hr hlk hM hS hl => ?_)
  have E : Ev p s m _ c cX3_hasPerson 2 RX3 D cA Z bs := E
  have hl : lv_has ls 2 [(0, .ref (ad bs o)), (1, .int a1)] := hl
  have hx := E.1.1
  have hb := E.1.2.1
  generalize hHe : s.heap = H at hM ⊢
  have hS : va_S (Ab bs) s.heap H [] := by rw [← hHe]; exact va_S.rf
  clear hHe
  refine lv_iload_n hx hb dX3_hasPerson_0 rfl (lv_at hl 1 rfl) ?_
  refine lv_if_lt (tgt := 16) hx hb dX3_hasPerson_1 (by decide) (fun cq => ?_) (fun cq => ?_)
  · have hw := hw.1 cq
    refine lv_iconst (v := 0) hx hb dX3_hasPerson_16 (by decide) ?_
    exact m_retz hx hb hr hlk (Or.inl rfl) hM hS ⟨false, rfl, rfl, hw⟩ dX3_hasPerson_17
  · have hw := hw.2 cq
    refine lv_iload_n hx hb dX3_hasPerson_4 rfl (lv_at hl 1 rfl) ?_
    refine lv_aload_n hx hb dX3_hasPerson_5 rfl (lv_at hl 0 rfl) ?_
    refine m_geti E hM fs_X3_61 ho.1 dX3_hasPerson_6 ?_
    refine lv_icmp_ge (tgt := 16) hx hb dX3_hasPerson_9 (by decide) (fun cq => ?_) (fun cq => ?_)
    · have hw := hw.1 cq
      refine lv_iconst (v := 0) hx hb dX3_hasPerson_16 (by decide) ?_
      exact m_retz hx hb hr hlk (Or.inl rfl) hM hS ⟨false, rfl, rfl, hw⟩ dX3_hasPerson_17
    · have hw := hw.2 cq
      refine lv_iconst (v := 1) hx hb dX3_hasPerson_12 (by decide) ?_
      refine lv_goto (tgt := 17) hx hb dX3_hasPerson_13 (by decide) ?_
      exact m_retz hx hb hr hlk (Or.inr rfl) hM hS ⟨true, rfl, rfl, hw⟩ dX3_hasPerson_17
theorem dX3_allFlats_0 : decode cX3_allFlats 0 = .ok (.iconst 1, 1) := by decide +kernel
theorem dX3_allFlats_1 : decode cX3_allFlats 1 = .ok (.aload_n 0, 1) := by decide +kernel
theorem dX3_allFlats_2 : decode cX3_allFlats 2 = .ok (.getfield 58, 3) := by decide +kernel
theorem dX3_allFlats_5 : decode cX3_allFlats 5 = .ok (.ishl, 1) := by decide +kernel
theorem dX3_allFlats_6 : decode cX3_allFlats 6 = .ok (.iconst 1, 1) := by decide +kernel
theorem dX3_allFlats_7 : decode cX3_allFlats 7 = .ok (.isub, 1) := by decide +kernel
theorem dX3_allFlats_8 : decode cX3_allFlats 8 = .ok (.ireturn, 1) := by decide +kernel
def w_X3_allFlats (I : mI) (o : Nat) (post : Int32 → Prop) : Prop := post ((1 <<< ((I o 2) &&& 31)) - 1)
set_option maxRecDepth 100000 in
set_option maxHeartbeats 4000000 in
theorem c_X3_allFlats {l : Launch} {D : va_G} {cA : Nat → ClassId} {Z : mZ} {bs : Ad} {n : Nat} {K : mK} {R : mR} {I : mI} {L : mL} {o : Nat} {post : Int32 → Prop} (ho : isX3 K R o) (hw : w_X3_allFlats I o post) : Met l yX3_allFlats (.code yX3_allFlats cX3_allFlats 1 (some .int) :: gw) ({ frames := 0, cells := 0, slots := 0, locals := 0 } : Room) (PreM D cA Z bs (n, K, R, I, L) [.ref (ad bs o)]) (QI D cA bs (fun r u => u = (n, K, R, I, L) ∧ post r)) 0 0 (Ab bs) := by
  refine m_met (by decide) (Nat.le_of_ble_eq_true rfl) (fun p e s m below meth c ls E hr hlk hM hS hl => ?_)
  have E : Ev p s m _ c cX3_allFlats 1 RX3 D cA Z bs := E
  have hl : lv_has ls 1 [(0, .ref (ad bs o))] := hl
  have hx := E.1.1
  have hb := E.1.2.1
  generalize hHe : s.heap = H at hM ⊢
  have hS : va_S (Ab bs) s.heap H [] := by rw [← hHe]; exact va_S.rf
  clear hHe
  refine lv_iconst (v := 1) hx hb dX3_allFlats_0 (by decide) ?_
  refine lv_aload_n hx hb dX3_allFlats_1 rfl (lv_at hl 0 rfl) ?_
  refine m_geti E hM fs_X3_58 ho.1 dX3_allFlats_2 ?_
  refine lv_ishl hx hb dX3_allFlats_5 ?_
  refine lv_iconst (v := 1) hx hb dX3_allFlats_6 (by decide) ?_
  refine lv_isub hx hb dX3_allFlats_7 ?_
  exact m_reti hx hb hr hlk hM hS ⟨rfl, hw⟩ dX3_allFlats_8
theorem dX3_hears_0 : decode cX3_hears 0 = .ok (.iload_n 3, 1) := by decide +kernel
theorem dX3_hears_1 : decode cX3_hears 1 = .ok (.ifCond .le 29, 3) := by decide +kernel
theorem dX3_hears_4 : decode cX3_hears 4 = .ok (.aload_n 0, 1) := by decide +kernel
theorem dX3_hears_5 : decode cX3_hears 5 = .ok (.getfield 15, 3) := by decide +kernel
theorem dX3_hears_8 : decode cX3_hears 8 = .ok (.iload_n 1, 1) := by decide +kernel
theorem dX3_hears_9 : decode cX3_hears 9 = .ok (.iaload, 1) := by decide +kernel
theorem dX3_hears_10 : decode cX3_hears 10 = .ok (.iload_n 2, 1) := by decide +kernel
theorem dX3_hears_11 : decode cX3_hears 11 = .ok (.isub, 1) := by decide +kernel
theorem dX3_hears_12 : decode cX3_hears 12 = .ok (.invokestatic 85, 3) := by decide +kernel
theorem dX3_hears_15 : decode cX3_hears 15 = .ok (.aload_n 0, 1) := by decide +kernel
theorem dX3_hears_16 : decode cX3_hears 16 = .ok (.getfield 18, 3) := by decide +kernel
theorem dX3_hears_19 : decode cX3_hears 19 = .ok (.iload_n 1, 1) := by decide +kernel
theorem dX3_hears_20 : decode cX3_hears 20 = .ok (.iaload, 1) := by decide +kernel
theorem dX3_hears_21 : decode cX3_hears 21 = .ok (.iload_n 3, 1) := by decide +kernel
theorem dX3_hears_22 : decode cX3_hears 22 = .ok (.iadd, 1) := by decide +kernel
theorem dX3_hears_23 : decode cX3_hears 23 = .ok (.if_icmp .gt 7, 3) := by decide +kernel
theorem dX3_hears_26 : decode cX3_hears 26 = .ok (.iconst 1, 1) := by decide +kernel
theorem dX3_hears_27 : decode cX3_hears 27 = .ok (.goto 4, 3) := by decide +kernel
theorem dX3_hears_30 : decode cX3_hears 30 = .ok (.iconst 0, 1) := by decide +kernel
theorem dX3_hears_31 : decode cX3_hears 31 = .ok (.ireturn, 1) := by decide +kernel
def w_X3_hears (I : mI) (o : Nat) (a1 : Int32) (a2 : Int32) (a3 : Int32) (post : Bool → Prop) : Prop := (a3 ≤ 0 → post false) ∧ (¬ a3 ≤ 0 → vp_in a1 6 ∧ vp_in a1 6 ∧ (((I (o + 3) a1.toNatClampNeg) + a3) < (iabs ((I (o + 2) a1.toNatClampNeg) - a2)) → post false) ∧ (¬ ((I (o + 3) a1.toNatClampNeg) + a3) < (iabs ((I (o + 2) a1.toNatClampNeg) - a2)) → post true))
set_option maxRecDepth 100000 in
set_option maxHeartbeats 4000000 in
theorem c_X3_hears {l : Launch} {D : va_G} {cA : Nat → ClassId} {Z : mZ} {bs : Ad} {n : Nat} {K : mK} {R : mR} {I : mI} {L : mL} {o : Nat} {a1 : Int32} {a2 : Int32} {a3 : Int32} {post : Bool → Prop} (ho : isX3 K R o) (hw : w_X3_hears I o a1 a2 a3 post) : Met l yX3_hears (.code yX3_hears cX3_hears 4 (some .boolean) :: gw) ({ frames := 1, cells := 0, slots := 0, locals := 40 } : Room) (PreM D cA Z bs (n, K, R, I, L) [.ref (ad bs o), .int a1, .int a2, .int a3]) (QI D cA bs (fun r u => ∃ b, r = bI b ∧ u = (n, K, R, I, L) ∧ post b)) 0 0 (Ab bs) := by
  refine m_met (by decide) (Nat.le_of_ble_eq_true rfl) (fun p e s m below meth c ls E hr hlk hM hS hl => ?_)
  have E : Ev p s m _ c cX3_hears 4 RX3 D cA Z bs := E
  have hl : lv_has ls 4 [(0, .ref (ad bs o)), (1, .int a1), (2, .int a2), (3, .int a3)] := hl
  have hx := E.1.1
  have hb := E.1.2.1
  generalize hHe : s.heap = H at hM ⊢
  have hS : va_S (Ab bs) s.heap H [] := by rw [← hHe]; exact va_S.rf
  clear hHe
  refine lv_iload_n hx hb dX3_hears_0 rfl (lv_at hl 3 rfl) ?_
  refine lv_if_le (tgt := 30) hx hb dX3_hears_1 (by decide) (fun cq => ?_) (fun cq => ?_)
  · have hw := hw.1 cq
    refine lv_iconst (v := 0) hx hb dX3_hears_30 (by decide) ?_
    exact m_retz hx hb hr hlk (Or.inl rfl) hM hS ⟨false, rfl, rfl, hw⟩ dX3_hears_31
  · have hw := hw.2 cq
    refine lv_aload_n hx hb dX3_hears_4 rfl (lv_at hl 0 rfl) ?_
    refine m_getr E hM fs_X3_15 ho.1 (isO_at ho 1 rfl).1 dX3_hears_5 ?_
    refine lv_iload_n hx hb dX3_hears_8 rfl (lv_at hl 1 rfl) ?_
    obtain ⟨hv, hw⟩ := hw
    refine m_iald E hM (isO_at ho 1 rfl).2 hv dX3_hears_9 ?_
    refine lv_iload_n hx hb dX3_hears_10 rfl (lv_at hl 2 rfl) ?_
    refine lv_isub hx hb dX3_hears_11 ?_
    refine m_abs E ml_X3_85 hl.1 (Nat.le_of_ble_eq_true rfl) (Nat.le_of_ble_eq_true rfl) (Nat.le_of_ble_eq_true rfl) (Nat.le_of_ble_eq_true rfl) dX3_hears_12 ?_
    refine lv_aload_n hx hb dX3_hears_15 rfl (lv_at hl 0 rfl) ?_
    refine m_getr E hM fs_X3_18 ho.1 (isO_at ho 2 rfl).1 dX3_hears_16 ?_
    refine lv_iload_n hx hb dX3_hears_19 rfl (lv_at hl 1 rfl) ?_
    obtain ⟨hv, hw⟩ := hw
    refine m_iald E hM (isO_at ho 2 rfl).2 hv dX3_hears_20 ?_
    refine lv_iload_n hx hb dX3_hears_21 rfl (lv_at hl 3 rfl) ?_
    refine lv_iadd hx hb dX3_hears_22 ?_
    refine lv_icmp_gt (tgt := 30) hx hb dX3_hears_23 (by decide) (fun cq => ?_) (fun cq => ?_)
    · have hw := hw.1 cq
      refine lv_iconst (v := 0) hx hb dX3_hears_30 (by decide) ?_
      exact m_retz hx hb hr hlk (Or.inl rfl) hM hS ⟨false, rfl, rfl, hw⟩ dX3_hears_31
    · have hw := hw.2 cq
      refine lv_iconst (v := 1) hx hb dX3_hears_26 (by decide) ?_
      refine lv_goto (tgt := 31) hx hb dX3_hears_27 (by decide) ?_
      exact m_retz hx hb hr hlk (Or.inr rfl) hM hS ⟨true, rfl, rfl, hw⟩ dX3_hears_31
theorem dX3_wearTheSame_0 : decode cX3_wearTheSame 0 = .ok (.iconst 0, 1) := by decide +kernel
theorem dX3_wearTheSame_1 : decode cX3_wearTheSame 1 = .ok (.istore_n 3, 1) := by decide +kernel
theorem dX3_wearTheSame_2 : decode cX3_wearTheSame 2 = .ok (.iload_n 3, 1) := by decide +kernel
theorem dX3_wearTheSame_3 : decode cX3_wearTheSame 3 = .ok (.bipush 100, 2) := by decide +kernel
theorem dX3_wearTheSame_5 : decode cX3_wearTheSame 5 = .ok (.if_icmp .ge 26, 3) := by decide +kernel
theorem dX3_wearTheSame_8 : decode cX3_wearTheSame 8 = .ok (.aload_n 0, 1) := by decide +kernel
theorem dX3_wearTheSame_9 : decode cX3_wearTheSame 9 = .ok (.iload_n 1, 1) := by decide +kernel
theorem dX3_wearTheSame_10 : decode cX3_wearTheSame 10 = .ok (.iload_n 3, 1) := by decide +kernel
theorem dX3_wearTheSame_11 : decode cX3_wearTheSame 11 = .ok (.invokevirtual 99, 3) := by decide +kernel
theorem dX3_wearTheSame_14 : decode cX3_wearTheSame 14 = .ok (.aload_n 0, 1) := by decide +kernel
theorem dX3_wearTheSame_15 : decode cX3_wearTheSame 15 = .ok (.iload_n 2, 1) := by decide +kernel
theorem dX3_wearTheSame_16 : decode cX3_wearTheSame 16 = .ok (.iload_n 3, 1) := by decide +kernel
theorem dX3_wearTheSame_17 : decode cX3_wearTheSame 17 = .ok (.invokevirtual 99, 3) := by decide +kernel
theorem dX3_wearTheSame_20 : decode cX3_wearTheSame 20 = .ok (.if_icmp .eq 5, 3) := by decide +kernel
theorem dX3_wearTheSame_23 : decode cX3_wearTheSame 23 = .ok (.iconst 0, 1) := by decide +kernel
theorem dX3_wearTheSame_24 : decode cX3_wearTheSame 24 = .ok (.ireturn, 1) := by decide +kernel
theorem dX3_wearTheSame_25 : decode cX3_wearTheSame 25 = .ok (.iinc 3 1, 3) := by decide +kernel
theorem dX3_wearTheSame_28 : decode cX3_wearTheSame 28 = .ok (.goto (-26), 3) := by decide +kernel
theorem dX3_wearTheSame_31 : decode cX3_wearTheSame 31 = .ok (.iconst 1, 1) := by decide +kernel
theorem dX3_wearTheSame_32 : decode cX3_wearTheSame 32 = .ok (.ireturn, 1) := by decide +kernel
def w_X3_wearTheSame_2 (I : mI) (o : Nat) (a1 : Int32) (a2 : Int32) (post : Bool → Prop) (v3 : Int32) : Prop := ∀ ZZ : (Int32 → Prop), (∀ (v3 : Int32), ((100 ≤ v3 → post true) ∧ (¬ 100 ≤ v3 → w_X3_shoeAt I o a1 v3 (fun r1 => w_X3_shoeAt I o a2 v3 (fun r2 => (r1 = r2 → ∀ x3, x3 = v3 + 1 → ZZ x3) ∧ (¬ r1 = r2 → post false))))) → ZZ v3) → ZZ v3
set_option maxRecDepth 100000 in
set_option maxHeartbeats 4000000 in
theorem s_X3_wearTheSame_2 {p : Program} {l : Launch} {e : Env} {s : State} {m : MethodId} {args : Array Value} {below : List Frame} {meth : Method} {c : Code} {D : va_G} {cA : Nat → ClassId} {Z : mZ} {bs : Ad} {n : Nat} {K : mK} {R : mR} {I : mI} {L : mL} (E : Ev p s m args c cX3_wearTheSame 4 RX3 D cA Z bs) (hr : meth.sig.returnType = (some .boolean)) (hlk : meth.locks = false) {o : Nat} {a1 : Int32} {a2 : Int32} (ho : isX3 K R o) {post : Bool → Prop} {v3 : Int32} {H : Heap} {locs : List Loc} {ls : Array Slot} (hw : w_X3_wearTheSame_2 I o a1 a2 post v3) (hM : mm D cA bs (n, K, R, I, L) H) (hS : va_S (Ab bs) s.heap H locs) (hl : lv_has ls 4 [(0, .ref (ad bs o)), (1, .int a1), (2, .int a2), (3, .int v3)]) : W p l e ({ frames := 1, cells := 0, slots := 0, locals := 25 } : Room) s m args below meth c H locs 0 0 (MQ below (QI D cA bs (fun r u => ∃ b, r = bI b ∧ u = (n, K, R, I, L) ∧ post b)) args s 0 0 (Ab bs)) (F0 m 2 ls []) := by
  have hx := E.1.1
  have hb := E.1.2.1
  refine hw (fun v3 => ∀ (H : Heap) (locs : List Loc) (ls : Array Slot), mm D cA bs (n, K, R, I, L) H → va_S (Ab bs) s.heap H locs → lv_has ls 4 [(0, .ref (ad bs o)), (1, .int a1), (2, .int a2), (3, .int v3)] → W p l e ({ frames := 1, cells := 0, slots := 0, locals := 25 } : Room) s m args below meth c H locs 0 0 (MQ below (QI D cA bs (fun r u => ∃ b, r = bI b ∧ u = (n, K, R, I, L) ∧ post b)) args s 0 0 (Ab bs)) (F0 m 2 ls [])) ?_ H locs ls hM hS hl
  clear hw hM hS hl
  intro v3 hw H locs ls hM hS hl
  refine lv_iload_n hx hb dX3_wearTheSame_2 rfl (lv_at hl 3 rfl) ?_
  refine lv_bipush (v := 100) hx hb dX3_wearTheSame_3 (by decide) ?_
  refine lv_icmp_ge (tgt := 31) hx hb dX3_wearTheSame_5 (by decide) (fun cq => ?_) (fun cq => ?_)
  · have hw := hw.1 cq
    refine lv_iconst (v := 1) hx hb dX3_wearTheSame_31 (by decide) ?_
    exact m_retz hx hb hr hlk (Or.inr rfl) hM hS ⟨true, rfl, rfl, hw⟩ dX3_wearTheSame_32
  · have hw := hw.2 cq
    refine lv_aload_n hx hb dX3_wearTheSame_8 rfl (lv_at hl 0 rfl) ?_
    refine lv_iload_n hx hb dX3_wearTheSame_9 rfl (lv_at hl 1 rfl) ?_
    refine lv_iload_n hx hb dX3_wearTheSame_10 rfl (lv_at hl 3 rfl) ?_
    refine m_ci (m_runV E hM hS cs_X3_99 ho.1 (by decide) rfl rfl (c_X3_shoeAt ho hw) rfl rfl ⟨Nat.le_of_ble_eq_true rfl, Nat.le_of_ble_eq_true rfl⟩ rfl hl.1 rfl (Nat.le_of_ble_eq_true rfl) dX3_wearTheSame_11 ⟨Nat.le_of_ble_eq_true rfl, Nat.le_of_ble_eq_true rfl⟩) hS (fun r1 u H locs hp hM hS => ?_)
    obtain ⟨rfl, hw⟩ := hp
    refine lv_aload_n hx hb dX3_wearTheSame_14 rfl (lv_at hl 0 rfl) ?_
    refine lv_iload_n hx hb dX3_wearTheSame_15 rfl (lv_at hl 2 rfl) ?_
    refine lv_iload_n hx hb dX3_wearTheSame_16 rfl (lv_at hl 3 rfl) ?_
    refine m_ci (m_runV E hM hS cs_X3_99 ho.1 (by decide) rfl rfl (c_X3_shoeAt ho hw) rfl rfl ⟨Nat.le_of_ble_eq_true rfl, Nat.le_of_ble_eq_true rfl⟩ rfl hl.1 rfl (Nat.le_of_ble_eq_true rfl) dX3_wearTheSame_17 ⟨Nat.le_of_ble_eq_true rfl, Nat.le_of_ble_eq_true rfl⟩) hS (fun r2 u H locs hp hM hS => ?_)
    obtain ⟨rfl, hw⟩ := hp
    refine lv_icmp_eq (tgt := 25) hx hb dX3_wearTheSame_20 (by decide) (fun cq => ?_) (fun cq => ?_)
    · have hw := hw.1 cq
      obtain ⟨x3, ex3⟩ : ∃ y : Int32, y = v3 + 1 := ⟨_, rfl⟩
      have hw := hw x3 ex3
      refine lv_iinc (v := x3) (lv' := [(3, .int x3), (0, .ref (ad bs o)), (1, .int a1), (2, .int a2)]) hx hb dX3_wearTheSame_25 hl (k := 3) rfl (by rw [ex3]; rfl) (by decide) rfl (fun ls hl => ?_)
      refine lv_goto (tgt := 2) hx hb dX3_wearTheSame_28 (by decide) ?_
      exact hw H locs ls  hM hS (lv_sub hl [1, 2, 3, 0] rfl)
    · have hw := hw.2 cq
      refine lv_iconst (v := 0) hx hb dX3_wearTheSame_23 (by decide) ?_
      exact m_retz hx hb hr hlk (Or.inl rfl) hM hS ⟨false, rfl, rfl, hw⟩ dX3_wearTheSame_24
def w_X3_wearTheSame (I : mI) (o : Nat) (a1 : Int32) (a2 : Int32) (post : Bool → Prop) : Prop := (w_X3_wearTheSame_2 I o a1 a2 post) 0
set_option maxRecDepth 100000 in
set_option maxHeartbeats 4000000 in
theorem c_X3_wearTheSame {l : Launch} {D : va_G} {cA : Nat → ClassId} {Z : mZ} {bs : Ad} {n : Nat} {K : mK} {R : mR} {I : mI} {L : mL} {o : Nat} {a1 : Int32} {a2 : Int32} {post : Bool → Prop} (ho : isX3 K R o) (hw : w_X3_wearTheSame I o a1 a2 post) : Met l yX3_wearTheSame (.code yX3_wearTheSame cX3_wearTheSame 4 (some .boolean) :: gw) ({ frames := 1, cells := 0, slots := 0, locals := 25 } : Room) (PreM D cA Z bs (n, K, R, I, L) [.ref (ad bs o), .int a1, .int a2]) (QI D cA bs (fun r u => ∃ b, r = bI b ∧ u = (n, K, R, I, L) ∧ post b)) 0 0 (Ab bs) := by
  refine m_met (by decide) (Nat.le_of_ble_eq_true rfl) (fun p e s m below meth c ls E hr hlk hM hS hl => ?_)
  have E : Ev p s m _ c cX3_wearTheSame 4 RX3 D cA Z bs := E
  have hl : lv_has ls 4 [(0, .ref (ad bs o)), (1, .int a1), (2, .int a2)] := hl
  have hx := E.1.1
  have hb := E.1.2.1
  generalize hHe : s.heap = H at hM ⊢
  have hS : va_S (Ab bs) s.heap H [] := by rw [← hHe]; exact va_S.rf
  clear hHe
  refine lv_iconst (v := 0) hx hb dX3_wearTheSame_0 (by decide) ?_
  refine lv_istore_n (lv' := [(3, .int 0), (0, .ref (ad bs o)), (1, .int a1), (2, .int a2)]) hx hb dX3_wearTheSame_1 rfl hl (by decide) rfl (fun ls hl => ?_)
  exact s_X3_wearTheSame_2 E hr hlk ho  hw hM hS (lv_sub hl [1, 2, 3, 0] rfl)
theorem dX3_copies_0 : decode cX3_copies 0 = .ok (.iconst 0, 1) := by decide +kernel
theorem dX3_copies_1 : decode cX3_copies 1 = .ok (.istore_n 1, 1) := by decide +kernel
theorem dX3_copies_2 : decode cX3_copies 2 = .ok (.iconst 0, 1) := by decide +kernel
theorem dX3_copies_3 : decode cX3_copies 3 = .ok (.istore_n 2, 1) := by decide +kernel
theorem dX3_copies_4 : decode cX3_copies 4 = .ok (.iload_n 2, 1) := by decide +kernel
theorem dX3_copies_5 : decode cX3_copies 5 = .ok (.aload_n 0, 1) := by decide +kernel
theorem dX3_copies_6 : decode cX3_copies 6 = .ok (.getfield 61, 3) := by decide +kernel
theorem dX3_copies_9 : decode cX3_copies 9 = .ok (.if_icmp .ge 54, 3) := by decide +kernel
theorem dX3_copies_12 : decode cX3_copies 12 = .ok (.iload_n 2, 1) := by decide +kernel
theorem dX3_copies_13 : decode cX3_copies 13 = .ok (.iconst 1, 1) := by decide +kernel
theorem dX3_copies_14 : decode cX3_copies 14 = .ok (.iadd, 1) := by decide +kernel
theorem dX3_copies_15 : decode cX3_copies 15 = .ok (.istore_n 3, 1) := by decide +kernel
theorem dX3_copies_16 : decode cX3_copies 16 = .ok (.iload_n 3, 1) := by decide +kernel
theorem dX3_copies_17 : decode cX3_copies 17 = .ok (.aload_n 0, 1) := by decide +kernel
theorem dX3_copies_18 : decode cX3_copies 18 = .ok (.getfield 61, 3) := by decide +kernel
theorem dX3_copies_21 : decode cX3_copies 21 = .ok (.if_icmp .ge 36, 3) := by decide +kernel
theorem dX3_copies_24 : decode cX3_copies 24 = .ok (.aload_n 0, 1) := by decide +kernel
theorem dX3_copies_25 : decode cX3_copies 25 = .ok (.getfield 24, 3) := by decide +kernel
theorem dX3_copies_28 : decode cX3_copies 28 = .ok (.iload_n 2, 1) := by decide +kernel
theorem dX3_copies_29 : decode cX3_copies 29 = .ok (.iaload, 1) := by decide +kernel
theorem dX3_copies_30 : decode cX3_copies 30 = .ok (.aload_n 0, 1) := by decide +kernel
theorem dX3_copies_31 : decode cX3_copies 31 = .ok (.getfield 24, 3) := by decide +kernel
theorem dX3_copies_34 : decode cX3_copies 34 = .ok (.iload_n 3, 1) := by decide +kernel
theorem dX3_copies_35 : decode cX3_copies 35 = .ok (.iaload, 1) := by decide +kernel
theorem dX3_copies_36 : decode cX3_copies 36 = .ok (.if_icmp .ne 15, 3) := by decide +kernel
theorem dX3_copies_39 : decode cX3_copies 39 = .ok (.aload_n 0, 1) := by decide +kernel
theorem dX3_copies_40 : decode cX3_copies 40 = .ok (.iload_n 2, 1) := by decide +kernel
theorem dX3_copies_41 : decode cX3_copies 41 = .ok (.iload_n 3, 1) := by decide +kernel
theorem dX3_copies_42 : decode cX3_copies 42 = .ok (.invokevirtual 95, 3) := by decide +kernel
theorem dX3_copies_45 : decode cX3_copies 45 = .ok (.ifCond .eq 6, 3) := by decide +kernel
theorem dX3_copies_48 : decode cX3_copies 48 = .ok (.iinc 1 1, 3) := by decide +kernel
theorem dX3_copies_51 : decode cX3_copies 51 = .ok (.iinc 3 1, 3) := by decide +kernel
theorem dX3_copies_54 : decode cX3_copies 54 = .ok (.goto (-38), 3) := by decide +kernel
theorem dX3_copies_57 : decode cX3_copies 57 = .ok (.iinc 2 1, 3) := by decide +kernel
theorem dX3_copies_60 : decode cX3_copies 60 = .ok (.goto (-56), 3) := by decide +kernel
theorem dX3_copies_63 : decode cX3_copies 63 = .ok (.iload_n 1, 1) := by decide +kernel
theorem dX3_copies_64 : decode cX3_copies 64 = .ok (.ireturn, 1) := by decide +kernel
def w_X3_copies_16 (I : mI) (o : Nat) (post : Int32 → Prop) (k4 : Int32 → Int32 → Prop) (v1 : Int32) (v2 : Int32) (v3 : Int32) : Prop := ∀ ZZ : (Int32 → Int32 → Int32 → Prop), (∀ (v1 : Int32) (v2 : Int32) (v3 : Int32), (((I o 3) ≤ v3 → ∀ x2, x2 = v2 + 1 → k4 v1 x2) ∧ (¬ (I o 3) ≤ v3 → vp_in v2 6 ∧ vp_in v3 6 ∧ (¬ (I (o + 5) v2.toNatClampNeg) = (I (o + 5) v3.toNatClampNeg) → ∀ x3, x3 = v3 + 1 → ZZ v1 v2 x3) ∧ ((I (o + 5) v2.toNatClampNeg) = (I (o + 5) v3.toNatClampNeg) → w_X3_wearTheSame I o v2 v3 (fun b4 => (b4 = false → ∀ x5, x5 = v3 + 1 → ZZ v1 v2 x5) ∧ (b4 = true → ∀ x6, x6 = v1 + 1 → ∀ x7, x7 = v3 + 1 → ZZ x6 v2 x7))))) → ZZ v1 v2 v3) → ZZ v1 v2 v3
set_option maxRecDepth 100000 in
set_option maxHeartbeats 4000000 in
theorem s_X3_copies_16 {p : Program} {l : Launch} {e : Env} {s : State} {m : MethodId} {args : Array Value} {below : List Frame} {meth : Method} {c : Code} {D : va_G} {cA : Nat → ClassId} {Z : mZ} {bs : Ad} {n : Nat} {K : mK} {R : mR} {I : mI} {L : mL} (E : Ev p s m args c cX3_copies 4 RX3 D cA Z bs) (hr : meth.sig.returnType = (some .int)) (hlk : meth.locks = false) {o : Nat} (ho : isX3 K R o) {post : Int32 → Prop} {k4 : Int32 → Int32 → Prop} (hk4 : ∀ (v1 : Int32) (v2 : Int32) (H : Heap) (locs : List Loc) (ls : Array Slot), k4 v1 v2 → mm D cA bs (n, K, R, I, L) H → va_S (Ab bs) s.heap H locs → lv_has ls 4 [(0, .ref (ad bs o)), (1, .int v1), (2, .int v2)] → W p l e ({ frames := 2, cells := 0, slots := 0, locals := 48 } : Room) s m args below meth c H locs 0 0 (MQ below (QI D cA bs (fun r u => u = (n, K, R, I, L) ∧ post r)) args s 0 0 (Ab bs)) (F0 m 4 ls [])) {v1 : Int32} {v2 : Int32} {v3 : Int32} {H : Heap} {locs : List Loc} {ls : Array Slot} (hw : w_X3_copies_16 I o post k4 v1 v2 v3) (hM : mm D cA bs (n, K, R, I, L) H) (hS : va_S (Ab bs) s.heap H locs) (hl : lv_has ls 4 [(0, .ref (ad bs o)), (1, .int v1), (2, .int v2), (3, .int v3)]) : W p l e ({ frames := 2, cells := 0, slots := 0, locals := 48 } : Room) s m args below meth c H locs 0 0 (MQ below (QI D cA bs (fun r u => u = (n, K, R, I, L) ∧ post r)) args s 0 0 (Ab bs)) (F0 m 16 ls []) := by
  have hx := E.1.1
  have hb := E.1.2.1
  refine hw (fun v1 v2 v3 => ∀ (H : Heap) (locs : List Loc) (ls : Array Slot), mm D cA bs (n, K, R, I, L) H → va_S (Ab bs) s.heap H locs → lv_has ls 4 [(0, .ref (ad bs o)), (1, .int v1), (2, .int v2), (3, .int v3)] → W p l e ({ frames := 2, cells := 0, slots := 0, locals := 48 } : Room) s m args below meth c H locs 0 0 (MQ below (QI D cA bs (fun r u => u = (n, K, R, I, L) ∧ post r)) args s 0 0 (Ab bs)) (F0 m 16 ls [])) ?_ H locs ls hM hS hl
  clear hw hM hS hl
  intro v1 v2 v3 hw H locs ls hM hS hl
  refine lv_iload_n hx hb dX3_copies_16 rfl (lv_at hl 3 rfl) ?_
  refine lv_aload_n hx hb dX3_copies_17 rfl (lv_at hl 0 rfl) ?_
  refine m_geti E hM fs_X3_61 ho.1 dX3_copies_18 ?_
  refine lv_icmp_ge (tgt := 57) hx hb dX3_copies_21 (by decide) (fun cq => ?_) (fun cq => ?_)
  · have hw := hw.1 cq
    obtain ⟨x2, ex2⟩ : ∃ y : Int32, y = v2 + 1 := ⟨_, rfl⟩
    have hw := hw x2 ex2
    refine lv_iinc (v := x2) (lv' := [(2, .int x2), (0, .ref (ad bs o)), (1, .int v1), (3, .int v3)]) hx hb dX3_copies_57 hl (k := 2) rfl (by rw [ex2]; rfl) (by decide) rfl (fun ls hl => ?_)
    refine lv_goto (tgt := 4) hx hb dX3_copies_60 (by decide) ?_
    exact hk4 _ _ H locs ls  hw hM hS (lv_sub hl [1, 2, 0] rfl)
  · have hw := hw.2 cq
    refine lv_aload_n hx hb dX3_copies_24 rfl (lv_at hl 0 rfl) ?_
    refine m_getr E hM fs_X3_24 ho.1 (isO_at ho 4 rfl).1 dX3_copies_25 ?_
    refine lv_iload_n hx hb dX3_copies_28 rfl (lv_at hl 2 rfl) ?_
    obtain ⟨hv, hw⟩ := hw
    refine m_iald E hM (isO_at ho 4 rfl).2 hv dX3_copies_29 ?_
    refine lv_aload_n hx hb dX3_copies_30 rfl (lv_at hl 0 rfl) ?_
    refine m_getr E hM fs_X3_24 ho.1 (isO_at ho 4 rfl).1 dX3_copies_31 ?_
    refine lv_iload_n hx hb dX3_copies_34 rfl (lv_at hl 3 rfl) ?_
    obtain ⟨hv, hw⟩ := hw
    refine m_iald E hM (isO_at ho 4 rfl).2 hv dX3_copies_35 ?_
    refine lv_icmp_ne (tgt := 51) hx hb dX3_copies_36 (by decide) (fun cq => ?_) (fun cq => ?_)
    · have hw := hw.1 cq
      obtain ⟨x3, ex3⟩ : ∃ y : Int32, y = v3 + 1 := ⟨_, rfl⟩
      have hw := hw x3 ex3
      refine lv_iinc (v := x3) (lv' := [(3, .int x3), (0, .ref (ad bs o)), (1, .int v1), (2, .int v2)]) hx hb dX3_copies_51 hl (k := 3) rfl (by rw [ex3]; rfl) (by decide) rfl (fun ls hl => ?_)
      refine lv_goto (tgt := 16) hx hb dX3_copies_54 (by decide) ?_
      exact hw H locs ls  hM hS (lv_sub hl [1, 2, 3, 0] rfl)
    · have hw := hw.2 cq
      refine lv_aload_n hx hb dX3_copies_39 rfl (lv_at hl 0 rfl) ?_
      refine lv_iload_n hx hb dX3_copies_40 rfl (lv_at hl 2 rfl) ?_
      refine lv_iload_n hx hb dX3_copies_41 rfl (lv_at hl 3 rfl) ?_
      refine m_ci (m_runV E hM hS cs_X3_95 ho.1 (by decide) rfl rfl (c_X3_wearTheSame ho hw) rfl rfl ⟨Nat.le_of_ble_eq_true rfl, Nat.le_of_ble_eq_true rfl⟩ rfl hl.1 rfl (Nat.le_of_ble_eq_true rfl) dX3_copies_42 ⟨Nat.le_of_ble_eq_true rfl, Nat.le_of_ble_eq_true rfl⟩) hS (fun r9 u H locs hp hM hS => ?_)
      obtain ⟨b4, rfl, rfl, hw⟩ := hp
      refine lv_if_eq (tgt := 51) hx hb dX3_copies_45 (by decide) (fun cq => ?_) (fun cq => ?_)
      · have hw := hw.1 (bI_f cq)
        obtain ⟨x5, ex5⟩ : ∃ y : Int32, y = v3 + 1 := ⟨_, rfl⟩
        have hw := hw x5 ex5
        refine lv_iinc (v := x5) (lv' := [(3, .int x5), (0, .ref (ad bs o)), (1, .int v1), (2, .int v2)]) hx hb dX3_copies_51 hl (k := 3) rfl (by rw [ex5]; rfl) (by decide) rfl (fun ls hl => ?_)
        refine lv_goto (tgt := 16) hx hb dX3_copies_54 (by decide) ?_
        exact hw H locs ls  hM hS (lv_sub hl [1, 2, 3, 0] rfl)
      · have hw := hw.2 (bI_t cq)
        obtain ⟨x6, ex6⟩ : ∃ y : Int32, y = v1 + 1 := ⟨_, rfl⟩
        have hw := hw x6 ex6
        refine lv_iinc (v := x6) (lv' := [(1, .int x6), (0, .ref (ad bs o)), (2, .int v2), (3, .int v3)]) hx hb dX3_copies_48 hl (k := 1) rfl (by rw [ex6]; rfl) (by decide) rfl (fun ls hl => ?_)
        obtain ⟨x7, ex7⟩ : ∃ y : Int32, y = v3 + 1 := ⟨_, rfl⟩
        have hw := hw x7 ex7
        refine lv_iinc (v := x7) (lv' := [(3, .int x7), (1, .int x6), (0, .ref (ad bs o)), (2, .int v2)]) hx hb dX3_copies_51 hl (k := 3) rfl (by rw [ex7]; rfl) (by decide) rfl (fun ls hl => ?_)
        refine lv_goto (tgt := 16) hx hb dX3_copies_54 (by decide) ?_
        exact hw H locs ls  hM hS (lv_sub hl [2, 1, 3, 0] rfl)
def w_X3_copies_4 (I : mI) (o : Nat) (post : Int32 → Prop) (v1 : Int32) (v2 : Int32) : Prop := ∀ ZZ : (Int32 → Int32 → Prop), (∀ (v1 : Int32) (v2 : Int32), (((I o 3) ≤ v2 → post v1) ∧ (¬ (I o 3) ≤ v2 → ∀ x1, x1 = (v2 + 1) → (w_X3_copies_16 I o post ZZ) v1 v2 x1)) → ZZ v1 v2) → ZZ v1 v2
set_option maxRecDepth 100000 in
set_option maxHeartbeats 4000000 in
theorem s_X3_copies_4 {p : Program} {l : Launch} {e : Env} {s : State} {m : MethodId} {args : Array Value} {below : List Frame} {meth : Method} {c : Code} {D : va_G} {cA : Nat → ClassId} {Z : mZ} {bs : Ad} {n : Nat} {K : mK} {R : mR} {I : mI} {L : mL} (E : Ev p s m args c cX3_copies 4 RX3 D cA Z bs) (hr : meth.sig.returnType = (some .int)) (hlk : meth.locks = false) {o : Nat} (ho : isX3 K R o) {post : Int32 → Prop} {v1 : Int32} {v2 : Int32} {H : Heap} {locs : List Loc} {ls : Array Slot} (hw : w_X3_copies_4 I o post v1 v2) (hM : mm D cA bs (n, K, R, I, L) H) (hS : va_S (Ab bs) s.heap H locs) (hl : lv_has ls 4 [(0, .ref (ad bs o)), (1, .int v1), (2, .int v2)]) : W p l e ({ frames := 2, cells := 0, slots := 0, locals := 48 } : Room) s m args below meth c H locs 0 0 (MQ below (QI D cA bs (fun r u => u = (n, K, R, I, L) ∧ post r)) args s 0 0 (Ab bs)) (F0 m 4 ls []) := by
  have hx := E.1.1
  have hb := E.1.2.1
  refine hw (fun v1 v2 => ∀ (H : Heap) (locs : List Loc) (ls : Array Slot), mm D cA bs (n, K, R, I, L) H → va_S (Ab bs) s.heap H locs → lv_has ls 4 [(0, .ref (ad bs o)), (1, .int v1), (2, .int v2)] → W p l e ({ frames := 2, cells := 0, slots := 0, locals := 48 } : Room) s m args below meth c H locs 0 0 (MQ below (QI D cA bs (fun r u => u = (n, K, R, I, L) ∧ post r)) args s 0 0 (Ab bs)) (F0 m 4 ls [])) ?_ H locs ls hM hS hl
  clear hw hM hS hl
  intro v1 v2 hw H locs ls hM hS hl
  refine lv_iload_n hx hb dX3_copies_4 rfl (lv_at hl 2 rfl) ?_
  refine lv_aload_n hx hb dX3_copies_5 rfl (lv_at hl 0 rfl) ?_
  refine m_geti E hM fs_X3_61 ho.1 dX3_copies_6 ?_
  refine lv_icmp_ge (tgt := 63) hx hb dX3_copies_9 (by decide) (fun cq => ?_) (fun cq => ?_)
  · have hw := hw.1 cq
    refine lv_iload_n hx hb dX3_copies_63 rfl (lv_at hl 1 rfl) ?_
    exact m_reti hx hb hr hlk hM hS ⟨rfl, hw⟩ dX3_copies_64
  · have hw := hw.2 cq
    refine lv_iload_n hx hb dX3_copies_12 rfl (lv_at hl 2 rfl) ?_
    refine lv_iconst (v := 1) hx hb dX3_copies_13 (by decide) ?_
    refine lv_iadd hx hb dX3_copies_14 ?_
    refine lv_topi (fun x1 ex1 => ?_)
    have hw := hw x1 ex1
    refine lv_istore_n (lv' := [(3, .int x1), (0, .ref (ad bs o)), (1, .int v1), (2, .int v2)]) hx hb dX3_copies_15 rfl hl (by decide) rfl (fun ls hl => ?_)
    exact s_X3_copies_16 E hr hlk ho (fun v1 v2 H locs ls  hw hM hS hl => hw H locs ls  hM hS hl)  hw hM hS (lv_sub hl [1, 2, 3, 0] rfl)
def w_X3_copies (I : mI) (o : Nat) (post : Int32 → Prop) : Prop := (w_X3_copies_4 I o post) 0 0
set_option maxRecDepth 100000 in
set_option maxHeartbeats 4000000 in
theorem c_X3_copies {l : Launch} {D : va_G} {cA : Nat → ClassId} {Z : mZ} {bs : Ad} {n : Nat} {K : mK} {R : mR} {I : mI} {L : mL} {o : Nat} {post : Int32 → Prop} (ho : isX3 K R o) (hw : w_X3_copies I o post) : Met l yX3_copies (.code yX3_copies cX3_copies 4 (some .int) :: gw) ({ frames := 2, cells := 0, slots := 0, locals := 48 } : Room) (PreM D cA Z bs (n, K, R, I, L) [.ref (ad bs o)]) (QI D cA bs (fun r u => u = (n, K, R, I, L) ∧ post r)) 0 0 (Ab bs) := by
  refine m_met (by decide) (Nat.le_of_ble_eq_true rfl) (fun p e s m below meth c ls E hr hlk hM hS hl => ?_)
  have E : Ev p s m _ c cX3_copies 4 RX3 D cA Z bs := E
  have hl : lv_has ls 4 [(0, .ref (ad bs o))] := hl
  have hx := E.1.1
  have hb := E.1.2.1
  generalize hHe : s.heap = H at hM ⊢
  have hS : va_S (Ab bs) s.heap H [] := by rw [← hHe]; exact va_S.rf
  clear hHe
  refine lv_iconst (v := 0) hx hb dX3_copies_0 (by decide) ?_
  refine lv_istore_n (lv' := [(1, .int 0), (0, .ref (ad bs o))]) hx hb dX3_copies_1 rfl hl (by decide) rfl (fun ls hl => ?_)
  refine lv_iconst (v := 0) hx hb dX3_copies_2 (by decide) ?_
  refine lv_istore_n (lv' := [(2, .int 0), (1, .int 0), (0, .ref (ad bs o))]) hx hb dX3_copies_3 rfl hl (by decide) rfl (fun ls hl => ?_)
  exact s_X3_copies_4 E hr hlk ho  hw hM hS (lv_sub hl [2, 1, 0] rfl)
theorem dX4_isAhead_0 : decode cX4_isAhead 0 = .ok (.aload_n 0, 1) := by decide +kernel
theorem dX4_isAhead_1 : decode cX4_isAhead 1 = .ok (.getfield 65, 3) := by decide +kernel
theorem dX4_isAhead_4 : decode cX4_isAhead 4 = .ok (.iload_n 1, 1) := by decide +kernel
theorem dX4_isAhead_5 : decode cX4_isAhead 5 = .ok (.iaload, 1) := by decide +kernel
theorem dX4_isAhead_6 : decode cX4_isAhead 6 = .ok (.iload_n 3, 1) := by decide +kernel
theorem dX4_isAhead_7 : decode cX4_isAhead 7 = .ok (.if_icmp .lt 23, 3) := by decide +kernel
theorem dX4_isAhead_10 : decode cX4_isAhead 10 = .ok (.aload_n 0, 1) := by decide +kernel
theorem dX4_isAhead_11 : decode cX4_isAhead 11 = .ok (.getfield 65, 3) := by decide +kernel
theorem dX4_isAhead_14 : decode cX4_isAhead 14 = .ok (.iload_n 1, 1) := by decide +kernel
theorem dX4_isAhead_15 : decode cX4_isAhead 15 = .ok (.iaload, 1) := by decide +kernel
theorem dX4_isAhead_16 : decode cX4_isAhead 16 = .ok (.iload_n 3, 1) := by decide +kernel
theorem dX4_isAhead_17 : decode cX4_isAhead 17 = .ok (.if_icmp .ne 17, 3) := by decide +kernel
theorem dX4_isAhead_20 : decode cX4_isAhead 20 = .ok (.aload_n 0, 1) := by decide +kernel
theorem dX4_isAhead_21 : decode cX4_isAhead 21 = .ok (.getfield 49, 3) := by decide +kernel
theorem dX4_isAhead_24 : decode cX4_isAhead 24 = .ok (.iload_n 1, 1) := by decide +kernel
theorem dX4_isAhead_25 : decode cX4_isAhead 25 = .ok (.iaload, 1) := by decide +kernel
theorem dX4_isAhead_26 : decode cX4_isAhead 26 = .ok (.iload_n 2, 1) := by decide +kernel
theorem dX4_isAhead_27 : decode cX4_isAhead 27 = .ok (.if_icmp .ge 7, 3) := by decide +kernel
theorem dX4_isAhead_30 : decode cX4_isAhead 30 = .ok (.iconst 1, 1) := by decide +kernel
theorem dX4_isAhead_31 : decode cX4_isAhead 31 = .ok (.goto 4, 3) := by decide +kernel
theorem dX4_isAhead_34 : decode cX4_isAhead 34 = .ok (.iconst 0, 1) := by decide +kernel
theorem dX4_isAhead_35 : decode cX4_isAhead 35 = .ok (.ireturn, 1) := by decide +kernel
def w_X4_isAhead (I : mI) (a1 : Nat) (a1h : Nat) (a2 : Int32) (a3 : Int32) (a4 : Int32) (post : Bool → Prop) : Prop := vp_in a2 600 ∧ ((I (a1 + 3) a2.toNatClampNeg) < a4 → post true) ∧ (¬ (I (a1 + 3) a2.toNatClampNeg) < a4 → vp_in a2 600 ∧ (¬ (I (a1 + 3) a2.toNatClampNeg) = a4 → post false) ∧ ((I (a1 + 3) a2.toNatClampNeg) = a4 → vp_in a2 600 ∧ (a3 ≤ (I (a1 + 1) a2.toNatClampNeg) → post false) ∧ (¬ a3 ≤ (I (a1 + 1) a2.toNatClampNeg) → post true)))
set_option maxRecDepth 100000 in
set_option maxHeartbeats 4000000 in
theorem c_X4_isAhead {l : Launch} {D : va_G} {cA : Nat → ClassId} {Z : mZ} {bs : Ad} {n : Nat} {K : mK} {R : mR} {I : mI} {L : mL} {a1 : Nat} {a1h : Nat} {a2 : Int32} {a3 : Int32} {a4 : Int32} {post : Bool → Prop} (ha1 : isX2 K R a1 a1h) (hw : w_X4_isAhead I a1 a1h a2 a3 a4 post) : Met l yX4_isAhead (.code yX4_isAhead cX4_isAhead 4 (some .boolean) :: gw) ({ frames := 0, cells := 0, slots := 0, locals := 0 } : Room) (PreM D cA Z bs (n, K, R, I, L) [.ref (ad bs a1), .int a2, .int a3, .int a4]) (QI D cA bs (fun r u => ∃ b, r = bI b ∧ u = (n, K, R, I, L) ∧ post b)) 0 0 (Ab bs) := by
  refine m_met (by decide) (Nat.le_of_ble_eq_true rfl) (fun p e s m below meth c ls E hr hlk hM hS hl => ?_)
  have E : Ev p s m _ c cX4_isAhead 4 RX4 D cA Z bs := E
  have hl : lv_has ls 4 [(0, .ref (ad bs a1)), (1, .int a2), (2, .int a3), (3, .int a4)] := hl
  have hx := E.1.1
  have hb := E.1.2.1
  generalize hHe : s.heap = H at hM ⊢
  have hS : va_S (Ab bs) s.heap H [] := by rw [← hHe]; exact va_S.rf
  clear hHe
  refine lv_aload_n hx hb dX4_isAhead_0 rfl (lv_at hl 0 rfl) ?_
  refine m_getr E hM fs_X4_65 ha1.1.1 (isO_at ha1.1 2 rfl).1 dX4_isAhead_1 ?_
  refine lv_iload_n hx hb dX4_isAhead_4 rfl (lv_at hl 1 rfl) ?_
  obtain ⟨hv, hw⟩ := hw
  refine m_iald E hM (isO_at ha1.1 2 rfl).2 hv dX4_isAhead_5 ?_
  refine lv_iload_n hx hb dX4_isAhead_6 rfl (lv_at hl 3 rfl) ?_
  refine lv_icmp_lt (tgt := 30) hx hb dX4_isAhead_7 (by decide) (fun cq => ?_) (fun cq => ?_)
  · have hw := hw.1 cq
    refine lv_iconst (v := 1) hx hb dX4_isAhead_30 (by decide) ?_
    refine lv_goto (tgt := 35) hx hb dX4_isAhead_31 (by decide) ?_
    exact m_retz hx hb hr hlk (Or.inr rfl) hM hS ⟨true, rfl, rfl, hw⟩ dX4_isAhead_35
  · have hw := hw.2 cq
    refine lv_aload_n hx hb dX4_isAhead_10 rfl (lv_at hl 0 rfl) ?_
    refine m_getr E hM fs_X4_65 ha1.1.1 (isO_at ha1.1 2 rfl).1 dX4_isAhead_11 ?_
    refine lv_iload_n hx hb dX4_isAhead_14 rfl (lv_at hl 1 rfl) ?_
    obtain ⟨hv, hw⟩ := hw
    refine m_iald E hM (isO_at ha1.1 2 rfl).2 hv dX4_isAhead_15 ?_
    refine lv_iload_n hx hb dX4_isAhead_16 rfl (lv_at hl 3 rfl) ?_
    refine lv_icmp_ne (tgt := 34) hx hb dX4_isAhead_17 (by decide) (fun cq => ?_) (fun cq => ?_)
    · have hw := hw.1 cq
      refine lv_iconst (v := 0) hx hb dX4_isAhead_34 (by decide) ?_
      exact m_retz hx hb hr hlk (Or.inl rfl) hM hS ⟨false, rfl, rfl, hw⟩ dX4_isAhead_35
    · have hw := hw.2 cq
      refine lv_aload_n hx hb dX4_isAhead_20 rfl (lv_at hl 0 rfl) ?_
      refine m_getr E hM fs_X4_49 ha1.1.1 (isO_at ha1.1 0 rfl).1 dX4_isAhead_21 ?_
      refine lv_iload_n hx hb dX4_isAhead_24 rfl (lv_at hl 1 rfl) ?_
      obtain ⟨hv, hw⟩ := hw
      refine m_iald E hM (isO_at ha1.1 0 rfl).2 hv dX4_isAhead_25 ?_
      refine lv_iload_n hx hb dX4_isAhead_26 rfl (lv_at hl 2 rfl) ?_
      refine lv_icmp_ge (tgt := 34) hx hb dX4_isAhead_27 (by decide) (fun cq => ?_) (fun cq => ?_)
      · have hw := hw.1 cq
        refine lv_iconst (v := 0) hx hb dX4_isAhead_34 (by decide) ?_
        exact m_retz hx hb hr hlk (Or.inl rfl) hM hS ⟨false, rfl, rfl, hw⟩ dX4_isAhead_35
      · have hw := hw.2 cq
        refine lv_iconst (v := 1) hx hb dX4_isAhead_30 (by decide) ?_
        refine lv_goto (tgt := 35) hx hb dX4_isAhead_31 (by decide) ?_
        exact m_retz hx hb hr hlk (Or.inr rfl) hM hS ⟨true, rfl, rfl, hw⟩ dX4_isAhead_35
theorem dX4_markTrodden_0 : decode cX4_markTrodden 0 = .ok (.iconst 0, 1) := by decide +kernel
theorem dX4_markTrodden_1 : decode cX4_markTrodden 1 = .ok (.istore_n 3, 1) := by decide +kernel
theorem dX4_markTrodden_2 : decode cX4_markTrodden 2 = .ok (.iload_n 3, 1) := by decide +kernel
theorem dX4_markTrodden_3 : decode cX4_markTrodden 3 = .ok (.aload_n 1, 1) := by decide +kernel
theorem dX4_markTrodden_4 : decode cX4_markTrodden 4 = .ok (.getfield 40, 3) := by decide +kernel
theorem dX4_markTrodden_7 : decode cX4_markTrodden 7 = .ok (.if_icmp .ge 64, 3) := by decide +kernel
theorem dX4_markTrodden_10 : decode cX4_markTrodden 10 = .ok (.aload_n 1, 1) := by decide +kernel
theorem dX4_markTrodden_11 : decode cX4_markTrodden 11 = .ok (.getfield 65, 3) := by decide +kernel
theorem dX4_markTrodden_14 : decode cX4_markTrodden 14 = .ok (.iload_n 3, 1) := by decide +kernel
theorem dX4_markTrodden_15 : decode cX4_markTrodden 15 = .ok (.iaload, 1) := by decide +kernel
theorem dX4_markTrodden_16 : decode cX4_markTrodden 16 = .ok (.aload_n 0, 1) := by decide +kernel
theorem dX4_markTrodden_17 : decode cX4_markTrodden 17 = .ok (.getfield 21, 3) := by decide +kernel
theorem dX4_markTrodden_20 : decode cX4_markTrodden 20 = .ok (.isub, 1) := by decide +kernel
theorem dX4_markTrodden_21 : decode cX4_markTrodden 21 = .ok (.istore 4, 2) := by decide +kernel
theorem dX4_markTrodden_23 : decode cX4_markTrodden 23 = .ok (.aload_n 1, 1) := by decide +kernel
theorem dX4_markTrodden_24 : decode cX4_markTrodden 24 = .ok (.getfield 49, 3) := by decide +kernel
theorem dX4_markTrodden_27 : decode cX4_markTrodden 27 = .ok (.iload_n 3, 1) := by decide +kernel
theorem dX4_markTrodden_28 : decode cX4_markTrodden 28 = .ok (.iaload, 1) := by decide +kernel
theorem dX4_markTrodden_29 : decode cX4_markTrodden 29 = .ok (.iload_n 2, 1) := by decide +kernel
theorem dX4_markTrodden_30 : decode cX4_markTrodden 30 = .ok (.if_icmp .eq 35, 3) := by decide +kernel
theorem dX4_markTrodden_33 : decode cX4_markTrodden 33 = .ok (.iload 4, 2) := by decide +kernel
theorem dX4_markTrodden_35 : decode cX4_markTrodden 35 = .ok (.ifCond .lt 30, 3) := by decide +kernel
theorem dX4_markTrodden_38 : decode cX4_markTrodden 38 = .ok (.iload 4, 2) := by decide +kernel
theorem dX4_markTrodden_40 : decode cX4_markTrodden 40 = .ok (.aload_n 0, 1) := by decide +kernel
theorem dX4_markTrodden_41 : decode cX4_markTrodden 41 = .ok (.getfield 31, 3) := by decide +kernel
theorem dX4_markTrodden_44 : decode cX4_markTrodden 44 = .ok (.if_icmp .ge 21, 3) := by decide +kernel
theorem dX4_markTrodden_47 : decode cX4_markTrodden 47 = .ok (.aload_n 0, 1) := by decide +kernel
theorem dX4_markTrodden_48 : decode cX4_markTrodden 48 = .ok (.getfield 15, 3) := by decide +kernel
theorem dX4_markTrodden_51 : decode cX4_markTrodden 51 = .ok (.iload 4, 2) := by decide +kernel
theorem dX4_markTrodden_53 : decode cX4_markTrodden 53 = .ok (.dup2, 1) := by decide +kernel
theorem dX4_markTrodden_54 : decode cX4_markTrodden 54 = .ok (.iaload, 1) := by decide +kernel
theorem dX4_markTrodden_55 : decode cX4_markTrodden 55 = .ok (.iconst 1, 1) := by decide +kernel
theorem dX4_markTrodden_56 : decode cX4_markTrodden 56 = .ok (.aload_n 1, 1) := by decide +kernel
theorem dX4_markTrodden_57 : decode cX4_markTrodden 57 = .ok (.getfield 52, 3) := by decide +kernel
theorem dX4_markTrodden_60 : decode cX4_markTrodden 60 = .ok (.iload_n 3, 1) := by decide +kernel
theorem dX4_markTrodden_61 : decode cX4_markTrodden 61 = .ok (.iaload, 1) := by decide +kernel
theorem dX4_markTrodden_62 : decode cX4_markTrodden 62 = .ok (.ishl, 1) := by decide +kernel
theorem dX4_markTrodden_63 : decode cX4_markTrodden 63 = .ok (.ior, 1) := by decide +kernel
theorem dX4_markTrodden_64 : decode cX4_markTrodden 64 = .ok (.iastore, 1) := by decide +kernel
theorem dX4_markTrodden_65 : decode cX4_markTrodden 65 = .ok (.iinc 3 1, 3) := by decide +kernel
theorem dX4_markTrodden_68 : decode cX4_markTrodden 68 = .ok (.goto (-66), 3) := by decide +kernel
theorem dX4_markTrodden_71 : decode cX4_markTrodden 71 = .ok (.return_, 1) := by decide +kernel
def w_X4_markTrodden_2 (o : Nat) (a1 : Nat) (a1h : Nat) (a2 : Int32) (post : mI → Prop) (I : mI) (v3 : Int32) : Prop := ∀ ZZ : (mI → Int32 → Prop), (∀ (I : mI) (v3 : Int32), (((I a1 2) ≤ v3 → post I) ∧ (¬ (I a1 2) ≤ v3 → vp_in v3 600 ∧ ∀ x1, x1 = ((I (a1 + 3) v3.toNatClampNeg) - (I o 0)) → vp_in v3 600 ∧ ((I (a1 + 1) v3.toNatClampNeg) = a2 → ∀ x2, x2 = v3 + 1 → ZZ I x2) ∧ (¬ (I (a1 + 1) v3.toNatClampNeg) = a2 → (x1 < 0 → ∀ x3, x3 = v3 + 1 → ZZ I x3) ∧ (¬ x1 < 0 → ((I o 1) ≤ x1 → ∀ x4, x4 = v3 + 1 → ZZ I x4) ∧ (¬ (I o 1) ≤ x1 → vp_in x1 100 ∧ vp_in v3 600 ∧ vp_in x1 100 ∧ ∀ I5, I5 = up2 I (o + 2) x1.toNatClampNeg ((I (o + 2) x1.toNatClampNeg) ||| (1 <<< ((I (a1 + 2) v3.toNatClampNeg) &&& 31))) → ∀ x6, x6 = v3 + 1 → ZZ I5 x6))))) → ZZ I v3) → ZZ I v3
set_option maxRecDepth 100000 in
set_option maxHeartbeats 4000000 in
theorem s_X4_markTrodden_2 {p : Program} {l : Launch} {e : Env} {s : State} {m : MethodId} {args : Array Value} {below : List Frame} {meth : Method} {c : Code} {D : va_G} {cA : Nat → ClassId} {Z : mZ} {bs : Ad} {n : Nat} {K : mK} {R : mR} {L : mL} (E : Ev p s m args c cX4_markTrodden 5 RX4 D cA Z bs) (hr : meth.sig.returnType = none) (hlk : meth.locks = false) {o : Nat} {a1 : Nat} {a1h : Nat} {a2 : Int32} (ho : isX4 K R o) (ha1 : isX2 K R a1 a1h) {post : mI → Prop} {I : mI} {v3 : Int32} {H : Heap} {locs : List Loc} {ls : Array Slot} (hw : w_X4_markTrodden_2 o a1 a1h a2 post I v3) (hM : mm D cA bs (n, K, R, I, L) H) (hS : va_S (Ab bs) s.heap H locs) (hl : lv_has ls 5 [(0, .ref (ad bs o)), (1, .ref (ad bs a1)), (2, .int a2), (3, .int v3)]) : W p l e ({ frames := 0, cells := 0, slots := 0, locals := 0 } : Room) s m args below meth c H locs 0 0 (MQ below (QV D cA bs (fun u => ∃ I', u = (n, K, R, I', L) ∧ post I')) args s 0 0 (Ab bs)) (F0 m 2 ls []) := by
  have hx := E.1.1
  have hb := E.1.2.1
  refine hw (fun I v3 => ∀ (H : Heap) (locs : List Loc) (ls : Array Slot), mm D cA bs (n, K, R, I, L) H → va_S (Ab bs) s.heap H locs → lv_has ls 5 [(0, .ref (ad bs o)), (1, .ref (ad bs a1)), (2, .int a2), (3, .int v3)] → W p l e ({ frames := 0, cells := 0, slots := 0, locals := 0 } : Room) s m args below meth c H locs 0 0 (MQ below (QV D cA bs (fun u => ∃ I', u = (n, K, R, I', L) ∧ post I')) args s 0 0 (Ab bs)) (F0 m 2 ls [])) ?_ H locs ls hM hS hl
  clear hw hM hS hl
  intro I v3 hw H locs ls hM hS hl
  refine lv_iload_n hx hb dX4_markTrodden_2 rfl (lv_at hl 3 rfl) ?_
  refine lv_aload_n hx hb dX4_markTrodden_3 rfl (lv_at hl 1 rfl) ?_
  refine m_geti E hM fs_X4_40 ha1.1.1 dX4_markTrodden_4 ?_
  refine lv_icmp_ge (tgt := 71) hx hb dX4_markTrodden_7 (by decide) (fun cq => ?_) (fun cq => ?_)
  · have hw := hw.1 cq
    exact m_retv hx hb hr hlk hM hS ⟨_, rfl, hw⟩ dX4_markTrodden_71
  · have hw := hw.2 cq
    refine lv_aload_n hx hb dX4_markTrodden_10 rfl (lv_at hl 1 rfl) ?_
    refine m_getr E hM fs_X4_65 ha1.1.1 (isO_at ha1.1 2 rfl).1 dX4_markTrodden_11 ?_
    refine lv_iload_n hx hb dX4_markTrodden_14 rfl (lv_at hl 3 rfl) ?_
    obtain ⟨hv, hw⟩ := hw
    refine m_iald E hM (isO_at ha1.1 2 rfl).2 hv dX4_markTrodden_15 ?_
    refine lv_aload_n hx hb dX4_markTrodden_16 rfl (lv_at hl 0 rfl) ?_
    refine m_geti E hM fs_X4_21 ho.1 dX4_markTrodden_17 ?_
    refine lv_isub hx hb dX4_markTrodden_20 ?_
    refine lv_topi (fun x1 ex1 => ?_)
    have hw := hw x1 ex1
    refine lv_istore (lv' := [(4, .int x1), (0, .ref (ad bs o)), (1, .ref (ad bs a1)), (2, .int a2), (3, .int v3)]) hx hb dX4_markTrodden_21 hl (by decide) rfl (fun ls hl => ?_)
    refine lv_aload_n hx hb dX4_markTrodden_23 rfl (lv_at hl 2 rfl) ?_
    refine m_getr E hM fs_X4_49 ha1.1.1 (isO_at ha1.1 0 rfl).1 dX4_markTrodden_24 ?_
    refine lv_iload_n hx hb dX4_markTrodden_27 rfl (lv_at hl 4 rfl) ?_
    obtain ⟨hv, hw⟩ := hw
    refine m_iald E hM (isO_at ha1.1 0 rfl).2 hv dX4_markTrodden_28 ?_
    refine lv_iload_n hx hb dX4_markTrodden_29 rfl (lv_at hl 3 rfl) ?_
    refine lv_icmp_eq (tgt := 65) hx hb dX4_markTrodden_30 (by decide) (fun cq => ?_) (fun cq => ?_)
    · have hw := hw.1 cq
      obtain ⟨x2, ex2⟩ : ∃ y : Int32, y = v3 + 1 := ⟨_, rfl⟩
      have hw := hw x2 ex2
      refine lv_iinc (v := x2) (lv' := [(3, .int x2), (4, .int x1), (0, .ref (ad bs o)), (1, .ref (ad bs a1)), (2, .int a2)]) hx hb dX4_markTrodden_65 hl (k := 4) rfl (by rw [ex2]; rfl) (by decide) rfl (fun ls hl => ?_)
      refine lv_goto (tgt := 2) hx hb dX4_markTrodden_68 (by decide) ?_
      exact hw H locs ls  hM hS (lv_sub hl [2, 3, 4, 0] rfl)
    · have hw := hw.2 cq
      refine lv_iload hx hb dX4_markTrodden_33 (lv_at hl 0 rfl) ?_
      refine lv_if_lt (tgt := 65) hx hb dX4_markTrodden_35 (by decide) (fun cq => ?_) (fun cq => ?_)
      · have hw := hw.1 cq
        obtain ⟨x3, ex3⟩ : ∃ y : Int32, y = v3 + 1 := ⟨_, rfl⟩
        have hw := hw x3 ex3
        refine lv_iinc (v := x3) (lv' := [(3, .int x3), (4, .int x1), (0, .ref (ad bs o)), (1, .ref (ad bs a1)), (2, .int a2)]) hx hb dX4_markTrodden_65 hl (k := 4) rfl (by rw [ex3]; rfl) (by decide) rfl (fun ls hl => ?_)
        refine lv_goto (tgt := 2) hx hb dX4_markTrodden_68 (by decide) ?_
        exact hw H locs ls  hM hS (lv_sub hl [2, 3, 4, 0] rfl)
      · have hw := hw.2 cq
        refine lv_iload hx hb dX4_markTrodden_38 (lv_at hl 0 rfl) ?_
        refine lv_aload_n hx hb dX4_markTrodden_40 rfl (lv_at hl 1 rfl) ?_
        refine m_geti E hM fs_X4_31 ho.1 dX4_markTrodden_41 ?_
        refine lv_icmp_ge (tgt := 65) hx hb dX4_markTrodden_44 (by decide) (fun cq => ?_) (fun cq => ?_)
        · have hw := hw.1 cq
          obtain ⟨x4, ex4⟩ : ∃ y : Int32, y = v3 + 1 := ⟨_, rfl⟩
          have hw := hw x4 ex4
          refine lv_iinc (v := x4) (lv' := [(3, .int x4), (4, .int x1), (0, .ref (ad bs o)), (1, .ref (ad bs a1)), (2, .int a2)]) hx hb dX4_markTrodden_65 hl (k := 4) rfl (by rw [ex4]; rfl) (by decide) rfl (fun ls hl => ?_)
          refine lv_goto (tgt := 2) hx hb dX4_markTrodden_68 (by decide) ?_
          exact hw H locs ls  hM hS (lv_sub hl [2, 3, 4, 0] rfl)
        · have hw := hw.2 cq
          refine lv_aload_n hx hb dX4_markTrodden_47 rfl (lv_at hl 1 rfl) ?_
          refine m_getr E hM fs_X4_15 ho.1 (isO_at ho 1 rfl).1 dX4_markTrodden_48 ?_
          refine lv_iload hx hb dX4_markTrodden_51 (lv_at hl 0 rfl) ?_
          refine lv_dup2_11 hx hb dX4_markTrodden_53 rfl rfl ?_
          obtain ⟨hv, hw⟩ := hw
          refine m_iald E hM (isO_at ho 1 rfl).2 hv dX4_markTrodden_54 ?_
          refine lv_iconst (v := 1) hx hb dX4_markTrodden_55 (by decide) ?_
          refine lv_aload_n hx hb dX4_markTrodden_56 rfl (lv_at hl 2 rfl) ?_
          refine m_getr E hM fs_X4_52 ha1.1.1 (isO_at ha1.1 1 rfl).1 dX4_markTrodden_57 ?_
          refine lv_iload_n hx hb dX4_markTrodden_60 rfl (lv_at hl 4 rfl) ?_
          obtain ⟨hv, hw⟩ := hw
          refine m_iald E hM (isO_at ha1.1 1 rfl).2 hv dX4_markTrodden_61 ?_
          refine lv_ishl hx hb dX4_markTrodden_62 ?_
          refine lv_ior hx hb dX4_markTrodden_63 ?_
          obtain ⟨hv, hw⟩ := hw
          refine m_iast E hM hS (isO_at ho 1 rfl).2 hv dX4_markTrodden_64 (fun I5 H locs eI5 hM hS => ?_)
          have hw := hw I5 eI5
          obtain ⟨x6, ex6⟩ : ∃ y : Int32, y = v3 + 1 := ⟨_, rfl⟩
          have hw := hw x6 ex6
          refine lv_iinc (v := x6) (lv' := [(3, .int x6), (4, .int x1), (0, .ref (ad bs o)), (1, .ref (ad bs a1)), (2, .int a2)]) hx hb dX4_markTrodden_65 hl (k := 4) rfl (by rw [ex6]; rfl) (by decide) rfl (fun ls hl => ?_)
          refine lv_goto (tgt := 2) hx hb dX4_markTrodden_68 (by decide) ?_
          exact hw H locs ls  hM hS (lv_sub hl [2, 3, 4, 0] rfl)
def w_X4_markTrodden (I : mI) (o : Nat) (a1 : Nat) (a1h : Nat) (a2 : Int32) (post : mI → Prop) : Prop := (w_X4_markTrodden_2 o a1 a1h a2 post) I 0
set_option maxRecDepth 100000 in
set_option maxHeartbeats 4000000 in
theorem c_X4_markTrodden {l : Launch} {D : va_G} {cA : Nat → ClassId} {Z : mZ} {bs : Ad} {n : Nat} {K : mK} {R : mR} {I : mI} {L : mL} {o : Nat} {a1 : Nat} {a1h : Nat} {a2 : Int32} {post : mI → Prop} (ho : isX4 K R o) (ha1 : isX2 K R a1 a1h) (hw : w_X4_markTrodden I o a1 a1h a2 post) : Met l yX4_markTrodden (.code yX4_markTrodden cX4_markTrodden 5 none :: gw) ({ frames := 0, cells := 0, slots := 0, locals := 0 } : Room) (PreM D cA Z bs (n, K, R, I, L) [.ref (ad bs o), .ref (ad bs a1), .int a2]) (QV D cA bs (fun u => ∃ I', u = (n, K, R, I', L) ∧ post I')) 0 0 (Ab bs) := by
  refine m_met (by decide) (Nat.le_of_ble_eq_true rfl) (fun p e s m below meth c ls E hr hlk hM hS hl => ?_)
  have E : Ev p s m _ c cX4_markTrodden 5 RX4 D cA Z bs := E
  have hl : lv_has ls 5 [(0, .ref (ad bs o)), (1, .ref (ad bs a1)), (2, .int a2)] := hl
  have hx := E.1.1
  have hb := E.1.2.1
  generalize hHe : s.heap = H at hM ⊢
  have hS : va_S (Ab bs) s.heap H [] := by rw [← hHe]; exact va_S.rf
  clear hHe
  refine lv_iconst (v := 0) hx hb dX4_markTrodden_0 (by decide) ?_
  refine lv_istore_n (lv' := [(3, .int 0), (0, .ref (ad bs o)), (1, .ref (ad bs a1)), (2, .int a2)]) hx hb dX4_markTrodden_1 rfl hl (by decide) rfl (fun ls hl => ?_)
  exact s_X4_markTrodden_2 E hr hlk ho ha1  hw hM hS (lv_sub hl [1, 2, 3, 0] rfl)
theorem dX4_watch_0 : decode cX4_watch 0 = .ok (.aload_n 0, 1) := by decide +kernel
theorem dX4_watch_1 : decode cX4_watch 1 = .ok (.iload_n 3, 1) := by decide +kernel
theorem dX4_watch_2 : decode cX4_watch 2 = .ok (.putfield 21, 3) := by decide +kernel
theorem dX4_watch_5 : decode cX4_watch 5 = .ok (.aload_n 0, 1) := by decide +kernel
theorem dX4_watch_6 : decode cX4_watch 6 = .ok (.iload 4, 2) := by decide +kernel
theorem dX4_watch_8 : decode cX4_watch 8 = .ok (.bipush 100, 2) := by decide +kernel
theorem dX4_watch_10 : decode cX4_watch 10 = .ok (.invokestatic 25, 3) := by decide +kernel
theorem dX4_watch_13 : decode cX4_watch 13 = .ok (.putfield 31, 3) := by decide +kernel
theorem dX4_watch_16 : decode cX4_watch 16 = .ok (.aload_n 0, 1) := by decide +kernel
theorem dX4_watch_17 : decode cX4_watch 17 = .ok (.getfield 18, 3) := by decide +kernel
theorem dX4_watch_20 : decode cX4_watch 20 = .ok (.iconst (-1), 1) := by decide +kernel
theorem dX4_watch_21 : decode cX4_watch 21 = .ok (.invokestatic 34, 3) := by decide +kernel
theorem dX4_watch_24 : decode cX4_watch 24 = .ok (.aload_n 0, 1) := by decide +kernel
theorem dX4_watch_25 : decode cX4_watch 25 = .ok (.getfield 15, 3) := by decide +kernel
theorem dX4_watch_28 : decode cX4_watch 28 = .ok (.iconst 0, 1) := by decide +kernel
theorem dX4_watch_29 : decode cX4_watch 29 = .ok (.invokestatic 34, 3) := by decide +kernel
theorem dX4_watch_32 : decode cX4_watch 32 = .ok (.iconst 0, 1) := by decide +kernel
theorem dX4_watch_33 : decode cX4_watch 33 = .ok (.istore 5, 2) := by decide +kernel
theorem dX4_watch_35 : decode cX4_watch 35 = .ok (.iconst 0, 1) := by decide +kernel
theorem dX4_watch_36 : decode cX4_watch 36 = .ok (.istore 6, 2) := by decide +kernel
theorem dX4_watch_38 : decode cX4_watch 38 = .ok (.iload 6, 2) := by decide +kernel
theorem dX4_watch_40 : decode cX4_watch 40 = .ok (.aload_n 0, 1) := by decide +kernel
theorem dX4_watch_41 : decode cX4_watch 41 = .ok (.getfield 31, 3) := by decide +kernel
theorem dX4_watch_44 : decode cX4_watch 44 = .ok (.if_icmp .ge 85, 3) := by decide +kernel
theorem dX4_watch_47 : decode cX4_watch 47 = .ok (.iload 5, 2) := by decide +kernel
theorem dX4_watch_49 : decode cX4_watch 49 = .ok (.aload_n 1, 1) := by decide +kernel
theorem dX4_watch_50 : decode cX4_watch 50 = .ok (.getfield 40, 3) := by decide +kernel
theorem dX4_watch_53 : decode cX4_watch 53 = .ok (.if_icmp .ge 51, 3) := by decide +kernel
theorem dX4_watch_56 : decode cX4_watch 56 = .ok (.aload_n 1, 1) := by decide +kernel
theorem dX4_watch_57 : decode cX4_watch 57 = .ok (.iload 5, 2) := by decide +kernel
theorem dX4_watch_59 : decode cX4_watch 59 = .ok (.iload_n 2, 1) := by decide +kernel
theorem dX4_watch_60 : decode cX4_watch 60 = .ok (.aload_n 0, 1) := by decide +kernel
theorem dX4_watch_61 : decode cX4_watch 61 = .ok (.getfield 21, 3) := by decide +kernel
theorem dX4_watch_64 : decode cX4_watch 64 = .ok (.iload 6, 2) := by decide +kernel
theorem dX4_watch_66 : decode cX4_watch 66 = .ok (.iadd, 1) := by decide +kernel
theorem dX4_watch_67 : decode cX4_watch 67 = .ok (.invokestatic 45, 3) := by decide +kernel
theorem dX4_watch_70 : decode cX4_watch 70 = .ok (.ifCond .eq 34, 3) := by decide +kernel
theorem dX4_watch_73 : decode cX4_watch 73 = .ok (.aload_n 1, 1) := by decide +kernel
theorem dX4_watch_74 : decode cX4_watch 74 = .ok (.getfield 49, 3) := by decide +kernel
theorem dX4_watch_77 : decode cX4_watch 77 = .ok (.iload 5, 2) := by decide +kernel
theorem dX4_watch_79 : decode cX4_watch 79 = .ok (.iaload, 1) := by decide +kernel
theorem dX4_watch_80 : decode cX4_watch 80 = .ok (.iload_n 2, 1) := by decide +kernel
theorem dX4_watch_81 : decode cX4_watch 81 = .ok (.if_icmp .eq 17, 3) := by decide +kernel
theorem dX4_watch_84 : decode cX4_watch 84 = .ok (.aload_n 0, 1) := by decide +kernel
theorem dX4_watch_85 : decode cX4_watch 85 = .ok (.getfield 18, 3) := by decide +kernel
theorem dX4_watch_88 : decode cX4_watch 88 = .ok (.aload_n 1, 1) := by decide +kernel
theorem dX4_watch_89 : decode cX4_watch 89 = .ok (.getfield 52, 3) := by decide +kernel
theorem dX4_watch_92 : decode cX4_watch 92 = .ok (.iload 5, 2) := by decide +kernel
theorem dX4_watch_94 : decode cX4_watch 94 = .ok (.iaload, 1) := by decide +kernel
theorem dX4_watch_95 : decode cX4_watch 95 = .ok (.iload 5, 2) := by decide +kernel
theorem dX4_watch_97 : decode cX4_watch 97 = .ok (.iastore, 1) := by decide +kernel
theorem dX4_watch_98 : decode cX4_watch 98 = .ok (.iinc 5 1, 3) := by decide +kernel
theorem dX4_watch_101 : decode cX4_watch 101 = .ok (.goto (-54), 3) := by decide +kernel
theorem dX4_watch_104 : decode cX4_watch 104 = .ok (.aload_n 0, 1) := by decide +kernel
theorem dX4_watch_105 : decode cX4_watch 105 = .ok (.getfield 18, 3) := by decide +kernel
theorem dX4_watch_108 : decode cX4_watch 108 = .ok (.iconst 0, 1) := by decide +kernel
theorem dX4_watch_109 : decode cX4_watch 109 = .ok (.aload_n 0, 1) := by decide +kernel
theorem dX4_watch_110 : decode cX4_watch 110 = .ok (.getfield 9, 3) := by decide +kernel
theorem dX4_watch_113 : decode cX4_watch 113 = .ok (.iload 6, 2) := by decide +kernel
theorem dX4_watch_115 : decode cX4_watch 115 = .ok (.bipush 24, 2) := by decide +kernel
theorem dX4_watch_117 : decode cX4_watch 117 = .ok (.imul, 1) := by decide +kernel
theorem dX4_watch_118 : decode cX4_watch 118 = .ok (.bipush 24, 2) := by decide +kernel
theorem dX4_watch_120 : decode cX4_watch 120 = .ok (.invokestatic 55, 3) := by decide +kernel
theorem dX4_watch_123 : decode cX4_watch 123 = .ok (.iinc 6 1, 3) := by decide +kernel
theorem dX4_watch_126 : decode cX4_watch 126 = .ok (.goto (-88), 3) := by decide +kernel
theorem dX4_watch_129 : decode cX4_watch 129 = .ok (.aload_n 0, 1) := by decide +kernel
theorem dX4_watch_130 : decode cX4_watch 130 = .ok (.aload_n 1, 1) := by decide +kernel
theorem dX4_watch_131 : decode cX4_watch 131 = .ok (.iload_n 2, 1) := by decide +kernel
theorem dX4_watch_132 : decode cX4_watch 132 = .ok (.invokevirtual 61, 3) := by decide +kernel
theorem dX4_watch_135 : decode cX4_watch 135 = .ok (.return_, 1) := by decide +kernel
def w_X4_watch_47 (o : Nat) (a1 : Nat) (a1h : Nat) (a2 : Int32) (a3 : Int32) (a4 : Int32) (post : mI → Prop) (k104 : mI → Int32 → Int32 → Prop) (I : mI) (v5 : Int32) (v6 : Int32) : Prop := ∀ ZZ : (mI → Int32 → Int32 → Prop), (∀ (I : mI) (v5 : Int32) (v6 : Int32), (((I a1 2) ≤ v5 → k104 I v5 v6) ∧ (¬ (I a1 2) ≤ v5 → w_X4_isAhead I a1 a1h v5 a2 ((I o 0) + v6) (fun b5 => (b5 = false → k104 I v5 v6) ∧ (b5 = true → vp_in v5 600 ∧ ((I (a1 + 1) v5.toNatClampNeg) = a2 → ∀ x6, x6 = v5 + 1 → ZZ I x6 v6) ∧ (¬ (I (a1 + 1) v5.toNatClampNeg) = a2 → vp_in v5 600 ∧ vp_in (I (a1 + 2) v5.toNatClampNeg) 24 ∧ ∀ I7, I7 = up2 I (o + 3) ((I (a1 + 2) v5.toNatClampNeg).toNatClampNeg) v5 → ∀ x8, x8 = v5 + 1 → ZZ I7 x8 v6))))) → ZZ I v5 v6) → ZZ I v5 v6
set_option maxRecDepth 100000 in
set_option maxHeartbeats 4000000 in
theorem s_X4_watch_47 {p : Program} {l : Launch} {e : Env} {s : State} {m : MethodId} {args : Array Value} {below : List Frame} {meth : Method} {c : Code} {D : va_G} {cA : Nat → ClassId} {Z : mZ} {bs : Ad} {n : Nat} {K : mK} {R : mR} {L : mL} (E : Ev p s m args c cX4_watch 7 RX4 D cA Z bs) (hr : meth.sig.returnType = none) (hlk : meth.locks = false) {o : Nat} {a1 : Nat} {a1h : Nat} {a2 : Int32} {a3 : Int32} {a4 : Int32} (ho : isX4 K R o) (ha1 : isX2 K R a1 a1h) {post : mI → Prop} {k104 : mI → Int32 → Int32 → Prop} (hk104 : ∀ (I : mI) (v5 : Int32) (v6 : Int32) (H : Heap) (locs : List Loc) (ls : Array Slot), k104 I v5 v6 → mm D cA bs (n, K, R, I, L) H → va_S (Ab bs) s.heap H locs → lv_has ls 7 [(0, .ref (ad bs o)), (1, .ref (ad bs a1)), (2, .int a2), (5, .int v5), (6, .int v6)] → W p l e ({ frames := 1, cells := 0, slots := 0, locals := 80 } : Room) s m args below meth c H locs 0 0 (MQ below (QV D cA bs (fun u => ∃ I', u = (n, K, R, I', L) ∧ post I')) args s 0 0 (Ab bs)) (F0 m 104 ls [])) {I : mI} {v5 : Int32} {v6 : Int32} {H : Heap} {locs : List Loc} {ls : Array Slot} (hw : w_X4_watch_47 o a1 a1h a2 a3 a4 post k104 I v5 v6) (hM : mm D cA bs (n, K, R, I, L) H) (hS : va_S (Ab bs) s.heap H locs) (hl : lv_has ls 7 [(0, .ref (ad bs o)), (1, .ref (ad bs a1)), (2, .int a2), (5, .int v5), (6, .int v6)]) : W p l e ({ frames := 1, cells := 0, slots := 0, locals := 80 } : Room) s m args below meth c H locs 0 0 (MQ below (QV D cA bs (fun u => ∃ I', u = (n, K, R, I', L) ∧ post I')) args s 0 0 (Ab bs)) (F0 m 47 ls []) := by
  have hx := E.1.1
  have hb := E.1.2.1
  refine hw (fun I v5 v6 => ∀ (H : Heap) (locs : List Loc) (ls : Array Slot), mm D cA bs (n, K, R, I, L) H → va_S (Ab bs) s.heap H locs → lv_has ls 7 [(0, .ref (ad bs o)), (1, .ref (ad bs a1)), (2, .int a2), (5, .int v5), (6, .int v6)] → W p l e ({ frames := 1, cells := 0, slots := 0, locals := 80 } : Room) s m args below meth c H locs 0 0 (MQ below (QV D cA bs (fun u => ∃ I', u = (n, K, R, I', L) ∧ post I')) args s 0 0 (Ab bs)) (F0 m 47 ls [])) ?_ H locs ls hM hS hl
  clear hw hM hS hl
  intro I v5 v6 hw H locs ls hM hS hl
  refine lv_iload hx hb dX4_watch_47 (lv_at hl 3 rfl) ?_
  refine lv_aload_n hx hb dX4_watch_49 rfl (lv_at hl 1 rfl) ?_
  refine m_geti E hM fs_X4_40 ha1.1.1 dX4_watch_50 ?_
  refine lv_icmp_ge (tgt := 104) hx hb dX4_watch_53 (by decide) (fun cq => ?_) (fun cq => ?_)
  · have hw := hw.1 cq
    exact hk104 _ _ _ H locs ls  hw hM hS (lv_sub hl [0, 1, 2, 3, 4] rfl)
  · have hw := hw.2 cq
    refine lv_aload_n hx hb dX4_watch_56 rfl (lv_at hl 1 rfl) ?_
    refine lv_iload hx hb dX4_watch_57 (lv_at hl 3 rfl) ?_
    refine lv_iload_n hx hb dX4_watch_59 rfl (lv_at hl 2 rfl) ?_
    refine lv_aload_n hx hb dX4_watch_60 rfl (lv_at hl 0 rfl) ?_
    refine m_geti E hM fs_X4_21 ho.1 dX4_watch_61 ?_
    refine lv_iload hx hb dX4_watch_64 (lv_at hl 4 rfl) ?_
    refine lv_iadd hx hb dX4_watch_66 ?_
    refine m_ci (m_runS E hM hS cs_X4_45 (c_X4_isAhead ha1 hw) rfl rfl ⟨Nat.le_of_ble_eq_true rfl, Nat.le_of_ble_eq_true rfl⟩ rfl hl.1 rfl (Nat.le_of_ble_eq_true rfl) dX4_watch_67 ⟨Nat.le_of_ble_eq_true rfl, Nat.le_of_ble_eq_true rfl⟩) hS (fun r9 u H locs hp hM hS => ?_)
    obtain ⟨b5, rfl, rfl, hw⟩ := hp
    refine lv_if_eq (tgt := 104) hx hb dX4_watch_70 (by decide) (fun cq => ?_) (fun cq => ?_)
    · have hw := hw.1 (bI_f cq)
      exact hk104 _ _ _ H locs ls  hw hM hS (lv_sub hl [0, 1, 2, 3, 4] rfl)
    · have hw := hw.2 (bI_t cq)
      refine lv_aload_n hx hb dX4_watch_73 rfl (lv_at hl 1 rfl) ?_
      refine m_getr E hM fs_X4_49 ha1.1.1 (isO_at ha1.1 0 rfl).1 dX4_watch_74 ?_
      refine lv_iload hx hb dX4_watch_77 (lv_at hl 3 rfl) ?_
      obtain ⟨hv, hw⟩ := hw
      refine m_iald E hM (isO_at ha1.1 0 rfl).2 hv dX4_watch_79 ?_
      refine lv_iload_n hx hb dX4_watch_80 rfl (lv_at hl 2 rfl) ?_
      refine lv_icmp_eq (tgt := 98) hx hb dX4_watch_81 (by decide) (fun cq => ?_) (fun cq => ?_)
      · have hw := hw.1 cq
        obtain ⟨x6, ex6⟩ : ∃ y : Int32, y = v5 + 1 := ⟨_, rfl⟩
        have hw := hw x6 ex6
        refine lv_iinc (v := x6) (lv' := [(5, .int x6), (0, .ref (ad bs o)), (1, .ref (ad bs a1)), (2, .int a2), (6, .int v6)]) hx hb dX4_watch_98 hl (k := 3) rfl (by rw [ex6]; rfl) (by decide) rfl (fun ls hl => ?_)
        refine lv_goto (tgt := 47) hx hb dX4_watch_101 (by decide) ?_
        exact hw H locs ls  hM hS (lv_sub hl [1, 2, 3, 0, 4] rfl)
      · have hw := hw.2 cq
        refine lv_aload_n hx hb dX4_watch_84 rfl (lv_at hl 0 rfl) ?_
        refine m_getr E hM fs_X4_18 ho.1 (isO_at ho 2 rfl).1 dX4_watch_85 ?_
        refine lv_aload_n hx hb dX4_watch_88 rfl (lv_at hl 1 rfl) ?_
        refine m_getr E hM fs_X4_52 ha1.1.1 (isO_at ha1.1 1 rfl).1 dX4_watch_89 ?_
        refine lv_iload hx hb dX4_watch_92 (lv_at hl 3 rfl) ?_
        obtain ⟨hv, hw⟩ := hw
        refine m_iald E hM (isO_at ha1.1 1 rfl).2 hv dX4_watch_94 ?_
        refine lv_iload hx hb dX4_watch_95 (lv_at hl 3 rfl) ?_
        obtain ⟨hv, hw⟩ := hw
        refine m_iast E hM hS (isO_at ho 2 rfl).2 hv dX4_watch_97 (fun I7 H locs eI7 hM hS => ?_)
        have hw := hw I7 eI7
        obtain ⟨x8, ex8⟩ : ∃ y : Int32, y = v5 + 1 := ⟨_, rfl⟩
        have hw := hw x8 ex8
        refine lv_iinc (v := x8) (lv' := [(5, .int x8), (0, .ref (ad bs o)), (1, .ref (ad bs a1)), (2, .int a2), (6, .int v6)]) hx hb dX4_watch_98 hl (k := 3) rfl (by rw [ex8]; rfl) (by decide) rfl (fun ls hl => ?_)
        refine lv_goto (tgt := 47) hx hb dX4_watch_101 (by decide) ?_
        exact hw H locs ls  hM hS (lv_sub hl [1, 2, 3, 0, 4] rfl)
def w_X4_watch_104 (o : Nat) (a1 : Nat) (a1h : Nat) (a2 : Int32) (a3 : Int32) (a4 : Int32) (post : mI → Prop) (k38 : mI → Int32 → Int32 → Prop) (I : mI) (v5 : Int32) (v6 : Int32) : Prop := (o + 3) ≠ (o + 1) ∧ ¬ (0 : Int32) < 0 ∧ ¬ (v6 * 24) < 0 ∧ ¬ (24 : Int32) < 0 ∧ (0 : Int32).toNatClampNeg + (24 : Int32).toNatClampNeg ≤ 24 ∧ (v6 * 24).toNatClampNeg + (24 : Int32).toNatClampNeg ≤ 2400 ∧ ∀ I9, I9 = cpy2 I (o + 3) (o + 1) ((0 : Int32).toNatClampNeg) ((v6 * 24).toNatClampNeg) ((24 : Int32).toNatClampNeg) → ∀ x10, x10 = v6 + 1 → k38 I9 v5 x10
set_option maxRecDepth 100000 in
set_option maxHeartbeats 4000000 in
theorem s_X4_watch_104 {p : Program} {l : Launch} {e : Env} {s : State} {m : MethodId} {args : Array Value} {below : List Frame} {meth : Method} {c : Code} {D : va_G} {cA : Nat → ClassId} {Z : mZ} {bs : Ad} {n : Nat} {K : mK} {R : mR} {L : mL} (E : Ev p s m args c cX4_watch 7 RX4 D cA Z bs) (hr : meth.sig.returnType = none) (hlk : meth.locks = false) {o : Nat} {a1 : Nat} {a1h : Nat} {a2 : Int32} {a3 : Int32} {a4 : Int32} (ho : isX4 K R o) (ha1 : isX2 K R a1 a1h) {post : mI → Prop} {k38 : mI → Int32 → Int32 → Prop} (hk38 : ∀ (I : mI) (v5 : Int32) (v6 : Int32) (H : Heap) (locs : List Loc) (ls : Array Slot), k38 I v5 v6 → mm D cA bs (n, K, R, I, L) H → va_S (Ab bs) s.heap H locs → lv_has ls 7 [(0, .ref (ad bs o)), (1, .ref (ad bs a1)), (2, .int a2), (5, .int v5), (6, .int v6)] → W p l e ({ frames := 1, cells := 0, slots := 0, locals := 80 } : Room) s m args below meth c H locs 0 0 (MQ below (QV D cA bs (fun u => ∃ I', u = (n, K, R, I', L) ∧ post I')) args s 0 0 (Ab bs)) (F0 m 38 ls [])) {I : mI} {v5 : Int32} {v6 : Int32} {H : Heap} {locs : List Loc} {ls : Array Slot} (hw : w_X4_watch_104 o a1 a1h a2 a3 a4 post k38 I v5 v6) (hM : mm D cA bs (n, K, R, I, L) H) (hS : va_S (Ab bs) s.heap H locs) (hl : lv_has ls 7 [(0, .ref (ad bs o)), (1, .ref (ad bs a1)), (2, .int a2), (5, .int v5), (6, .int v6)]) : W p l e ({ frames := 1, cells := 0, slots := 0, locals := 80 } : Room) s m args below meth c H locs 0 0 (MQ below (QV D cA bs (fun u => ∃ I', u = (n, K, R, I', L) ∧ post I')) args s 0 0 (Ab bs)) (F0 m 104 ls []) := by
  have hx := E.1.1
  have hb := E.1.2.1
  refine lv_aload_n hx hb dX4_watch_104 rfl (lv_at hl 0 rfl) ?_
  refine m_getr E hM fs_X4_18 ho.1 (isO_at ho 2 rfl).1 dX4_watch_105 ?_
  refine lv_iconst (v := 0) hx hb dX4_watch_108 (by decide) ?_
  refine lv_aload_n hx hb dX4_watch_109 rfl (lv_at hl 0 rfl) ?_
  refine m_getr E hM fs_X4_9 ho.1 (isO_at ho 0 rfl).1 dX4_watch_110 ?_
  refine lv_iload hx hb dX4_watch_113 (lv_at hl 4 rfl) ?_
  refine lv_bipush (v := 24) hx hb dX4_watch_115 (by decide) ?_
  refine lv_imul hx hb dX4_watch_117 ?_
  refine lv_bipush (v := 24) hx hb dX4_watch_118 (by decide) ?_
  obtain ⟨q1, q2, q3, q4, q5, q6, hw⟩ := hw
  refine m_copy E hM hS ml_X4_55 hl.1 (isO_at ho 2 rfl).2 (isO_at ho 0 rfl).2 (by simp) q1 q2 q3 q4 q5 q6 (fun h9 => absurd h9 (by decide)) (Nat.le_of_ble_eq_true rfl) (Nat.le_of_ble_eq_true rfl) dX4_watch_120 (fun I9 H locs eI9 hM hS => ?_)
  have hw := hw I9 eI9
  obtain ⟨x10, ex10⟩ : ∃ y : Int32, y = v6 + 1 := ⟨_, rfl⟩
  have hw := hw x10 ex10
  refine lv_iinc (v := x10) (lv' := [(6, .int x10), (0, .ref (ad bs o)), (1, .ref (ad bs a1)), (2, .int a2), (5, .int v5)]) hx hb dX4_watch_123 hl (k := 4) rfl (by rw [ex10]; rfl) (by decide) rfl (fun ls hl => ?_)
  refine lv_goto (tgt := 38) hx hb dX4_watch_126 (by decide) ?_
  exact hk38 _ _ _ H locs ls  hw hM hS (lv_sub hl [1, 2, 3, 4, 0] rfl)
def w_X4_watch_38 (o : Nat) (a1 : Nat) (a1h : Nat) (a2 : Int32) (a3 : Int32) (a4 : Int32) (post : mI → Prop) (k129 : mI → Prop) (I : mI) (v5 : Int32) (v6 : Int32) : Prop := ∀ ZZ : (mI → Int32 → Int32 → Prop), (∀ (I : mI) (v5 : Int32) (v6 : Int32), (((I o 1) ≤ v6 → k129 I) ∧ (¬ (I o 1) ≤ v6 → (w_X4_watch_47 o a1 a1h a2 a3 a4 post (w_X4_watch_104 o a1 a1h a2 a3 a4 post ZZ)) I v5 v6)) → ZZ I v5 v6) → ZZ I v5 v6
set_option maxRecDepth 100000 in
set_option maxHeartbeats 4000000 in
theorem s_X4_watch_38 {p : Program} {l : Launch} {e : Env} {s : State} {m : MethodId} {args : Array Value} {below : List Frame} {meth : Method} {c : Code} {D : va_G} {cA : Nat → ClassId} {Z : mZ} {bs : Ad} {n : Nat} {K : mK} {R : mR} {L : mL} (E : Ev p s m args c cX4_watch 7 RX4 D cA Z bs) (hr : meth.sig.returnType = none) (hlk : meth.locks = false) {o : Nat} {a1 : Nat} {a1h : Nat} {a2 : Int32} {a3 : Int32} {a4 : Int32} (ho : isX4 K R o) (ha1 : isX2 K R a1 a1h) {post : mI → Prop} {k129 : mI → Prop} (hk129 : ∀ (I : mI) (H : Heap) (locs : List Loc) (ls : Array Slot), k129 I → mm D cA bs (n, K, R, I, L) H → va_S (Ab bs) s.heap H locs → lv_has ls 7 [(0, .ref (ad bs o)), (1, .ref (ad bs a1)), (2, .int a2)] → W p l e ({ frames := 1, cells := 0, slots := 0, locals := 80 } : Room) s m args below meth c H locs 0 0 (MQ below (QV D cA bs (fun u => ∃ I', u = (n, K, R, I', L) ∧ post I')) args s 0 0 (Ab bs)) (F0 m 129 ls [])) {I : mI} {v5 : Int32} {v6 : Int32} {H : Heap} {locs : List Loc} {ls : Array Slot} (hw : w_X4_watch_38 o a1 a1h a2 a3 a4 post k129 I v5 v6) (hM : mm D cA bs (n, K, R, I, L) H) (hS : va_S (Ab bs) s.heap H locs) (hl : lv_has ls 7 [(0, .ref (ad bs o)), (1, .ref (ad bs a1)), (2, .int a2), (5, .int v5), (6, .int v6)]) : W p l e ({ frames := 1, cells := 0, slots := 0, locals := 80 } : Room) s m args below meth c H locs 0 0 (MQ below (QV D cA bs (fun u => ∃ I', u = (n, K, R, I', L) ∧ post I')) args s 0 0 (Ab bs)) (F0 m 38 ls []) := by
  have hx := E.1.1
  have hb := E.1.2.1
  refine hw (fun I v5 v6 => ∀ (H : Heap) (locs : List Loc) (ls : Array Slot), mm D cA bs (n, K, R, I, L) H → va_S (Ab bs) s.heap H locs → lv_has ls 7 [(0, .ref (ad bs o)), (1, .ref (ad bs a1)), (2, .int a2), (5, .int v5), (6, .int v6)] → W p l e ({ frames := 1, cells := 0, slots := 0, locals := 80 } : Room) s m args below meth c H locs 0 0 (MQ below (QV D cA bs (fun u => ∃ I', u = (n, K, R, I', L) ∧ post I')) args s 0 0 (Ab bs)) (F0 m 38 ls [])) ?_ H locs ls hM hS hl
  clear hw hM hS hl
  intro I v5 v6 hw H locs ls hM hS hl
  refine lv_iload hx hb dX4_watch_38 (lv_at hl 4 rfl) ?_
  refine lv_aload_n hx hb dX4_watch_40 rfl (lv_at hl 0 rfl) ?_
  refine m_geti E hM fs_X4_31 ho.1 dX4_watch_41 ?_
  refine lv_icmp_ge (tgt := 129) hx hb dX4_watch_44 (by decide) (fun cq => ?_) (fun cq => ?_)
  · have hw := hw.1 cq
    exact hk129 _ H locs ls  hw hM hS (lv_sub hl [0, 1, 2] rfl)
  · have hw := hw.2 cq
    exact s_X4_watch_47 E hr hlk ho ha1 (fun I v5 v6 H locs ls  hw hM hS hl => s_X4_watch_104 E hr hlk ho ha1 (fun I v5 v6 H locs ls  hw hM hS hl => hw H locs ls  hM hS hl)  hw hM hS hl)  hw hM hS (lv_sub hl [0, 1, 2, 3, 4] rfl)
def w_X4_watch_129 (o : Nat) (a1 : Nat) (a1h : Nat) (a2 : Int32) (a3 : Int32) (a4 : Int32) (post : mI → Prop) (I : mI) : Prop := w_X4_markTrodden I o a1 a1h a2 (fun I11 => post I11)
set_option maxRecDepth 100000 in
set_option maxHeartbeats 4000000 in
theorem s_X4_watch_129 {p : Program} {l : Launch} {e : Env} {s : State} {m : MethodId} {args : Array Value} {below : List Frame} {meth : Method} {c : Code} {D : va_G} {cA : Nat → ClassId} {Z : mZ} {bs : Ad} {n : Nat} {K : mK} {R : mR} {L : mL} (E : Ev p s m args c cX4_watch 7 RX4 D cA Z bs) (hr : meth.sig.returnType = none) (hlk : meth.locks = false) {o : Nat} {a1 : Nat} {a1h : Nat} {a2 : Int32} {a3 : Int32} {a4 : Int32} (ho : isX4 K R o) (ha1 : isX2 K R a1 a1h) {post : mI → Prop} {I : mI} {H : Heap} {locs : List Loc} {ls : Array Slot} (hw : w_X4_watch_129 o a1 a1h a2 a3 a4 post I) (hM : mm D cA bs (n, K, R, I, L) H) (hS : va_S (Ab bs) s.heap H locs) (hl : lv_has ls 7 [(0, .ref (ad bs o)), (1, .ref (ad bs a1)), (2, .int a2)]) : W p l e ({ frames := 1, cells := 0, slots := 0, locals := 80 } : Room) s m args below meth c H locs 0 0 (MQ below (QV D cA bs (fun u => ∃ I', u = (n, K, R, I', L) ∧ post I')) args s 0 0 (Ab bs)) (F0 m 129 ls []) := by
  have hx := E.1.1
  have hb := E.1.2.1
  refine lv_aload_n hx hb dX4_watch_129 rfl (lv_at hl 0 rfl) ?_
  refine lv_aload_n hx hb dX4_watch_130 rfl (lv_at hl 1 rfl) ?_
  refine lv_iload_n hx hb dX4_watch_131 rfl (lv_at hl 2 rfl) ?_
  refine m_cv (m_runV E hM hS cs_X4_61 ho.1 (by decide) rfl rfl (c_X4_markTrodden ho ha1 hw) rfl rfl ⟨Nat.le_of_ble_eq_true rfl, Nat.le_of_ble_eq_true rfl⟩ rfl hl.1 rfl (Nat.le_of_ble_eq_true rfl) dX4_watch_132 ⟨Nat.le_of_ble_eq_true rfl, Nat.le_of_ble_eq_true rfl⟩) hS (fun u H locs hp hM hS => ?_)
  obtain ⟨I11, rfl, hw⟩ := hp
  exact m_retv hx hb hr hlk hM hS ⟨_, rfl, hw⟩ dX4_watch_135
def w_X4_watch (I : mI) (o : Nat) (a1 : Nat) (a1h : Nat) (a2 : Int32) (a3 : Int32) (a4 : Int32) (post : mI → Prop) : Prop := ∀ I1, I1 = up2 I o 0 a3 → ∀ I2, I2 = up2 I1 o 1 (imin a4 100) → w_J7_fill_53178 I2 (o + 3) 24 (-1) (fun I3 => w_J7_fill_53178 I3 (o + 2) 100 0 (fun I4 => (w_X4_watch_38 o a1 a1h a2 a3 a4 post (w_X4_watch_129 o a1 a1h a2 a3 a4 post)) I4 0 0))
set_option maxRecDepth 100000 in
set_option maxHeartbeats 4000000 in
theorem c_X4_watch {l : Launch} {D : va_G} {cA : Nat → ClassId} {Z : mZ} {bs : Ad} {n : Nat} {K : mK} {R : mR} {I : mI} {L : mL} {o : Nat} {a1 : Nat} {a1h : Nat} {a2 : Int32} {a3 : Int32} {a4 : Int32} {post : mI → Prop} (ho : isX4 K R o) (ha1 : isX2 K R a1 a1h) (hw : w_X4_watch I o a1 a1h a2 a3 a4 post) : Met l yX4_watch (.code yX4_watch cX4_watch 7 none :: gw) ({ frames := 1, cells := 0, slots := 0, locals := 80 } : Room) (PreM D cA Z bs (n, K, R, I, L) [.ref (ad bs o), .ref (ad bs a1), .int a2, .int a3, .int a4]) (QV D cA bs (fun u => ∃ I', u = (n, K, R, I', L) ∧ post I')) 0 0 (Ab bs) := by
  refine m_met (by decide) (Nat.le_of_ble_eq_true rfl) (fun p e s m below meth c ls E hr hlk hM hS hl => ?_)
  have E : Ev p s m _ c cX4_watch 7 RX4 D cA Z bs := E
  have hl : lv_has ls 7 [(0, .ref (ad bs o)), (1, .ref (ad bs a1)), (2, .int a2), (3, .int a3), (4, .int a4)] := hl
  have hx := E.1.1
  have hb := E.1.2.1
  generalize hHe : s.heap = H at hM ⊢
  have hS : va_S (Ab bs) s.heap H [] := by rw [← hHe]; exact va_S.rf
  clear hHe
  refine lv_aload_n hx hb dX4_watch_0 rfl (lv_at hl 0 rfl) ?_
  refine lv_iload_n hx hb dX4_watch_1 rfl (lv_at hl 3 rfl) ?_
  refine m_puti E hM hS fp_X4_21 ho.1 rfl rfl dX4_watch_2 (fun I1 H locs eI1 hM hS => ?_)
  have hw := hw I1 eI1
  refine lv_aload_n hx hb dX4_watch_5 rfl (lv_at hl 0 rfl) ?_
  refine lv_iload hx hb dX4_watch_6 (lv_at hl 4 rfl) ?_
  refine lv_bipush (v := 100) hx hb dX4_watch_8 (by decide) ?_
  refine m_min E ml_X4_25 hl.1 (Nat.le_of_ble_eq_true rfl) (Nat.le_of_ble_eq_true rfl) (Nat.le_of_ble_eq_true rfl) (Nat.le_of_ble_eq_true rfl) dX4_watch_10 ?_
  refine m_puti E hM hS fp_X4_31 ho.1 rfl rfl dX4_watch_13 (fun I2 H locs eI2 hM hS => ?_)
  have hw := hw I2 eI2
  refine lv_aload_n hx hb dX4_watch_16 rfl (lv_at hl 0 rfl) ?_
  refine m_getr E hM fs_X4_18 ho.1 (isO_at ho 2 rfl).1 dX4_watch_17 ?_
  refine lv_iconst (v := (-1)) hx hb dX4_watch_20 (by decide) ?_
  refine m_cv (m_runS E hM hS cs_X4_34 (c_J7_fill_53178 ((isO_at ho 2 rfl).2) hw) rfl rfl ⟨Nat.le_of_ble_eq_true rfl, Nat.le_of_ble_eq_true rfl⟩ rfl hl.1 rfl (Nat.le_of_ble_eq_true rfl) dX4_watch_21 ⟨Nat.le_of_ble_eq_true rfl, Nat.le_of_ble_eq_true rfl⟩) hS (fun u H locs hp hM hS => ?_)
  obtain ⟨I3, rfl, hw⟩ := hp
  refine lv_aload_n hx hb dX4_watch_24 rfl (lv_at hl 0 rfl) ?_
  refine m_getr E hM fs_X4_15 ho.1 (isO_at ho 1 rfl).1 dX4_watch_25 ?_
  refine lv_iconst (v := 0) hx hb dX4_watch_28 (by decide) ?_
  refine m_cv (m_runS E hM hS cs_X4_34 (c_J7_fill_53178 ((isO_at ho 1 rfl).2) hw) rfl rfl ⟨Nat.le_of_ble_eq_true rfl, Nat.le_of_ble_eq_true rfl⟩ rfl hl.1 rfl (Nat.le_of_ble_eq_true rfl) dX4_watch_29 ⟨Nat.le_of_ble_eq_true rfl, Nat.le_of_ble_eq_true rfl⟩) hS (fun u H locs hp hM hS => ?_)
  obtain ⟨I4, rfl, hw⟩ := hp
  refine lv_iconst (v := 0) hx hb dX4_watch_32 (by decide) ?_
  refine lv_istore (lv' := [(5, .int 0), (0, .ref (ad bs o)), (1, .ref (ad bs a1)), (2, .int a2), (3, .int a3), (4, .int a4)]) hx hb dX4_watch_33 hl (by decide) rfl (fun ls hl => ?_)
  refine lv_iconst (v := 0) hx hb dX4_watch_35 (by decide) ?_
  refine lv_istore (lv' := [(6, .int 0), (5, .int 0), (0, .ref (ad bs o)), (1, .ref (ad bs a1)), (2, .int a2), (3, .int a3), (4, .int a4)]) hx hb dX4_watch_36 hl (by decide) rfl (fun ls hl => ?_)
  exact s_X4_watch_38 E hr hlk ho ha1 (fun I H locs ls  hw hM hS hl => s_X4_watch_129 E hr hlk ho ha1  hw hM hS hl)  hw hM hS (lv_sub hl [2, 3, 4, 1, 0] rfl)
theorem dX4_cover_0 : decode cX4_cover 0 = .ok (.iload_n 2, 1) := by decide +kernel
theorem dX4_cover_1 : decode cX4_cover 1 = .ok (.aload_n 0, 1) := by decide +kernel
theorem dX4_cover_2 : decode cX4_cover 2 = .ok (.getfield 21, 3) := by decide +kernel
theorem dX4_cover_5 : decode cX4_cover 5 = .ok (.isub, 1) := by decide +kernel
theorem dX4_cover_6 : decode cX4_cover 6 = .ok (.istore_n 3, 1) := by decide +kernel
theorem dX4_cover_7 : decode cX4_cover 7 = .ok (.iload_n 3, 1) := by decide +kernel
theorem dX4_cover_8 : decode cX4_cover 8 = .ok (.ifCond .lt 28, 3) := by decide +kernel
theorem dX4_cover_11 : decode cX4_cover 11 = .ok (.iload_n 3, 1) := by decide +kernel
theorem dX4_cover_12 : decode cX4_cover 12 = .ok (.aload_n 0, 1) := by decide +kernel
theorem dX4_cover_13 : decode cX4_cover 13 = .ok (.getfield 31, 3) := by decide +kernel
theorem dX4_cover_16 : decode cX4_cover 16 = .ok (.if_icmp .ge 20, 3) := by decide +kernel
theorem dX4_cover_19 : decode cX4_cover 19 = .ok (.aload_n 0, 1) := by decide +kernel
theorem dX4_cover_20 : decode cX4_cover 20 = .ok (.getfield 15, 3) := by decide +kernel
theorem dX4_cover_23 : decode cX4_cover 23 = .ok (.iload_n 3, 1) := by decide +kernel
theorem dX4_cover_24 : decode cX4_cover 24 = .ok (.iaload, 1) := by decide +kernel
theorem dX4_cover_25 : decode cX4_cover 25 = .ok (.iload_n 1, 1) := by decide +kernel
theorem dX4_cover_26 : decode cX4_cover 26 = .ok (.invokestatic 72, 3) := by decide +kernel
theorem dX4_cover_29 : decode cX4_cover 29 = .ok (.ifCond .eq 7, 3) := by decide +kernel
theorem dX4_cover_32 : decode cX4_cover 32 = .ok (.iconst 1, 1) := by decide +kernel
theorem dX4_cover_33 : decode cX4_cover 33 = .ok (.goto 4, 3) := by decide +kernel
theorem dX4_cover_36 : decode cX4_cover 36 = .ok (.iconst 0, 1) := by decide +kernel
theorem dX4_cover_37 : decode cX4_cover 37 = .ok (.ireturn, 1) := by decide +kernel
def w_X4_cover (I : mI) (o : Nat) (a1 : Int32) (a2 : Int32) (post : Bool → Prop) : Prop := ∀ x1, x1 = (a2 - (I o 0)) → (x1 < 0 → post false) ∧ (¬ x1 < 0 → ((I o 1) ≤ x1 → post false) ∧ (¬ (I o 1) ≤ x1 → vp_in x1 100 ∧ w_X11_has (I (o + 2) x1.toNatClampNeg) a1 (fun b2 => (b2 = false → post false) ∧ (b2 = true → post true))))
set_option maxRecDepth 100000 in
set_option maxHeartbeats 4000000 in
theorem c_X4_cover {l : Launch} {D : va_G} {cA : Nat → ClassId} {Z : mZ} {bs : Ad} {n : Nat} {K : mK} {R : mR} {I : mI} {L : mL} {o : Nat} {a1 : Int32} {a2 : Int32} {post : Bool → Prop} (ho : isX4 K R o) (hw : w_X4_cover I o a1 a2 post) : Met l yX4_cover (.code yX4_cover cX4_cover 4 (some .boolean) :: gw) ({ frames := 1, cells := 0, slots := 0, locals := 21 } : Room) (PreM D cA Z bs (n, K, R, I, L) [.ref (ad bs o), .int a1, .int a2]) (QI D cA bs (fun r u => ∃ b, r = bI b ∧ u = (n, K, R, I, L) ∧ post b)) 0 0 (Ab bs) := by
  refine m_met (by decide) (Nat.le_of_ble_eq_true rfl) (fun p e s m below meth c ls E hr hlk hM hS hl => ?_)
  have E : Ev p s m _ c cX4_cover 4 RX4 D cA Z bs := E
  have hl : lv_has ls 4 [(0, .ref (ad bs o)), (1, .int a1), (2, .int a2)] := hl
  have hx := E.1.1
  have hb := E.1.2.1
  generalize hHe : s.heap = H at hM ⊢
  have hS : va_S (Ab bs) s.heap H [] := by rw [← hHe]; exact va_S.rf
  clear hHe
  refine lv_iload_n hx hb dX4_cover_0 rfl (lv_at hl 2 rfl) ?_
  refine lv_aload_n hx hb dX4_cover_1 rfl (lv_at hl 0 rfl) ?_
  refine m_geti E hM fs_X4_21 ho.1 dX4_cover_2 ?_
  refine lv_isub hx hb dX4_cover_5 ?_
  refine lv_topi (fun x1 ex1 => ?_)
  have hw := hw x1 ex1
  refine lv_istore_n (lv' := [(3, .int x1), (0, .ref (ad bs o)), (1, .int a1), (2, .int a2)]) hx hb dX4_cover_6 rfl hl (by decide) rfl (fun ls hl => ?_)
  refine lv_iload_n hx hb dX4_cover_7 rfl (lv_at hl 0 rfl) ?_
  refine lv_if_lt (tgt := 36) hx hb dX4_cover_8 (by decide) (fun cq => ?_) (fun cq => ?_)
  · have hw := hw.1 cq
    refine lv_iconst (v := 0) hx hb dX4_cover_36 (by decide) ?_
    exact m_retz hx hb hr hlk (Or.inl rfl) hM hS ⟨false, rfl, rfl, hw⟩ dX4_cover_37
  · have hw := hw.2 cq
    refine lv_iload_n hx hb dX4_cover_11 rfl (lv_at hl 0 rfl) ?_
    refine lv_aload_n hx hb dX4_cover_12 rfl (lv_at hl 1 rfl) ?_
    refine m_geti E hM fs_X4_31 ho.1 dX4_cover_13 ?_
    refine lv_icmp_ge (tgt := 36) hx hb dX4_cover_16 (by decide) (fun cq => ?_) (fun cq => ?_)
    · have hw := hw.1 cq
      refine lv_iconst (v := 0) hx hb dX4_cover_36 (by decide) ?_
      exact m_retz hx hb hr hlk (Or.inl rfl) hM hS ⟨false, rfl, rfl, hw⟩ dX4_cover_37
    · have hw := hw.2 cq
      refine lv_aload_n hx hb dX4_cover_19 rfl (lv_at hl 1 rfl) ?_
      refine m_getr E hM fs_X4_15 ho.1 (isO_at ho 1 rfl).1 dX4_cover_20 ?_
      refine lv_iload_n hx hb dX4_cover_23 rfl (lv_at hl 0 rfl) ?_
      obtain ⟨hv, hw⟩ := hw
      refine m_iald E hM (isO_at ho 1 rfl).2 hv dX4_cover_24 ?_
      refine lv_iload_n hx hb dX4_cover_25 rfl (lv_at hl 2 rfl) ?_
      refine m_ci (m_runSN E hM hS cs_X4_72 (c_X11_has  hw) rfl rfl ⟨Nat.le_of_ble_eq_true rfl, Nat.le_of_ble_eq_true rfl⟩ rfl hl.1 rfl (Nat.le_of_ble_eq_true rfl) dX4_cover_26 ⟨Nat.le_of_ble_eq_true rfl, Nat.le_of_ble_eq_true rfl⟩) hS (fun r9 u H locs hp hM hS => ?_)
      obtain ⟨b2, rfl, rfl, hw⟩ := hp
      refine lv_if_eq (tgt := 36) hx hb dX4_cover_29 (by decide) (fun cq => ?_) (fun cq => ?_)
      · have hw := hw.1 (bI_f cq)
        refine lv_iconst (v := 0) hx hb dX4_cover_36 (by decide) ?_
        exact m_retz hx hb hr hlk (Or.inl rfl) hM hS ⟨false, rfl, rfl, hw⟩ dX4_cover_37
      · have hw := hw.2 (bI_t cq)
        refine lv_iconst (v := 1) hx hb dX4_cover_32 (by decide) ?_
        refine lv_goto (tgt := 37) hx hb dX4_cover_33 (by decide) ?_
        exact m_retz hx hb hr hlk (Or.inr rfl) hM hS ⟨true, rfl, rfl, hw⟩ dX4_cover_37
theorem dX5_isBlank_0 : decode cX5_isBlank 0 = .ok (.iload_n 0, 1) := by decide +kernel
theorem dX5_isBlank_1 : decode cX5_isBlank 1 = .ok (.bipush 10, 2) := by decide +kernel
theorem dX5_isBlank_3 : decode cX5_isBlank 3 = .ok (.if_icmp .eq 9, 3) := by decide +kernel
theorem dX5_isBlank_6 : decode cX5_isBlank 6 = .ok (.iload_n 0, 1) := by decide +kernel
theorem dX5_isBlank_7 : decode cX5_isBlank 7 = .ok (.bipush 32, 2) := by decide +kernel
theorem dX5_isBlank_9 : decode cX5_isBlank 9 = .ok (.if_icmp .ne 7, 3) := by decide +kernel
theorem dX5_isBlank_12 : decode cX5_isBlank 12 = .ok (.iconst 1, 1) := by decide +kernel
theorem dX5_isBlank_13 : decode cX5_isBlank 13 = .ok (.goto 4, 3) := by decide +kernel
theorem dX5_isBlank_16 : decode cX5_isBlank 16 = .ok (.iconst 0, 1) := by decide +kernel
theorem dX5_isBlank_17 : decode cX5_isBlank 17 = .ok (.ireturn, 1) := by decide +kernel
def w_X5_isBlank (a1 : Int32) (post : Bool → Prop) : Prop := (a1 = 10 → post true) ∧ (¬ a1 = 10 → (¬ a1 = 32 → post false) ∧ (a1 = 32 → post true))
set_option maxRecDepth 100000 in
set_option maxHeartbeats 4000000 in
theorem c_X5_isBlank {l : Launch} {D : va_G} {cA : Nat → ClassId} {Z : mZ} {bs : Ad} {n : Nat} {K : mK} {R : mR} {I : mI} {L : mL} {a1 : Int32} {post : Bool → Prop}  (hw : w_X5_isBlank a1 post) : Met l yX5_isBlank (.code yX5_isBlank cX5_isBlank 1 (some .boolean) :: gw) ({ frames := 0, cells := 0, slots := 0, locals := 0 } : Room) (PreM D cA Z bs (n, K, R, I, L) [.int a1]) (QI D cA bs (fun r u => ∃ b, r = bI b ∧ u = (n, K, R, I, L) ∧ post b)) 0 0 (Ab bs) := by
  refine m_met (by decide) (Nat.le_of_ble_eq_true rfl) (fun p e s m below meth c ls E hr hlk hM hS hl => ?_)
  have E : Ev p s m _ c cX5_isBlank 1 RX5 D cA Z bs := E
  have hl : lv_has ls 1 [(0, .int a1)] := hl
  have hx := E.1.1
  have hb := E.1.2.1
  generalize hHe : s.heap = H at hM ⊢
  have hS : va_S (Ab bs) s.heap H [] := by rw [← hHe]; exact va_S.rf
  clear hHe
  refine lv_iload_n hx hb dX5_isBlank_0 rfl (lv_at hl 0 rfl) ?_
  refine lv_bipush (v := 10) hx hb dX5_isBlank_1 (by decide) ?_
  refine lv_icmp_eq (tgt := 12) hx hb dX5_isBlank_3 (by decide) (fun cq => ?_) (fun cq => ?_)
  · have hw := hw.1 cq
    refine lv_iconst (v := 1) hx hb dX5_isBlank_12 (by decide) ?_
    refine lv_goto (tgt := 17) hx hb dX5_isBlank_13 (by decide) ?_
    exact m_retz hx hb hr hlk (Or.inr rfl) hM hS ⟨true, rfl, rfl, hw⟩ dX5_isBlank_17
  · have hw := hw.2 cq
    refine lv_iload_n hx hb dX5_isBlank_6 rfl (lv_at hl 0 rfl) ?_
    refine lv_bipush (v := 32) hx hb dX5_isBlank_7 (by decide) ?_
    refine lv_icmp_ne (tgt := 16) hx hb dX5_isBlank_9 (by decide) (fun cq => ?_) (fun cq => ?_)
    · have hw := hw.1 cq
      refine lv_iconst (v := 0) hx hb dX5_isBlank_16 (by decide) ?_
      exact m_retz hx hb hr hlk (Or.inl rfl) hM hS ⟨false, rfl, rfl, hw⟩ dX5_isBlank_17
    · have hw := hw.2 cq
      refine lv_iconst (v := 1) hx hb dX5_isBlank_12 (by decide) ?_
      refine lv_goto (tgt := 17) hx hb dX5_isBlank_13 (by decide) ?_
      exact m_retz hx hb hr hlk (Or.inr rfl) hM hS ⟨true, rfl, rfl, hw⟩ dX5_isBlank_17
theorem dX5_isLetter_0 : decode cX5_isLetter 0 = .ok (.iload_n 0, 1) := by decide +kernel
theorem dX5_isLetter_1 : decode cX5_isLetter 1 = .ok (.bipush 97, 2) := by decide +kernel
theorem dX5_isLetter_3 : decode cX5_isLetter 3 = .ok (.if_icmp .lt 13, 3) := by decide +kernel
theorem dX5_isLetter_6 : decode cX5_isLetter 6 = .ok (.iload_n 0, 1) := by decide +kernel
theorem dX5_isLetter_7 : decode cX5_isLetter 7 = .ok (.bipush 122, 2) := by decide +kernel
theorem dX5_isLetter_9 : decode cX5_isLetter 9 = .ok (.if_icmp .gt 7, 3) := by decide +kernel
theorem dX5_isLetter_12 : decode cX5_isLetter 12 = .ok (.iconst 1, 1) := by decide +kernel
theorem dX5_isLetter_13 : decode cX5_isLetter 13 = .ok (.goto 4, 3) := by decide +kernel
theorem dX5_isLetter_16 : decode cX5_isLetter 16 = .ok (.iconst 0, 1) := by decide +kernel
theorem dX5_isLetter_17 : decode cX5_isLetter 17 = .ok (.ireturn, 1) := by decide +kernel
def w_X5_isLetter (a1 : Int32) (post : Bool → Prop) : Prop := (a1 < 97 → post false) ∧ (¬ a1 < 97 → (122 < a1 → post false) ∧ (¬ 122 < a1 → post true))
set_option maxRecDepth 100000 in
set_option maxHeartbeats 4000000 in
theorem c_X5_isLetter {l : Launch} {D : va_G} {cA : Nat → ClassId} {Z : mZ} {bs : Ad} {n : Nat} {K : mK} {R : mR} {I : mI} {L : mL} {a1 : Int32} {post : Bool → Prop}  (hw : w_X5_isLetter a1 post) : Met l yX5_isLetter (.code yX5_isLetter cX5_isLetter 1 (some .boolean) :: gw) ({ frames := 0, cells := 0, slots := 0, locals := 0 } : Room) (PreM D cA Z bs (n, K, R, I, L) [.int a1]) (QI D cA bs (fun r u => ∃ b, r = bI b ∧ u = (n, K, R, I, L) ∧ post b)) 0 0 (Ab bs) := by
  refine m_met (by decide) (Nat.le_of_ble_eq_true rfl) (fun p e s m below meth c ls E hr hlk hM hS hl => ?_)
  have E : Ev p s m _ c cX5_isLetter 1 RX5 D cA Z bs := E
  have hl : lv_has ls 1 [(0, .int a1)] := hl
  have hx := E.1.1
  have hb := E.1.2.1
  generalize hHe : s.heap = H at hM ⊢
  have hS : va_S (Ab bs) s.heap H [] := by rw [← hHe]; exact va_S.rf
  clear hHe
  refine lv_iload_n hx hb dX5_isLetter_0 rfl (lv_at hl 0 rfl) ?_
  refine lv_bipush (v := 97) hx hb dX5_isLetter_1 (by decide) ?_
  refine lv_icmp_lt (tgt := 16) hx hb dX5_isLetter_3 (by decide) (fun cq => ?_) (fun cq => ?_)
  · have hw := hw.1 cq
    refine lv_iconst (v := 0) hx hb dX5_isLetter_16 (by decide) ?_
    exact m_retz hx hb hr hlk (Or.inl rfl) hM hS ⟨false, rfl, rfl, hw⟩ dX5_isLetter_17
  · have hw := hw.2 cq
    refine lv_iload_n hx hb dX5_isLetter_6 rfl (lv_at hl 0 rfl) ?_
    refine lv_bipush (v := 122) hx hb dX5_isLetter_7 (by decide) ?_
    refine lv_icmp_gt (tgt := 16) hx hb dX5_isLetter_9 (by decide) (fun cq => ?_) (fun cq => ?_)
    · have hw := hw.1 cq
      refine lv_iconst (v := 0) hx hb dX5_isLetter_16 (by decide) ?_
      exact m_retz hx hb hr hlk (Or.inl rfl) hM hS ⟨false, rfl, rfl, hw⟩ dX5_isLetter_17
    · have hw := hw.2 cq
      refine lv_iconst (v := 1) hx hb dX5_isLetter_12 (by decide) ?_
      refine lv_goto (tgt := 17) hx hb dX5_isLetter_13 (by decide) ?_
      exact m_retz hx hb hr hlk (Or.inr rfl) hM hS ⟨true, rfl, rfl, hw⟩ dX5_isLetter_17
theorem dX5_readWord_0 : decode cX5_readWord 0 = .ok (.aload_n 0, 1) := by decide +kernel
theorem dX5_readWord_1 : decode cX5_readWord 1 = .ok (.iconst 1, 1) := by decide +kernel
theorem dX5_readWord_2 : decode cX5_readWord 2 = .ok (.putfield 67, 3) := by decide +kernel
theorem dX5_readWord_5 : decode cX5_readWord 5 = .ok (.aload_n 0, 1) := by decide +kernel
theorem dX5_readWord_6 : decode cX5_readWord 6 = .ok (.getfield 43, 3) := by decide +kernel
theorem dX5_readWord_9 : decode cX5_readWord 9 = .ok (.aload_n 0, 1) := by decide +kernel
theorem dX5_readWord_10 : decode cX5_readWord 10 = .ok (.getfield 39, 3) := by decide +kernel
theorem dX5_readWord_13 : decode cX5_readWord 13 = .ok (.if_icmp .ge 31, 3) := by decide +kernel
theorem dX5_readWord_16 : decode cX5_readWord 16 = .ok (.aload_n 0, 1) := by decide +kernel
theorem dX5_readWord_17 : decode cX5_readWord 17 = .ok (.getfield 29, 3) := by decide +kernel
theorem dX5_readWord_20 : decode cX5_readWord 20 = .ok (.aload_n 0, 1) := by decide +kernel
theorem dX5_readWord_21 : decode cX5_readWord 21 = .ok (.getfield 43, 3) := by decide +kernel
theorem dX5_readWord_24 : decode cX5_readWord 24 = .ok (.baload, 1) := by decide +kernel
theorem dX5_readWord_25 : decode cX5_readWord 25 = .ok (.invokestatic 237, 3) := by decide +kernel
theorem dX5_readWord_28 : decode cX5_readWord 28 = .ok (.ifCond .eq 16, 3) := by decide +kernel
theorem dX5_readWord_31 : decode cX5_readWord 31 = .ok (.aload_n 0, 1) := by decide +kernel
theorem dX5_readWord_32 : decode cX5_readWord 32 = .ok (.dup, 1) := by decide +kernel
theorem dX5_readWord_33 : decode cX5_readWord 33 = .ok (.getfield 43, 3) := by decide +kernel
theorem dX5_readWord_36 : decode cX5_readWord 36 = .ok (.iconst 1, 1) := by decide +kernel
theorem dX5_readWord_37 : decode cX5_readWord 37 = .ok (.iadd, 1) := by decide +kernel
theorem dX5_readWord_38 : decode cX5_readWord 38 = .ok (.putfield 43, 3) := by decide +kernel
theorem dX5_readWord_41 : decode cX5_readWord 41 = .ok (.goto (-36), 3) := by decide +kernel
theorem dX5_readWord_44 : decode cX5_readWord 44 = .ok (.return_, 1) := by decide +kernel
def w_X5_readWord_5 (o : Nat) (otp : Nat) (post : mI → Prop) (I : mI) : Prop := ∀ ZZ : (mI → Prop), (∀ (I : mI), (((I o 5) ≤ (I o 6) → post I) ∧ (¬ (I o 5) ≤ (I o 6) → vp_in (I o 6) 600 ∧ w_X5_isLetter (I otp (I o 6).toNatClampNeg) (fun b2 => (b2 = false → post I) ∧ (b2 = true → ∀ I3, I3 = up2 I o 6 ((I o 6) + 1) → ZZ I3)))) → ZZ I) → ZZ I
set_option maxRecDepth 100000 in
set_option maxHeartbeats 4000000 in
theorem s_X5_readWord_5 {p : Program} {l : Launch} {e : Env} {s : State} {m : MethodId} {args : Array Value} {below : List Frame} {meth : Method} {c : Code} {D : va_G} {cA : Nat → ClassId} {Z : mZ} {bs : Ad} {n : Nat} {K : mK} {R : mR} {L : mL} (E : Ev p s m args c cX5_readWord 1 RX5 D cA Z bs) (hr : meth.sig.returnType = none) (hlk : meth.locks = false) {o : Nat} {otp : Nat} (ho : isX5 K R o otp) {post : mI → Prop} {I : mI} {H : Heap} {locs : List Loc} {ls : Array Slot} (hw : w_X5_readWord_5 o otp post I) (hM : mm D cA bs (n, K, R, I, L) H) (hS : va_S (Ab bs) s.heap H locs) (hl : lv_has ls 1 [(0, .ref (ad bs o))]) : W p l e ({ frames := 1, cells := 0, slots := 0, locals := 20 } : Room) s m args below meth c H locs 0 0 (MQ below (QV D cA bs (fun u => ∃ I', u = (n, K, R, I', L) ∧ post I')) args s 0 0 (Ab bs)) (F0 m 5 ls []) := by
  have hx := E.1.1
  have hb := E.1.2.1
  refine hw (fun I => ∀ (H : Heap) (locs : List Loc) (ls : Array Slot), mm D cA bs (n, K, R, I, L) H → va_S (Ab bs) s.heap H locs → lv_has ls 1 [(0, .ref (ad bs o))] → W p l e ({ frames := 1, cells := 0, slots := 0, locals := 20 } : Room) s m args below meth c H locs 0 0 (MQ below (QV D cA bs (fun u => ∃ I', u = (n, K, R, I', L) ∧ post I')) args s 0 0 (Ab bs)) (F0 m 5 ls [])) ?_ H locs ls hM hS hl
  clear hw hM hS hl
  intro I hw H locs ls hM hS hl
  refine lv_aload_n hx hb dX5_readWord_5 rfl (lv_at hl 0 rfl) ?_
  refine m_geti E hM fs_X5_43 ho.1.1 dX5_readWord_6 ?_
  refine lv_aload_n hx hb dX5_readWord_9 rfl (lv_at hl 0 rfl) ?_
  refine m_geti E hM fs_X5_39 ho.1.1 dX5_readWord_10 ?_
  refine lv_icmp_ge (tgt := 44) hx hb dX5_readWord_13 (by decide) (fun cq => ?_) (fun cq => ?_)
  · have hw := hw.1 cq
    exact m_retv hx hb hr hlk hM hS ⟨_, rfl, hw⟩ dX5_readWord_44
  · have hw := hw.2 cq
    refine lv_aload_n hx hb dX5_readWord_16 rfl (lv_at hl 0 rfl) ?_
    refine m_getr E hM fs_X5_29 ho.1.1 ho.2.2.2.1 dX5_readWord_17 ?_
    refine lv_aload_n hx hb dX5_readWord_20 rfl (lv_at hl 0 rfl) ?_
    refine m_geti E hM fs_X5_43 ho.1.1 dX5_readWord_21 ?_
    obtain ⟨hv, hw⟩ := hw
    refine m_bald E hM ho.2.2.2.2 hv dX5_readWord_24 ?_
    refine m_ci (m_runS E hM hS cs_X5_237 (c_X5_isLetter  hw) rfl rfl ⟨Nat.le_of_ble_eq_true rfl, Nat.le_of_ble_eq_true rfl⟩ rfl hl.1 rfl (Nat.le_of_ble_eq_true rfl) dX5_readWord_25 ⟨Nat.le_of_ble_eq_true rfl, Nat.le_of_ble_eq_true rfl⟩) hS (fun r9 u H locs hp hM hS => ?_)
    obtain ⟨b2, rfl, rfl, hw⟩ := hp
    refine lv_if_eq (tgt := 44) hx hb dX5_readWord_28 (by decide) (fun cq => ?_) (fun cq => ?_)
    · have hw := hw.1 (bI_f cq)
      exact m_retv hx hb hr hlk hM hS ⟨_, rfl, hw⟩ dX5_readWord_44
    · have hw := hw.2 (bI_t cq)
      refine lv_aload_n hx hb dX5_readWord_31 rfl (lv_at hl 0 rfl) ?_
      refine lv_dup hx hb dX5_readWord_32 rfl ?_
      refine m_geti E hM fs_X5_43 ho.1.1 dX5_readWord_33 ?_
      refine lv_iconst (v := 1) hx hb dX5_readWord_36 (by decide) ?_
      refine lv_iadd hx hb dX5_readWord_37 ?_
      refine m_puti E hM hS fp_X5_43 ho.1.1 rfl rfl dX5_readWord_38 (fun I3 H locs eI3 hM hS => ?_)
      have hw := hw I3 eI3
      refine lv_goto (tgt := 5) hx hb dX5_readWord_41 (by decide) ?_
      exact hw H locs ls  hM hS (lv_sub hl [0] rfl)
def w_X5_readWord (I : mI) (o : Nat) (otp : Nat) (post : mI → Prop) : Prop := ∀ I1, I1 = up2 I o 7 1 → (w_X5_readWord_5 o otp post) I1
set_option maxRecDepth 100000 in
set_option maxHeartbeats 4000000 in
theorem c_X5_readWord {l : Launch} {D : va_G} {cA : Nat → ClassId} {Z : mZ} {bs : Ad} {n : Nat} {K : mK} {R : mR} {I : mI} {L : mL} {o : Nat} {otp : Nat} {post : mI → Prop} (ho : isX5 K R o otp) (hw : w_X5_readWord I o otp post) : Met l yX5_readWord (.code yX5_readWord cX5_readWord 1 none :: gw) ({ frames := 1, cells := 0, slots := 0, locals := 20 } : Room) (PreM D cA Z bs (n, K, R, I, L) [.ref (ad bs o)]) (QV D cA bs (fun u => ∃ I', u = (n, K, R, I', L) ∧ post I')) 0 0 (Ab bs) := by
  refine m_met (by decide) (Nat.le_of_ble_eq_true rfl) (fun p e s m below meth c ls E hr hlk hM hS hl => ?_)
  have E : Ev p s m _ c cX5_readWord 1 RX5 D cA Z bs := E
  have hl : lv_has ls 1 [(0, .ref (ad bs o))] := hl
  have hx := E.1.1
  have hb := E.1.2.1
  generalize hHe : s.heap = H at hM ⊢
  have hS : va_S (Ab bs) s.heap H [] := by rw [← hHe]; exact va_S.rf
  clear hHe
  refine lv_aload_n hx hb dX5_readWord_0 rfl (lv_at hl 0 rfl) ?_
  refine lv_iconst (v := 1) hx hb dX5_readWord_1 (by decide) ?_
  refine m_puti E hM hS fp_X5_67 ho.1.1 rfl rfl dX5_readWord_2 (fun I1 H locs eI1 hM hS => ?_)
  have hw := hw I1 eI1
  exact s_X5_readWord_5 E hr hlk ho  hw hM hS (lv_sub hl [0] rfl)
theorem dX5_isDigit_0 : decode cX5_isDigit 0 = .ok (.iload_n 0, 1) := by decide +kernel
theorem dX5_isDigit_1 : decode cX5_isDigit 1 = .ok (.bipush 48, 2) := by decide +kernel
theorem dX5_isDigit_3 : decode cX5_isDigit 3 = .ok (.if_icmp .lt 13, 3) := by decide +kernel
theorem dX5_isDigit_6 : decode cX5_isDigit 6 = .ok (.iload_n 0, 1) := by decide +kernel
theorem dX5_isDigit_7 : decode cX5_isDigit 7 = .ok (.bipush 57, 2) := by decide +kernel
theorem dX5_isDigit_9 : decode cX5_isDigit 9 = .ok (.if_icmp .gt 7, 3) := by decide +kernel
theorem dX5_isDigit_12 : decode cX5_isDigit 12 = .ok (.iconst 1, 1) := by decide +kernel
theorem dX5_isDigit_13 : decode cX5_isDigit 13 = .ok (.goto 4, 3) := by decide +kernel
theorem dX5_isDigit_16 : decode cX5_isDigit 16 = .ok (.iconst 0, 1) := by decide +kernel
theorem dX5_isDigit_17 : decode cX5_isDigit 17 = .ok (.ireturn, 1) := by decide +kernel
def w_X5_isDigit (a1 : Int32) (post : Bool → Prop) : Prop := (a1 < 48 → post false) ∧ (¬ a1 < 48 → (57 < a1 → post false) ∧ (¬ 57 < a1 → post true))
set_option maxRecDepth 100000 in
set_option maxHeartbeats 4000000 in
theorem c_X5_isDigit {l : Launch} {D : va_G} {cA : Nat → ClassId} {Z : mZ} {bs : Ad} {n : Nat} {K : mK} {R : mR} {I : mI} {L : mL} {a1 : Int32} {post : Bool → Prop}  (hw : w_X5_isDigit a1 post) : Met l yX5_isDigit (.code yX5_isDigit cX5_isDigit 1 (some .boolean) :: gw) ({ frames := 0, cells := 0, slots := 0, locals := 0 } : Room) (PreM D cA Z bs (n, K, R, I, L) [.int a1]) (QI D cA bs (fun r u => ∃ b, r = bI b ∧ u = (n, K, R, I, L) ∧ post b)) 0 0 (Ab bs) := by
  refine m_met (by decide) (Nat.le_of_ble_eq_true rfl) (fun p e s m below meth c ls E hr hlk hM hS hl => ?_)
  have E : Ev p s m _ c cX5_isDigit 1 RX5 D cA Z bs := E
  have hl : lv_has ls 1 [(0, .int a1)] := hl
  have hx := E.1.1
  have hb := E.1.2.1
  generalize hHe : s.heap = H at hM ⊢
  have hS : va_S (Ab bs) s.heap H [] := by rw [← hHe]; exact va_S.rf
  clear hHe
  refine lv_iload_n hx hb dX5_isDigit_0 rfl (lv_at hl 0 rfl) ?_
  refine lv_bipush (v := 48) hx hb dX5_isDigit_1 (by decide) ?_
  refine lv_icmp_lt (tgt := 16) hx hb dX5_isDigit_3 (by decide) (fun cq => ?_) (fun cq => ?_)
  · have hw := hw.1 cq
    refine lv_iconst (v := 0) hx hb dX5_isDigit_16 (by decide) ?_
    exact m_retz hx hb hr hlk (Or.inl rfl) hM hS ⟨false, rfl, rfl, hw⟩ dX5_isDigit_17
  · have hw := hw.2 cq
    refine lv_iload_n hx hb dX5_isDigit_6 rfl (lv_at hl 0 rfl) ?_
    refine lv_bipush (v := 57) hx hb dX5_isDigit_7 (by decide) ?_
    refine lv_icmp_gt (tgt := 16) hx hb dX5_isDigit_9 (by decide) (fun cq => ?_) (fun cq => ?_)
    · have hw := hw.1 cq
      refine lv_iconst (v := 0) hx hb dX5_isDigit_16 (by decide) ?_
      exact m_retz hx hb hr hlk (Or.inl rfl) hM hS ⟨false, rfl, rfl, hw⟩ dX5_isDigit_17
    · have hw := hw.2 cq
      refine lv_iconst (v := 1) hx hb dX5_isDigit_12 (by decide) ?_
      refine lv_goto (tgt := 17) hx hb dX5_isDigit_13 (by decide) ?_
      exact m_retz hx hb hr hlk (Or.inr rfl) hM hS ⟨true, rfl, rfl, hw⟩ dX5_isDigit_17
theorem dX5_readNumber_0 : decode cX5_readNumber 0 = .ok (.aload_n 0, 1) := by decide +kernel
theorem dX5_readNumber_1 : decode cX5_readNumber 1 = .ok (.iconst 0, 1) := by decide +kernel
theorem dX5_readNumber_2 : decode cX5_readNumber 2 = .ok (.putfield 153, 3) := by decide +kernel
theorem dX5_readNumber_5 : decode cX5_readNumber 5 = .ok (.aload_n 0, 1) := by decide +kernel
theorem dX5_readNumber_6 : decode cX5_readNumber 6 = .ok (.getfield 43, 3) := by decide +kernel
theorem dX5_readNumber_9 : decode cX5_readNumber 9 = .ok (.aload_n 0, 1) := by decide +kernel
theorem dX5_readNumber_10 : decode cX5_readNumber 10 = .ok (.getfield 39, 3) := by decide +kernel
theorem dX5_readNumber_13 : decode cX5_readNumber 13 = .ok (.if_icmp .ge 68, 3) := by decide +kernel
theorem dX5_readNumber_16 : decode cX5_readNumber 16 = .ok (.aload_n 0, 1) := by decide +kernel
theorem dX5_readNumber_17 : decode cX5_readNumber 17 = .ok (.getfield 29, 3) := by decide +kernel
theorem dX5_readNumber_20 : decode cX5_readNumber 20 = .ok (.aload_n 0, 1) := by decide +kernel
theorem dX5_readNumber_21 : decode cX5_readNumber 21 = .ok (.getfield 43, 3) := by decide +kernel
theorem dX5_readNumber_24 : decode cX5_readNumber 24 = .ok (.baload, 1) := by decide +kernel
theorem dX5_readNumber_25 : decode cX5_readNumber 25 = .ok (.invokestatic 243, 3) := by decide +kernel
theorem dX5_readNumber_28 : decode cX5_readNumber 28 = .ok (.ifCond .eq 53, 3) := by decide +kernel
theorem dX5_readNumber_31 : decode cX5_readNumber 31 = .ok (.aload_n 0, 1) := by decide +kernel
theorem dX5_readNumber_32 : decode cX5_readNumber 32 = .ok (.getfield 43, 3) := by decide +kernel
theorem dX5_readNumber_35 : decode cX5_readNumber 35 = .ok (.aload_n 0, 1) := by decide +kernel
theorem dX5_readNumber_36 : decode cX5_readNumber 36 = .ok (.getfield 95, 3) := by decide +kernel
theorem dX5_readNumber_39 : decode cX5_readNumber 39 = .ok (.isub, 1) := by decide +kernel
theorem dX5_readNumber_40 : decode cX5_readNumber 40 = .ok (.iconst 2, 1) := by decide +kernel
theorem dX5_readNumber_41 : decode cX5_readNumber 41 = .ok (.if_icmp .ge 27, 3) := by decide +kernel
theorem dX5_readNumber_44 : decode cX5_readNumber 44 = .ok (.aload_n 0, 1) := by decide +kernel
theorem dX5_readNumber_45 : decode cX5_readNumber 45 = .ok (.aload_n 0, 1) := by decide +kernel
theorem dX5_readNumber_46 : decode cX5_readNumber 46 = .ok (.getfield 153, 3) := by decide +kernel
theorem dX5_readNumber_49 : decode cX5_readNumber 49 = .ok (.bipush 10, 2) := by decide +kernel
theorem dX5_readNumber_51 : decode cX5_readNumber 51 = .ok (.imul, 1) := by decide +kernel
theorem dX5_readNumber_52 : decode cX5_readNumber 52 = .ok (.aload_n 0, 1) := by decide +kernel
theorem dX5_readNumber_53 : decode cX5_readNumber 53 = .ok (.getfield 29, 3) := by decide +kernel
theorem dX5_readNumber_56 : decode cX5_readNumber 56 = .ok (.aload_n 0, 1) := by decide +kernel
theorem dX5_readNumber_57 : decode cX5_readNumber 57 = .ok (.getfield 43, 3) := by decide +kernel
theorem dX5_readNumber_60 : decode cX5_readNumber 60 = .ok (.baload, 1) := by decide +kernel
theorem dX5_readNumber_61 : decode cX5_readNumber 61 = .ok (.iadd, 1) := by decide +kernel
theorem dX5_readNumber_62 : decode cX5_readNumber 62 = .ok (.bipush 48, 2) := by decide +kernel
theorem dX5_readNumber_64 : decode cX5_readNumber 64 = .ok (.isub, 1) := by decide +kernel
theorem dX5_readNumber_65 : decode cX5_readNumber 65 = .ok (.putfield 153, 3) := by decide +kernel
theorem dX5_readNumber_68 : decode cX5_readNumber 68 = .ok (.aload_n 0, 1) := by decide +kernel
theorem dX5_readNumber_69 : decode cX5_readNumber 69 = .ok (.dup, 1) := by decide +kernel
theorem dX5_readNumber_70 : decode cX5_readNumber 70 = .ok (.getfield 43, 3) := by decide +kernel
theorem dX5_readNumber_73 : decode cX5_readNumber 73 = .ok (.iconst 1, 1) := by decide +kernel
theorem dX5_readNumber_74 : decode cX5_readNumber 74 = .ok (.iadd, 1) := by decide +kernel
theorem dX5_readNumber_75 : decode cX5_readNumber 75 = .ok (.putfield 43, 3) := by decide +kernel
theorem dX5_readNumber_78 : decode cX5_readNumber 78 = .ok (.goto (-73), 3) := by decide +kernel
theorem dX5_readNumber_81 : decode cX5_readNumber 81 = .ok (.aload_n 0, 1) := by decide +kernel
theorem dX5_readNumber_82 : decode cX5_readNumber 82 = .ok (.aload_n 0, 1) := by decide +kernel
theorem dX5_readNumber_83 : decode cX5_readNumber 83 = .ok (.getfield 43, 3) := by decide +kernel
theorem dX5_readNumber_86 : decode cX5_readNumber 86 = .ok (.aload_n 0, 1) := by decide +kernel
theorem dX5_readNumber_87 : decode cX5_readNumber 87 = .ok (.getfield 95, 3) := by decide +kernel
theorem dX5_readNumber_90 : decode cX5_readNumber 90 = .ok (.isub, 1) := by decide +kernel
theorem dX5_readNumber_91 : decode cX5_readNumber 91 = .ok (.iconst 2, 1) := by decide +kernel
theorem dX5_readNumber_92 : decode cX5_readNumber 92 = .ok (.if_icmp .gt 7, 3) := by decide +kernel
theorem dX5_readNumber_95 : decode cX5_readNumber 95 = .ok (.iconst 2, 1) := by decide +kernel
theorem dX5_readNumber_96 : decode cX5_readNumber 96 = .ok (.goto 4, 3) := by decide +kernel
theorem dX5_readNumber_99 : decode cX5_readNumber 99 = .ok (.iconst 5, 1) := by decide +kernel
theorem dX5_readNumber_100 : decode cX5_readNumber 100 = .ok (.putfield 67, 3) := by decide +kernel
theorem dX5_readNumber_103 : decode cX5_readNumber 103 = .ok (.return_, 1) := by decide +kernel
def w_X5_readNumber_68 (o : Nat) (otp : Nat) (post : mI → Prop) (k5 : mI → Prop) (I : mI) : Prop := ∀ I4, I4 = up2 I o 6 ((I o 6) + 1) → k5 I4
set_option maxRecDepth 100000 in
set_option maxHeartbeats 4000000 in
theorem s_X5_readNumber_68 {p : Program} {l : Launch} {e : Env} {s : State} {m : MethodId} {args : Array Value} {below : List Frame} {meth : Method} {c : Code} {D : va_G} {cA : Nat → ClassId} {Z : mZ} {bs : Ad} {n : Nat} {K : mK} {R : mR} {L : mL} (E : Ev p s m args c cX5_readNumber 1 RX5 D cA Z bs) (hr : meth.sig.returnType = none) (hlk : meth.locks = false) {o : Nat} {otp : Nat} (ho : isX5 K R o otp) {post : mI → Prop} {k5 : mI → Prop} (hk5 : ∀ (I : mI) (H : Heap) (locs : List Loc) (ls : Array Slot), k5 I → mm D cA bs (n, K, R, I, L) H → va_S (Ab bs) s.heap H locs → lv_has ls 1 [(0, .ref (ad bs o))] → W p l e ({ frames := 1, cells := 0, slots := 0, locals := 20 } : Room) s m args below meth c H locs 0 0 (MQ below (QV D cA bs (fun u => ∃ I', u = (n, K, R, I', L) ∧ post I')) args s 0 0 (Ab bs)) (F0 m 5 ls [])) {I : mI} {H : Heap} {locs : List Loc} {ls : Array Slot} (hw : w_X5_readNumber_68 o otp post k5 I) (hM : mm D cA bs (n, K, R, I, L) H) (hS : va_S (Ab bs) s.heap H locs) (hl : lv_has ls 1 [(0, .ref (ad bs o))]) : W p l e ({ frames := 1, cells := 0, slots := 0, locals := 20 } : Room) s m args below meth c H locs 0 0 (MQ below (QV D cA bs (fun u => ∃ I', u = (n, K, R, I', L) ∧ post I')) args s 0 0 (Ab bs)) (F0 m 68 ls []) := by
  have hx := E.1.1
  have hb := E.1.2.1
  refine lv_aload_n hx hb dX5_readNumber_68 rfl (lv_at hl 0 rfl) ?_
  refine lv_dup hx hb dX5_readNumber_69 rfl ?_
  refine m_geti E hM fs_X5_43 ho.1.1 dX5_readNumber_70 ?_
  refine lv_iconst (v := 1) hx hb dX5_readNumber_73 (by decide) ?_
  refine lv_iadd hx hb dX5_readNumber_74 ?_
  refine m_puti E hM hS fp_X5_43 ho.1.1 rfl rfl dX5_readNumber_75 (fun I4 H locs eI4 hM hS => ?_)
  have hw := hw I4 eI4
  refine lv_goto (tgt := 5) hx hb dX5_readNumber_78 (by decide) ?_
  exact hk5 _ H locs ls  hw hM hS (lv_sub hl [0] rfl)
def w_X5_readNumber_5 (o : Nat) (otp : Nat) (post : mI → Prop) (k81 : mI → Prop) (I : mI) : Prop := ∀ ZZ : (mI → Prop), (∀ (I : mI), (((I o 5) ≤ (I o 6) → k81 I) ∧ (¬ (I o 5) ≤ (I o 6) → vp_in (I o 6) 600 ∧ w_X5_isDigit (I otp (I o 6).toNatClampNeg) (fun b2 => (b2 = false → k81 I) ∧ (b2 = true → (2 ≤ ((I o 6) - (I o 8)) → (w_X5_readNumber_68 o otp post ZZ) I) ∧ (¬ 2 ≤ ((I o 6) - (I o 8)) → vp_in (I o 6) 600 ∧ ∀ I3, I3 = up2 I o 9 ((((I o 9) * 10) + (I otp (I o 6).toNatClampNeg)) - 48) → (w_X5_readNumber_68 o otp post ZZ) I3))))) → ZZ I) → ZZ I
set_option maxRecDepth 100000 in
set_option maxHeartbeats 4000000 in
theorem s_X5_readNumber_5 {p : Program} {l : Launch} {e : Env} {s : State} {m : MethodId} {args : Array Value} {below : List Frame} {meth : Method} {c : Code} {D : va_G} {cA : Nat → ClassId} {Z : mZ} {bs : Ad} {n : Nat} {K : mK} {R : mR} {L : mL} (E : Ev p s m args c cX5_readNumber 1 RX5 D cA Z bs) (hr : meth.sig.returnType = none) (hlk : meth.locks = false) {o : Nat} {otp : Nat} (ho : isX5 K R o otp) {post : mI → Prop} {k81 : mI → Prop} (hk81 : ∀ (I : mI) (H : Heap) (locs : List Loc) (ls : Array Slot), k81 I → mm D cA bs (n, K, R, I, L) H → va_S (Ab bs) s.heap H locs → lv_has ls 1 [(0, .ref (ad bs o))] → W p l e ({ frames := 1, cells := 0, slots := 0, locals := 20 } : Room) s m args below meth c H locs 0 0 (MQ below (QV D cA bs (fun u => ∃ I', u = (n, K, R, I', L) ∧ post I')) args s 0 0 (Ab bs)) (F0 m 81 ls [])) {I : mI} {H : Heap} {locs : List Loc} {ls : Array Slot} (hw : w_X5_readNumber_5 o otp post k81 I) (hM : mm D cA bs (n, K, R, I, L) H) (hS : va_S (Ab bs) s.heap H locs) (hl : lv_has ls 1 [(0, .ref (ad bs o))]) : W p l e ({ frames := 1, cells := 0, slots := 0, locals := 20 } : Room) s m args below meth c H locs 0 0 (MQ below (QV D cA bs (fun u => ∃ I', u = (n, K, R, I', L) ∧ post I')) args s 0 0 (Ab bs)) (F0 m 5 ls []) := by
  have hx := E.1.1
  have hb := E.1.2.1
  refine hw (fun I => ∀ (H : Heap) (locs : List Loc) (ls : Array Slot), mm D cA bs (n, K, R, I, L) H → va_S (Ab bs) s.heap H locs → lv_has ls 1 [(0, .ref (ad bs o))] → W p l e ({ frames := 1, cells := 0, slots := 0, locals := 20 } : Room) s m args below meth c H locs 0 0 (MQ below (QV D cA bs (fun u => ∃ I', u = (n, K, R, I', L) ∧ post I')) args s 0 0 (Ab bs)) (F0 m 5 ls [])) ?_ H locs ls hM hS hl
  clear hw hM hS hl
  intro I hw H locs ls hM hS hl
  refine lv_aload_n hx hb dX5_readNumber_5 rfl (lv_at hl 0 rfl) ?_
  refine m_geti E hM fs_X5_43 ho.1.1 dX5_readNumber_6 ?_
  refine lv_aload_n hx hb dX5_readNumber_9 rfl (lv_at hl 0 rfl) ?_
  refine m_geti E hM fs_X5_39 ho.1.1 dX5_readNumber_10 ?_
  refine lv_icmp_ge (tgt := 81) hx hb dX5_readNumber_13 (by decide) (fun cq => ?_) (fun cq => ?_)
  · have hw := hw.1 cq
    exact hk81 _ H locs ls  hw hM hS (lv_sub hl [0] rfl)
  · have hw := hw.2 cq
    refine lv_aload_n hx hb dX5_readNumber_16 rfl (lv_at hl 0 rfl) ?_
    refine m_getr E hM fs_X5_29 ho.1.1 ho.2.2.2.1 dX5_readNumber_17 ?_
    refine lv_aload_n hx hb dX5_readNumber_20 rfl (lv_at hl 0 rfl) ?_
    refine m_geti E hM fs_X5_43 ho.1.1 dX5_readNumber_21 ?_
    obtain ⟨hv, hw⟩ := hw
    refine m_bald E hM ho.2.2.2.2 hv dX5_readNumber_24 ?_
    refine m_ci (m_runS E hM hS cs_X5_243 (c_X5_isDigit  hw) rfl rfl ⟨Nat.le_of_ble_eq_true rfl, Nat.le_of_ble_eq_true rfl⟩ rfl hl.1 rfl (Nat.le_of_ble_eq_true rfl) dX5_readNumber_25 ⟨Nat.le_of_ble_eq_true rfl, Nat.le_of_ble_eq_true rfl⟩) hS (fun r9 u H locs hp hM hS => ?_)
    obtain ⟨b2, rfl, rfl, hw⟩ := hp
    refine lv_if_eq (tgt := 81) hx hb dX5_readNumber_28 (by decide) (fun cq => ?_) (fun cq => ?_)
    · have hw := hw.1 (bI_f cq)
      exact hk81 _ H locs ls  hw hM hS (lv_sub hl [0] rfl)
    · have hw := hw.2 (bI_t cq)
      refine lv_aload_n hx hb dX5_readNumber_31 rfl (lv_at hl 0 rfl) ?_
      refine m_geti E hM fs_X5_43 ho.1.1 dX5_readNumber_32 ?_
      refine lv_aload_n hx hb dX5_readNumber_35 rfl (lv_at hl 0 rfl) ?_
      refine m_geti E hM fs_X5_95 ho.1.1 dX5_readNumber_36 ?_
      refine lv_isub hx hb dX5_readNumber_39 ?_
      refine lv_iconst (v := 2) hx hb dX5_readNumber_40 (by decide) ?_
      refine lv_icmp_ge (tgt := 68) hx hb dX5_readNumber_41 (by decide) (fun cq => ?_) (fun cq => ?_)
      · have hw := hw.1 cq
        exact s_X5_readNumber_68 E hr hlk ho (fun I H locs ls  hw hM hS hl => hw H locs ls  hM hS hl)  hw hM hS (lv_sub hl [0] rfl)
      · have hw := hw.2 cq
        refine lv_aload_n hx hb dX5_readNumber_44 rfl (lv_at hl 0 rfl) ?_
        refine lv_aload_n hx hb dX5_readNumber_45 rfl (lv_at hl 0 rfl) ?_
        refine m_geti E hM fs_X5_153 ho.1.1 dX5_readNumber_46 ?_
        refine lv_bipush (v := 10) hx hb dX5_readNumber_49 (by decide) ?_
        refine lv_imul hx hb dX5_readNumber_51 ?_
        refine lv_aload_n hx hb dX5_readNumber_52 rfl (lv_at hl 0 rfl) ?_
        refine m_getr E hM fs_X5_29 ho.1.1 ho.2.2.2.1 dX5_readNumber_53 ?_
        refine lv_aload_n hx hb dX5_readNumber_56 rfl (lv_at hl 0 rfl) ?_
        refine m_geti E hM fs_X5_43 ho.1.1 dX5_readNumber_57 ?_
        obtain ⟨hv, hw⟩ := hw
        refine m_bald E hM ho.2.2.2.2 hv dX5_readNumber_60 ?_
        refine lv_iadd hx hb dX5_readNumber_61 ?_
        refine lv_bipush (v := 48) hx hb dX5_readNumber_62 (by decide) ?_
        refine lv_isub hx hb dX5_readNumber_64 ?_
        refine m_puti E hM hS fp_X5_153 ho.1.1 rfl rfl dX5_readNumber_65 (fun I3 H locs eI3 hM hS => ?_)
        have hw := hw I3 eI3
        exact s_X5_readNumber_68 E hr hlk ho (fun I H locs ls  hw hM hS hl => hw H locs ls  hM hS hl)  hw hM hS (lv_sub hl [0] rfl)
def w_X5_readNumber_100 (o : Nat) (otp : Nat) (post : mI → Prop) (I : mI) (s1 : Int32) : Prop := ∀ I5, I5 = up2 I o 7 s1 → post I5
set_option maxRecDepth 100000 in
set_option maxHeartbeats 4000000 in
theorem s_X5_readNumber_100 {p : Program} {l : Launch} {e : Env} {s : State} {m : MethodId} {args : Array Value} {below : List Frame} {meth : Method} {c : Code} {D : va_G} {cA : Nat → ClassId} {Z : mZ} {bs : Ad} {n : Nat} {K : mK} {R : mR} {L : mL} (E : Ev p s m args c cX5_readNumber 1 RX5 D cA Z bs) (hr : meth.sig.returnType = none) (hlk : meth.locks = false) {o : Nat} {otp : Nat} (ho : isX5 K R o otp) {post : mI → Prop} {I : mI} {s1 : Int32} {H : Heap} {locs : List Loc} {ls : Array Slot} (hw : w_X5_readNumber_100 o otp post I s1) (hM : mm D cA bs (n, K, R, I, L) H) (hS : va_S (Ab bs) s.heap H locs) (hl : lv_has ls 1 []) : W p l e ({ frames := 1, cells := 0, slots := 0, locals := 20 } : Room) s m args below meth c H locs 0 0 (MQ below (QV D cA bs (fun u => ∃ I', u = (n, K, R, I', L) ∧ post I')) args s 0 0 (Ab bs)) (F0 m 100 ls [.int s1, .ref (ad bs o)]) := by
  have hx := E.1.1
  have hb := E.1.2.1
  refine m_puti E hM hS fp_X5_67 ho.1.1 rfl rfl dX5_readNumber_100 (fun I5 H locs eI5 hM hS => ?_)
  have hw := hw I5 eI5
  exact m_retv hx hb hr hlk hM hS ⟨_, rfl, hw⟩ dX5_readNumber_103
def w_X5_readNumber_81 (o : Nat) (otp : Nat) (post : mI → Prop) (I : mI) : Prop := (2 < ((I o 6) - (I o 8)) → (w_X5_readNumber_100 o otp post) I 5) ∧ (¬ 2 < ((I o 6) - (I o 8)) → (w_X5_readNumber_100 o otp post) I 2)
set_option maxRecDepth 100000 in
set_option maxHeartbeats 4000000 in
theorem s_X5_readNumber_81 {p : Program} {l : Launch} {e : Env} {s : State} {m : MethodId} {args : Array Value} {below : List Frame} {meth : Method} {c : Code} {D : va_G} {cA : Nat → ClassId} {Z : mZ} {bs : Ad} {n : Nat} {K : mK} {R : mR} {L : mL} (E : Ev p s m args c cX5_readNumber 1 RX5 D cA Z bs) (hr : meth.sig.returnType = none) (hlk : meth.locks = false) {o : Nat} {otp : Nat} (ho : isX5 K R o otp) {post : mI → Prop} {I : mI} {H : Heap} {locs : List Loc} {ls : Array Slot} (hw : w_X5_readNumber_81 o otp post I) (hM : mm D cA bs (n, K, R, I, L) H) (hS : va_S (Ab bs) s.heap H locs) (hl : lv_has ls 1 [(0, .ref (ad bs o))]) : W p l e ({ frames := 1, cells := 0, slots := 0, locals := 20 } : Room) s m args below meth c H locs 0 0 (MQ below (QV D cA bs (fun u => ∃ I', u = (n, K, R, I', L) ∧ post I')) args s 0 0 (Ab bs)) (F0 m 81 ls []) := by
  have hx := E.1.1
  have hb := E.1.2.1
  refine lv_aload_n hx hb dX5_readNumber_81 rfl (lv_at hl 0 rfl) ?_
  refine lv_aload_n hx hb dX5_readNumber_82 rfl (lv_at hl 0 rfl) ?_
  refine m_geti E hM fs_X5_43 ho.1.1 dX5_readNumber_83 ?_
  refine lv_aload_n hx hb dX5_readNumber_86 rfl (lv_at hl 0 rfl) ?_
  refine m_geti E hM fs_X5_95 ho.1.1 dX5_readNumber_87 ?_
  refine lv_isub hx hb dX5_readNumber_90 ?_
  refine lv_iconst (v := 2) hx hb dX5_readNumber_91 (by decide) ?_
  refine lv_icmp_gt (tgt := 99) hx hb dX5_readNumber_92 (by decide) (fun cq => ?_) (fun cq => ?_)
  · have hw := hw.1 cq
    refine lv_iconst (v := 5) hx hb dX5_readNumber_99 (by decide) ?_
    exact s_X5_readNumber_100 E hr hlk ho  hw hM hS (lv_sub hl [] rfl)
  · have hw := hw.2 cq
    refine lv_iconst (v := 2) hx hb dX5_readNumber_95 (by decide) ?_
    refine lv_goto (tgt := 100) hx hb dX5_readNumber_96 (by decide) ?_
    exact s_X5_readNumber_100 E hr hlk ho  hw hM hS (lv_sub hl [] rfl)
def w_X5_readNumber (I : mI) (o : Nat) (otp : Nat) (post : mI → Prop) : Prop := ∀ I1, I1 = up2 I o 9 0 → (w_X5_readNumber_5 o otp post (w_X5_readNumber_81 o otp post)) I1
set_option maxRecDepth 100000 in
set_option maxHeartbeats 4000000 in
theorem c_X5_readNumber {l : Launch} {D : va_G} {cA : Nat → ClassId} {Z : mZ} {bs : Ad} {n : Nat} {K : mK} {R : mR} {I : mI} {L : mL} {o : Nat} {otp : Nat} {post : mI → Prop} (ho : isX5 K R o otp) (hw : w_X5_readNumber I o otp post) : Met l yX5_readNumber (.code yX5_readNumber cX5_readNumber 1 none :: gw) ({ frames := 1, cells := 0, slots := 0, locals := 20 } : Room) (PreM D cA Z bs (n, K, R, I, L) [.ref (ad bs o)]) (QV D cA bs (fun u => ∃ I', u = (n, K, R, I', L) ∧ post I')) 0 0 (Ab bs) := by
  refine m_met (by decide) (Nat.le_of_ble_eq_true rfl) (fun p e s m below meth c ls E hr hlk hM hS hl => ?_)
  have E : Ev p s m _ c cX5_readNumber 1 RX5 D cA Z bs := E
  have hl : lv_has ls 1 [(0, .ref (ad bs o))] := hl
  have hx := E.1.1
  have hb := E.1.2.1
  generalize hHe : s.heap = H at hM ⊢
  have hS : va_S (Ab bs) s.heap H [] := by rw [← hHe]; exact va_S.rf
  clear hHe
  refine lv_aload_n hx hb dX5_readNumber_0 rfl (lv_at hl 0 rfl) ?_
  refine lv_iconst (v := 0) hx hb dX5_readNumber_1 (by decide) ?_
  refine m_puti E hM hS fp_X5_153 ho.1.1 rfl rfl dX5_readNumber_2 (fun I1 H locs eI1 hM hS => ?_)
  have hw := hw I1 eI1
  exact s_X5_readNumber_5 E hr hlk ho (fun I H locs ls  hw hM hS hl => s_X5_readNumber_81 E hr hlk ho  hw hM hS hl)  hw hM hS (lv_sub hl [0] rfl)
theorem dX5_nextToken_0 : decode cX5_nextToken 0 = .ok (.aload_n 0, 1) := by decide +kernel
theorem dX5_nextToken_1 : decode cX5_nextToken 1 = .ok (.getfield 43, 3) := by decide +kernel
theorem dX5_nextToken_4 : decode cX5_nextToken 4 = .ok (.aload_n 0, 1) := by decide +kernel
theorem dX5_nextToken_5 : decode cX5_nextToken 5 = .ok (.getfield 39, 3) := by decide +kernel
theorem dX5_nextToken_8 : decode cX5_nextToken 8 = .ok (.if_icmp .ge 31, 3) := by decide +kernel
theorem dX5_nextToken_11 : decode cX5_nextToken 11 = .ok (.aload_n 0, 1) := by decide +kernel
theorem dX5_nextToken_12 : decode cX5_nextToken 12 = .ok (.getfield 29, 3) := by decide +kernel
theorem dX5_nextToken_15 : decode cX5_nextToken 15 = .ok (.aload_n 0, 1) := by decide +kernel
theorem dX5_nextToken_16 : decode cX5_nextToken 16 = .ok (.getfield 43, 3) := by decide +kernel
theorem dX5_nextToken_19 : decode cX5_nextToken 19 = .ok (.baload, 1) := by decide +kernel
theorem dX5_nextToken_20 : decode cX5_nextToken 20 = .ok (.invokestatic 234, 3) := by decide +kernel
theorem dX5_nextToken_23 : decode cX5_nextToken 23 = .ok (.ifCond .eq 16, 3) := by decide +kernel
theorem dX5_nextToken_26 : decode cX5_nextToken 26 = .ok (.aload_n 0, 1) := by decide +kernel
theorem dX5_nextToken_27 : decode cX5_nextToken 27 = .ok (.dup, 1) := by decide +kernel
theorem dX5_nextToken_28 : decode cX5_nextToken 28 = .ok (.getfield 43, 3) := by decide +kernel
theorem dX5_nextToken_31 : decode cX5_nextToken 31 = .ok (.iconst 1, 1) := by decide +kernel
theorem dX5_nextToken_32 : decode cX5_nextToken 32 = .ok (.iadd, 1) := by decide +kernel
theorem dX5_nextToken_33 : decode cX5_nextToken 33 = .ok (.putfield 43, 3) := by decide +kernel
theorem dX5_nextToken_36 : decode cX5_nextToken 36 = .ok (.goto (-36), 3) := by decide +kernel
theorem dX5_nextToken_39 : decode cX5_nextToken 39 = .ok (.aload_n 0, 1) := by decide +kernel
theorem dX5_nextToken_40 : decode cX5_nextToken 40 = .ok (.aload_n 0, 1) := by decide +kernel
theorem dX5_nextToken_41 : decode cX5_nextToken 41 = .ok (.getfield 43, 3) := by decide +kernel
theorem dX5_nextToken_44 : decode cX5_nextToken 44 = .ok (.putfield 95, 3) := by decide +kernel
theorem dX5_nextToken_47 : decode cX5_nextToken 47 = .ok (.aload_n 0, 1) := by decide +kernel
theorem dX5_nextToken_48 : decode cX5_nextToken 48 = .ok (.getfield 43, 3) := by decide +kernel
theorem dX5_nextToken_51 : decode cX5_nextToken 51 = .ok (.aload_n 0, 1) := by decide +kernel
theorem dX5_nextToken_52 : decode cX5_nextToken 52 = .ok (.getfield 39, 3) := by decide +kernel
theorem dX5_nextToken_55 : decode cX5_nextToken 55 = .ok (.if_icmp .lt 11, 3) := by decide +kernel
theorem dX5_nextToken_58 : decode cX5_nextToken 58 = .ok (.aload_n 0, 1) := by decide +kernel
theorem dX5_nextToken_59 : decode cX5_nextToken 59 = .ok (.iconst 0, 1) := by decide +kernel
theorem dX5_nextToken_60 : decode cX5_nextToken 60 = .ok (.putfield 67, 3) := by decide +kernel
theorem dX5_nextToken_63 : decode cX5_nextToken 63 = .ok (.goto 98, 3) := by decide +kernel
theorem dX5_nextToken_66 : decode cX5_nextToken 66 = .ok (.aload_n 0, 1) := by decide +kernel
theorem dX5_nextToken_67 : decode cX5_nextToken 67 = .ok (.getfield 29, 3) := by decide +kernel
theorem dX5_nextToken_70 : decode cX5_nextToken 70 = .ok (.aload_n 0, 1) := by decide +kernel
theorem dX5_nextToken_71 : decode cX5_nextToken 71 = .ok (.getfield 43, 3) := by decide +kernel
theorem dX5_nextToken_74 : decode cX5_nextToken 74 = .ok (.baload, 1) := by decide +kernel
theorem dX5_nextToken_75 : decode cX5_nextToken 75 = .ok (.invokestatic 237, 3) := by decide +kernel
theorem dX5_nextToken_78 : decode cX5_nextToken 78 = .ok (.ifCond .eq 10, 3) := by decide +kernel
theorem dX5_nextToken_81 : decode cX5_nextToken 81 = .ok (.aload_n 0, 1) := by decide +kernel
theorem dX5_nextToken_82 : decode cX5_nextToken 82 = .ok (.invokevirtual 240, 3) := by decide +kernel
theorem dX5_nextToken_85 : decode cX5_nextToken 85 = .ok (.goto 76, 3) := by decide +kernel
theorem dX5_nextToken_88 : decode cX5_nextToken 88 = .ok (.aload_n 0, 1) := by decide +kernel
theorem dX5_nextToken_89 : decode cX5_nextToken 89 = .ok (.getfield 29, 3) := by decide +kernel
theorem dX5_nextToken_92 : decode cX5_nextToken 92 = .ok (.aload_n 0, 1) := by decide +kernel
theorem dX5_nextToken_93 : decode cX5_nextToken 93 = .ok (.getfield 43, 3) := by decide +kernel
theorem dX5_nextToken_96 : decode cX5_nextToken 96 = .ok (.baload, 1) := by decide +kernel
theorem dX5_nextToken_97 : decode cX5_nextToken 97 = .ok (.invokestatic 243, 3) := by decide +kernel
theorem dX5_nextToken_100 : decode cX5_nextToken 100 = .ok (.ifCond .eq 10, 3) := by decide +kernel
theorem dX5_nextToken_103 : decode cX5_nextToken 103 = .ok (.aload_n 0, 1) := by decide +kernel
theorem dX5_nextToken_104 : decode cX5_nextToken 104 = .ok (.invokevirtual 246, 3) := by decide +kernel
theorem dX5_nextToken_107 : decode cX5_nextToken 107 = .ok (.goto 54, 3) := by decide +kernel
theorem dX5_nextToken_110 : decode cX5_nextToken 110 = .ok (.aload_n 0, 1) := by decide +kernel
theorem dX5_nextToken_111 : decode cX5_nextToken 111 = .ok (.aload_n 0, 1) := by decide +kernel
theorem dX5_nextToken_112 : decode cX5_nextToken 112 = .ok (.getfield 29, 3) := by decide +kernel
theorem dX5_nextToken_115 : decode cX5_nextToken 115 = .ok (.aload_n 0, 1) := by decide +kernel
theorem dX5_nextToken_116 : decode cX5_nextToken 116 = .ok (.getfield 43, 3) := by decide +kernel
theorem dX5_nextToken_119 : decode cX5_nextToken 119 = .ok (.baload, 1) := by decide +kernel
theorem dX5_nextToken_120 : decode cX5_nextToken 120 = .ok (.bipush 45, 2) := by decide +kernel
theorem dX5_nextToken_122 : decode cX5_nextToken 122 = .ok (.if_icmp .ne 7, 3) := by decide +kernel
theorem dX5_nextToken_125 : decode cX5_nextToken 125 = .ok (.iconst 3, 1) := by decide +kernel
theorem dX5_nextToken_126 : decode cX5_nextToken 126 = .ok (.goto 22, 3) := by decide +kernel
theorem dX5_nextToken_129 : decode cX5_nextToken 129 = .ok (.aload_n 0, 1) := by decide +kernel
theorem dX5_nextToken_130 : decode cX5_nextToken 130 = .ok (.getfield 29, 3) := by decide +kernel
theorem dX5_nextToken_133 : decode cX5_nextToken 133 = .ok (.aload_n 0, 1) := by decide +kernel
theorem dX5_nextToken_134 : decode cX5_nextToken 134 = .ok (.getfield 43, 3) := by decide +kernel
theorem dX5_nextToken_137 : decode cX5_nextToken 137 = .ok (.baload, 1) := by decide +kernel
theorem dX5_nextToken_138 : decode cX5_nextToken 138 = .ok (.bipush 59, 2) := by decide +kernel
theorem dX5_nextToken_140 : decode cX5_nextToken 140 = .ok (.if_icmp .ne 7, 3) := by decide +kernel
theorem dX5_nextToken_143 : decode cX5_nextToken 143 = .ok (.iconst 4, 1) := by decide +kernel
theorem dX5_nextToken_144 : decode cX5_nextToken 144 = .ok (.goto 4, 3) := by decide +kernel
theorem dX5_nextToken_147 : decode cX5_nextToken 147 = .ok (.iconst 5, 1) := by decide +kernel
theorem dX5_nextToken_148 : decode cX5_nextToken 148 = .ok (.putfield 67, 3) := by decide +kernel
theorem dX5_nextToken_151 : decode cX5_nextToken 151 = .ok (.aload_n 0, 1) := by decide +kernel
theorem dX5_nextToken_152 : decode cX5_nextToken 152 = .ok (.dup, 1) := by decide +kernel
theorem dX5_nextToken_153 : decode cX5_nextToken 153 = .ok (.getfield 43, 3) := by decide +kernel
theorem dX5_nextToken_156 : decode cX5_nextToken 156 = .ok (.iconst 1, 1) := by decide +kernel
theorem dX5_nextToken_157 : decode cX5_nextToken 157 = .ok (.iadd, 1) := by decide +kernel
theorem dX5_nextToken_158 : decode cX5_nextToken 158 = .ok (.putfield 43, 3) := by decide +kernel
theorem dX5_nextToken_161 : decode cX5_nextToken 161 = .ok (.return_, 1) := by decide +kernel
def w_X5_nextToken_0 (o : Nat) (otp : Nat) (post : mI → Prop) (k39 : mI → Prop) (I : mI) : Prop := ∀ ZZ : (mI → Prop), (∀ (I : mI), (((I o 5) ≤ (I o 6) → k39 I) ∧ (¬ (I o 5) ≤ (I o 6) → vp_in (I o 6) 600 ∧ w_X5_isBlank (I otp (I o 6).toNatClampNeg) (fun b1 => (b1 = false → k39 I) ∧ (b1 = true → ∀ I2, I2 = up2 I o 6 ((I o 6) + 1) → ZZ I2)))) → ZZ I) → ZZ I
set_option maxRecDepth 100000 in
set_option maxHeartbeats 4000000 in
theorem s_X5_nextToken_0 {p : Program} {l : Launch} {e : Env} {s : State} {m : MethodId} {args : Array Value} {below : List Frame} {meth : Method} {c : Code} {D : va_G} {cA : Nat → ClassId} {Z : mZ} {bs : Ad} {n : Nat} {K : mK} {R : mR} {L : mL} (E : Ev p s m args c cX5_nextToken 1 RX5 D cA Z bs) (hr : meth.sig.returnType = none) (hlk : meth.locks = false) {o : Nat} {otp : Nat} (ho : isX5 K R o otp) {post : mI → Prop} {k39 : mI → Prop} (hk39 : ∀ (I : mI) (H : Heap) (locs : List Loc) (ls : Array Slot), k39 I → mm D cA bs (n, K, R, I, L) H → va_S (Ab bs) s.heap H locs → lv_has ls 1 [(0, .ref (ad bs o))] → W p l e ({ frames := 2, cells := 0, slots := 0, locals := 40 } : Room) s m args below meth c H locs 0 0 (MQ below (QV D cA bs (fun u => ∃ I', u = (n, K, R, I', L) ∧ post I')) args s 0 0 (Ab bs)) (F0 m 39 ls [])) {I : mI} {H : Heap} {locs : List Loc} {ls : Array Slot} (hw : w_X5_nextToken_0 o otp post k39 I) (hM : mm D cA bs (n, K, R, I, L) H) (hS : va_S (Ab bs) s.heap H locs) (hl : lv_has ls 1 [(0, .ref (ad bs o))]) : W p l e ({ frames := 2, cells := 0, slots := 0, locals := 40 } : Room) s m args below meth c H locs 0 0 (MQ below (QV D cA bs (fun u => ∃ I', u = (n, K, R, I', L) ∧ post I')) args s 0 0 (Ab bs)) (F0 m 0 ls []) := by
  have hx := E.1.1
  have hb := E.1.2.1
  refine hw (fun I => ∀ (H : Heap) (locs : List Loc) (ls : Array Slot), mm D cA bs (n, K, R, I, L) H → va_S (Ab bs) s.heap H locs → lv_has ls 1 [(0, .ref (ad bs o))] → W p l e ({ frames := 2, cells := 0, slots := 0, locals := 40 } : Room) s m args below meth c H locs 0 0 (MQ below (QV D cA bs (fun u => ∃ I', u = (n, K, R, I', L) ∧ post I')) args s 0 0 (Ab bs)) (F0 m 0 ls [])) ?_ H locs ls hM hS hl
  clear hw hM hS hl
  intro I hw H locs ls hM hS hl
  refine lv_aload_n hx hb dX5_nextToken_0 rfl (lv_at hl 0 rfl) ?_
  refine m_geti E hM fs_X5_43 ho.1.1 dX5_nextToken_1 ?_
  refine lv_aload_n hx hb dX5_nextToken_4 rfl (lv_at hl 0 rfl) ?_
  refine m_geti E hM fs_X5_39 ho.1.1 dX5_nextToken_5 ?_
  refine lv_icmp_ge (tgt := 39) hx hb dX5_nextToken_8 (by decide) (fun cq => ?_) (fun cq => ?_)
  · have hw := hw.1 cq
    exact hk39 _ H locs ls  hw hM hS (lv_sub hl [0] rfl)
  · have hw := hw.2 cq
    refine lv_aload_n hx hb dX5_nextToken_11 rfl (lv_at hl 0 rfl) ?_
    refine m_getr E hM fs_X5_29 ho.1.1 ho.2.2.2.1 dX5_nextToken_12 ?_
    refine lv_aload_n hx hb dX5_nextToken_15 rfl (lv_at hl 0 rfl) ?_
    refine m_geti E hM fs_X5_43 ho.1.1 dX5_nextToken_16 ?_
    obtain ⟨hv, hw⟩ := hw
    refine m_bald E hM ho.2.2.2.2 hv dX5_nextToken_19 ?_
    refine m_ci (m_runS E hM hS cs_X5_234 (c_X5_isBlank  hw) rfl rfl ⟨Nat.le_of_ble_eq_true rfl, Nat.le_of_ble_eq_true rfl⟩ rfl hl.1 rfl (Nat.le_of_ble_eq_true rfl) dX5_nextToken_20 ⟨Nat.le_of_ble_eq_true rfl, Nat.le_of_ble_eq_true rfl⟩) hS (fun r9 u H locs hp hM hS => ?_)
    obtain ⟨b1, rfl, rfl, hw⟩ := hp
    refine lv_if_eq (tgt := 39) hx hb dX5_nextToken_23 (by decide) (fun cq => ?_) (fun cq => ?_)
    · have hw := hw.1 (bI_f cq)
      exact hk39 _ H locs ls  hw hM hS (lv_sub hl [0] rfl)
    · have hw := hw.2 (bI_t cq)
      refine lv_aload_n hx hb dX5_nextToken_26 rfl (lv_at hl 0 rfl) ?_
      refine lv_dup hx hb dX5_nextToken_27 rfl ?_
      refine m_geti E hM fs_X5_43 ho.1.1 dX5_nextToken_28 ?_
      refine lv_iconst (v := 1) hx hb dX5_nextToken_31 (by decide) ?_
      refine lv_iadd hx hb dX5_nextToken_32 ?_
      refine m_puti E hM hS fp_X5_43 ho.1.1 rfl rfl dX5_nextToken_33 (fun I2 H locs eI2 hM hS => ?_)
      have hw := hw I2 eI2
      refine lv_goto (tgt := 0) hx hb dX5_nextToken_36 (by decide) ?_
      exact hw H locs ls  hM hS (lv_sub hl [0] rfl)
def w_X5_nextToken_148 (o : Nat) (otp : Nat) (post : mI → Prop) (I : mI) (s1 : Int32) : Prop := ∀ I9, I9 = up2 I o 7 s1 → ∀ I10, I10 = up2 I9 o 6 ((I9 o 6) + 1) → post I10
set_option maxRecDepth 100000 in
set_option maxHeartbeats 4000000 in
theorem s_X5_nextToken_148 {p : Program} {l : Launch} {e : Env} {s : State} {m : MethodId} {args : Array Value} {below : List Frame} {meth : Method} {c : Code} {D : va_G} {cA : Nat → ClassId} {Z : mZ} {bs : Ad} {n : Nat} {K : mK} {R : mR} {L : mL} (E : Ev p s m args c cX5_nextToken 1 RX5 D cA Z bs) (hr : meth.sig.returnType = none) (hlk : meth.locks = false) {o : Nat} {otp : Nat} (ho : isX5 K R o otp) {post : mI → Prop} {I : mI} {s1 : Int32} {H : Heap} {locs : List Loc} {ls : Array Slot} (hw : w_X5_nextToken_148 o otp post I s1) (hM : mm D cA bs (n, K, R, I, L) H) (hS : va_S (Ab bs) s.heap H locs) (hl : lv_has ls 1 [(0, .ref (ad bs o))]) : W p l e ({ frames := 2, cells := 0, slots := 0, locals := 40 } : Room) s m args below meth c H locs 0 0 (MQ below (QV D cA bs (fun u => ∃ I', u = (n, K, R, I', L) ∧ post I')) args s 0 0 (Ab bs)) (F0 m 148 ls [.int s1, .ref (ad bs o)]) := by
  have hx := E.1.1
  have hb := E.1.2.1
  refine m_puti E hM hS fp_X5_67 ho.1.1 rfl rfl dX5_nextToken_148 (fun I9 H locs eI9 hM hS => ?_)
  have hw := hw I9 eI9
  refine lv_aload_n hx hb dX5_nextToken_151 rfl (lv_at hl 0 rfl) ?_
  refine lv_dup hx hb dX5_nextToken_152 rfl ?_
  refine m_geti E hM fs_X5_43 ho.1.1 dX5_nextToken_153 ?_
  refine lv_iconst (v := 1) hx hb dX5_nextToken_156 (by decide) ?_
  refine lv_iadd hx hb dX5_nextToken_157 ?_
  refine m_puti E hM hS fp_X5_43 ho.1.1 rfl rfl dX5_nextToken_158 (fun I10 H locs eI10 hM hS => ?_)
  have hw := hw I10 eI10
  exact m_retv hx hb hr hlk hM hS ⟨_, rfl, hw⟩ dX5_nextToken_161
def w_X5_nextToken_39 (o : Nat) (otp : Nat) (post : mI → Prop) (I : mI) : Prop := ∀ I3, I3 = up2 I o 8 (I o 6) → ((I3 o 6) < (I3 o 5) → vp_in (I3 o 6) 600 ∧ w_X5_isLetter (I3 otp (I3 o 6).toNatClampNeg) (fun b4 => (b4 = false → vp_in (I3 o 6) 600 ∧ w_X5_isDigit (I3 otp (I3 o 6).toNatClampNeg) (fun b5 => (b5 = false → vp_in (I3 o 6) 600 ∧ (¬ (I3 otp (I3 o 6).toNatClampNeg) = 45 → vp_in (I3 o 6) 600 ∧ (¬ (I3 otp (I3 o 6).toNatClampNeg) = 59 → (w_X5_nextToken_148 o otp post) I3 5) ∧ ((I3 otp (I3 o 6).toNatClampNeg) = 59 → (w_X5_nextToken_148 o otp post) I3 4)) ∧ ((I3 otp (I3 o 6).toNatClampNeg) = 45 → (w_X5_nextToken_148 o otp post) I3 3)) ∧ (b5 = true → w_X5_readNumber I3 o otp (fun I6 => post I6)))) ∧ (b4 = true → w_X5_readWord I3 o otp (fun I7 => post I7)))) ∧ (¬ (I3 o 6) < (I3 o 5) → ∀ I8, I8 = up2 I3 o 7 0 → post I8)
set_option maxRecDepth 100000 in
set_option maxHeartbeats 4000000 in
theorem s_X5_nextToken_39 {p : Program} {l : Launch} {e : Env} {s : State} {m : MethodId} {args : Array Value} {below : List Frame} {meth : Method} {c : Code} {D : va_G} {cA : Nat → ClassId} {Z : mZ} {bs : Ad} {n : Nat} {K : mK} {R : mR} {L : mL} (E : Ev p s m args c cX5_nextToken 1 RX5 D cA Z bs) (hr : meth.sig.returnType = none) (hlk : meth.locks = false) {o : Nat} {otp : Nat} (ho : isX5 K R o otp) {post : mI → Prop} {I : mI} {H : Heap} {locs : List Loc} {ls : Array Slot} (hw : w_X5_nextToken_39 o otp post I) (hM : mm D cA bs (n, K, R, I, L) H) (hS : va_S (Ab bs) s.heap H locs) (hl : lv_has ls 1 [(0, .ref (ad bs o))]) : W p l e ({ frames := 2, cells := 0, slots := 0, locals := 40 } : Room) s m args below meth c H locs 0 0 (MQ below (QV D cA bs (fun u => ∃ I', u = (n, K, R, I', L) ∧ post I')) args s 0 0 (Ab bs)) (F0 m 39 ls []) := by
  have hx := E.1.1
  have hb := E.1.2.1
  refine lv_aload_n hx hb dX5_nextToken_39 rfl (lv_at hl 0 rfl) ?_
  refine lv_aload_n hx hb dX5_nextToken_40 rfl (lv_at hl 0 rfl) ?_
  refine m_geti E hM fs_X5_43 ho.1.1 dX5_nextToken_41 ?_
  refine m_puti E hM hS fp_X5_95 ho.1.1 rfl rfl dX5_nextToken_44 (fun I3 H locs eI3 hM hS => ?_)
  have hw := hw I3 eI3
  refine lv_aload_n hx hb dX5_nextToken_47 rfl (lv_at hl 0 rfl) ?_
  refine m_geti E hM fs_X5_43 ho.1.1 dX5_nextToken_48 ?_
  refine lv_aload_n hx hb dX5_nextToken_51 rfl (lv_at hl 0 rfl) ?_
  refine m_geti E hM fs_X5_39 ho.1.1 dX5_nextToken_52 ?_
  refine lv_icmp_lt (tgt := 66) hx hb dX5_nextToken_55 (by decide) (fun cq => ?_) (fun cq => ?_)
  · have hw := hw.1 cq
    refine lv_aload_n hx hb dX5_nextToken_66 rfl (lv_at hl 0 rfl) ?_
    refine m_getr E hM fs_X5_29 ho.1.1 ho.2.2.2.1 dX5_nextToken_67 ?_
    refine lv_aload_n hx hb dX5_nextToken_70 rfl (lv_at hl 0 rfl) ?_
    refine m_geti E hM fs_X5_43 ho.1.1 dX5_nextToken_71 ?_
    obtain ⟨hv, hw⟩ := hw
    refine m_bald E hM ho.2.2.2.2 hv dX5_nextToken_74 ?_
    refine m_ci (m_runS E hM hS cs_X5_237 (c_X5_isLetter  hw) rfl rfl ⟨Nat.le_of_ble_eq_true rfl, Nat.le_of_ble_eq_true rfl⟩ rfl hl.1 rfl (Nat.le_of_ble_eq_true rfl) dX5_nextToken_75 ⟨Nat.le_of_ble_eq_true rfl, Nat.le_of_ble_eq_true rfl⟩) hS (fun r9 u H locs hp hM hS => ?_)
    obtain ⟨b4, rfl, rfl, hw⟩ := hp
    refine lv_if_eq (tgt := 88) hx hb dX5_nextToken_78 (by decide) (fun cq => ?_) (fun cq => ?_)
    · have hw := hw.1 (bI_f cq)
      refine lv_aload_n hx hb dX5_nextToken_88 rfl (lv_at hl 0 rfl) ?_
      refine m_getr E hM fs_X5_29 ho.1.1 ho.2.2.2.1 dX5_nextToken_89 ?_
      refine lv_aload_n hx hb dX5_nextToken_92 rfl (lv_at hl 0 rfl) ?_
      refine m_geti E hM fs_X5_43 ho.1.1 dX5_nextToken_93 ?_
      obtain ⟨hv, hw⟩ := hw
      refine m_bald E hM ho.2.2.2.2 hv dX5_nextToken_96 ?_
      refine m_ci (m_runS E hM hS cs_X5_243 (c_X5_isDigit  hw) rfl rfl ⟨Nat.le_of_ble_eq_true rfl, Nat.le_of_ble_eq_true rfl⟩ rfl hl.1 rfl (Nat.le_of_ble_eq_true rfl) dX5_nextToken_97 ⟨Nat.le_of_ble_eq_true rfl, Nat.le_of_ble_eq_true rfl⟩) hS (fun r9 u H locs hp hM hS => ?_)
      obtain ⟨b5, rfl, rfl, hw⟩ := hp
      refine lv_if_eq (tgt := 110) hx hb dX5_nextToken_100 (by decide) (fun cq => ?_) (fun cq => ?_)
      · have hw := hw.1 (bI_f cq)
        refine lv_aload_n hx hb dX5_nextToken_110 rfl (lv_at hl 0 rfl) ?_
        refine lv_aload_n hx hb dX5_nextToken_111 rfl (lv_at hl 0 rfl) ?_
        refine m_getr E hM fs_X5_29 ho.1.1 ho.2.2.2.1 dX5_nextToken_112 ?_
        refine lv_aload_n hx hb dX5_nextToken_115 rfl (lv_at hl 0 rfl) ?_
        refine m_geti E hM fs_X5_43 ho.1.1 dX5_nextToken_116 ?_
        obtain ⟨hv, hw⟩ := hw
        refine m_bald E hM ho.2.2.2.2 hv dX5_nextToken_119 ?_
        refine lv_bipush (v := 45) hx hb dX5_nextToken_120 (by decide) ?_
        refine lv_icmp_ne (tgt := 129) hx hb dX5_nextToken_122 (by decide) (fun cq => ?_) (fun cq => ?_)
        · have hw := hw.1 cq
          refine lv_aload_n hx hb dX5_nextToken_129 rfl (lv_at hl 0 rfl) ?_
          refine m_getr E hM fs_X5_29 ho.1.1 ho.2.2.2.1 dX5_nextToken_130 ?_
          refine lv_aload_n hx hb dX5_nextToken_133 rfl (lv_at hl 0 rfl) ?_
          refine m_geti E hM fs_X5_43 ho.1.1 dX5_nextToken_134 ?_
          obtain ⟨hv, hw⟩ := hw
          refine m_bald E hM ho.2.2.2.2 hv dX5_nextToken_137 ?_
          refine lv_bipush (v := 59) hx hb dX5_nextToken_138 (by decide) ?_
          refine lv_icmp_ne (tgt := 147) hx hb dX5_nextToken_140 (by decide) (fun cq => ?_) (fun cq => ?_)
          · have hw := hw.1 cq
            refine lv_iconst (v := 5) hx hb dX5_nextToken_147 (by decide) ?_
            exact s_X5_nextToken_148 E hr hlk ho  hw hM hS (lv_sub hl [0] rfl)
          · have hw := hw.2 cq
            refine lv_iconst (v := 4) hx hb dX5_nextToken_143 (by decide) ?_
            refine lv_goto (tgt := 148) hx hb dX5_nextToken_144 (by decide) ?_
            exact s_X5_nextToken_148 E hr hlk ho  hw hM hS (lv_sub hl [0] rfl)
        · have hw := hw.2 cq
          refine lv_iconst (v := 3) hx hb dX5_nextToken_125 (by decide) ?_
          refine lv_goto (tgt := 148) hx hb dX5_nextToken_126 (by decide) ?_
          exact s_X5_nextToken_148 E hr hlk ho  hw hM hS (lv_sub hl [0] rfl)
      · have hw := hw.2 (bI_t cq)
        refine lv_aload_n hx hb dX5_nextToken_103 rfl (lv_at hl 0 rfl) ?_
        refine m_cv (m_runV E hM hS cs_X5_246 ho.1.1 (by decide) rfl rfl (c_X5_readNumber ho hw) rfl rfl ⟨Nat.le_of_ble_eq_true rfl, Nat.le_of_ble_eq_true rfl⟩ rfl hl.1 rfl (Nat.le_of_ble_eq_true rfl) dX5_nextToken_104 ⟨Nat.le_of_ble_eq_true rfl, Nat.le_of_ble_eq_true rfl⟩) hS (fun u H locs hp hM hS => ?_)
        obtain ⟨I6, rfl, hw⟩ := hp
        refine lv_goto (tgt := 161) hx hb dX5_nextToken_107 (by decide) ?_
        exact m_retv hx hb hr hlk hM hS ⟨_, rfl, hw⟩ dX5_nextToken_161
    · have hw := hw.2 (bI_t cq)
      refine lv_aload_n hx hb dX5_nextToken_81 rfl (lv_at hl 0 rfl) ?_
      refine m_cv (m_runV E hM hS cs_X5_240 ho.1.1 (by decide) rfl rfl (c_X5_readWord ho hw) rfl rfl ⟨Nat.le_of_ble_eq_true rfl, Nat.le_of_ble_eq_true rfl⟩ rfl hl.1 rfl (Nat.le_of_ble_eq_true rfl) dX5_nextToken_82 ⟨Nat.le_of_ble_eq_true rfl, Nat.le_of_ble_eq_true rfl⟩) hS (fun u H locs hp hM hS => ?_)
      obtain ⟨I7, rfl, hw⟩ := hp
      refine lv_goto (tgt := 161) hx hb dX5_nextToken_85 (by decide) ?_
      exact m_retv hx hb hr hlk hM hS ⟨_, rfl, hw⟩ dX5_nextToken_161
  · have hw := hw.2 cq
    refine lv_aload_n hx hb dX5_nextToken_58 rfl (lv_at hl 0 rfl) ?_
    refine lv_iconst (v := 0) hx hb dX5_nextToken_59 (by decide) ?_
    refine m_puti E hM hS fp_X5_67 ho.1.1 rfl rfl dX5_nextToken_60 (fun I8 H locs eI8 hM hS => ?_)
    have hw := hw I8 eI8
    refine lv_goto (tgt := 161) hx hb dX5_nextToken_63 (by decide) ?_
    exact m_retv hx hb hr hlk hM hS ⟨_, rfl, hw⟩ dX5_nextToken_161
def w_X5_nextToken (I : mI) (o : Nat) (otp : Nat) (post : mI → Prop) : Prop := (w_X5_nextToken_0 o otp post (w_X5_nextToken_39 o otp post)) I
set_option maxRecDepth 100000 in
set_option maxHeartbeats 4000000 in
theorem c_X5_nextToken {l : Launch} {D : va_G} {cA : Nat → ClassId} {Z : mZ} {bs : Ad} {n : Nat} {K : mK} {R : mR} {I : mI} {L : mL} {o : Nat} {otp : Nat} {post : mI → Prop} (ho : isX5 K R o otp) (hw : w_X5_nextToken I o otp post) : Met l yX5_nextToken (.code yX5_nextToken cX5_nextToken 1 none :: gw) ({ frames := 2, cells := 0, slots := 0, locals := 40 } : Room) (PreM D cA Z bs (n, K, R, I, L) [.ref (ad bs o)]) (QV D cA bs (fun u => ∃ I', u = (n, K, R, I', L) ∧ post I')) 0 0 (Ab bs) := by
  refine m_met (by decide) (Nat.le_of_ble_eq_true rfl) (fun p e s m below meth c ls E hr hlk hM hS hl => ?_)
  have E : Ev p s m _ c cX5_nextToken 1 RX5 D cA Z bs := E
  have hl : lv_has ls 1 [(0, .ref (ad bs o))] := hl
  have hx := E.1.1
  have hb := E.1.2.1
  generalize hHe : s.heap = H at hM ⊢
  have hS : va_S (Ab bs) s.heap H [] := by rw [← hHe]; exact va_S.rf
  clear hHe
  exact s_X5_nextToken_0 E hr hlk ho (fun I H locs ls  hw hM hS hl => s_X5_nextToken_39 E hr hlk ho  hw hM hS hl)  hw hM hS (lv_sub hl [0] rfl)
theorem dX5_breakOff_0 : decode cX5_breakOff 0 = .ok (.aload_n 0, 1) := by decide +kernel
theorem dX5_breakOff_1 : decode cX5_breakOff 1 = .ok (.iconst 1, 1) := by decide +kernel
theorem dX5_breakOff_2 : decode cX5_breakOff 2 = .ok (.putfield 46, 3) := by decide +kernel
theorem dX5_breakOff_5 : decode cX5_breakOff 5 = .ok (.aload_n 0, 1) := by decide +kernel
theorem dX5_breakOff_6 : decode cX5_breakOff 6 = .ok (.aload_n 0, 1) := by decide +kernel
theorem dX5_breakOff_7 : decode cX5_breakOff 7 = .ok (.getfield 95, 3) := by decide +kernel
theorem dX5_breakOff_10 : decode cX5_breakOff 10 = .ok (.putfield 49, 3) := by decide +kernel
theorem dX5_breakOff_13 : decode cX5_breakOff 13 = .ok (.return_, 1) := by decide +kernel
def w_X5_breakOff (I : mI) (o : Nat) (otp : Nat) (post : mI → Prop) : Prop := ∀ I1, I1 = up2 I o 2 1 → ∀ I2, I2 = up2 I1 o 3 (I1 o 8) → post I2
set_option maxRecDepth 100000 in
set_option maxHeartbeats 4000000 in
theorem c_X5_breakOff {l : Launch} {D : va_G} {cA : Nat → ClassId} {Z : mZ} {bs : Ad} {n : Nat} {K : mK} {R : mR} {I : mI} {L : mL} {o : Nat} {otp : Nat} {post : mI → Prop} (ho : isX5 K R o otp) (hw : w_X5_breakOff I o otp post) : Met l yX5_breakOff (.code yX5_breakOff cX5_breakOff 1 none :: gw) ({ frames := 0, cells := 0, slots := 0, locals := 0 } : Room) (PreM D cA Z bs (n, K, R, I, L) [.ref (ad bs o)]) (QV D cA bs (fun u => ∃ I', u = (n, K, R, I', L) ∧ post I')) 0 0 (Ab bs) := by
  refine m_met (by decide) (Nat.le_of_ble_eq_true rfl) (fun p e s m below meth c ls E hr hlk hM hS hl => ?_)
  have E : Ev p s m _ c cX5_breakOff 1 RX5 D cA Z bs := E
  have hl : lv_has ls 1 [(0, .ref (ad bs o))] := hl
  have hx := E.1.1
  have hb := E.1.2.1
  generalize hHe : s.heap = H at hM ⊢
  have hS : va_S (Ab bs) s.heap H [] := by rw [← hHe]; exact va_S.rf
  clear hHe
  refine lv_aload_n hx hb dX5_breakOff_0 rfl (lv_at hl 0 rfl) ?_
  refine lv_iconst (v := 1) hx hb dX5_breakOff_1 (by decide) ?_
  refine m_puti E hM hS fp_X5_46 ho.1.1 rfl rfl dX5_breakOff_2 (fun I1 H locs eI1 hM hS => ?_)
  have hw := hw I1 eI1
  refine lv_aload_n hx hb dX5_breakOff_5 rfl (lv_at hl 0 rfl) ?_
  refine lv_aload_n hx hb dX5_breakOff_6 rfl (lv_at hl 0 rfl) ?_
  refine m_geti E hM fs_X5_95 ho.1.1 dX5_breakOff_7 ?_
  refine m_puti E hM hS fp_X5_49 ho.1.1 rfl rfl dX5_breakOff_10 (fun I2 H locs eI2 hM hS => ?_)
  have hw := hw I2 eI2
  exact m_retv hx hb hr hlk hM hS ⟨_, rfl, hw⟩ dX5_breakOff_13
theorem dX5_isFull_0 : decode cX5_isFull 0 = .ok (.iload_n 1, 1) := by decide +kernel
theorem dX5_isFull_1 : decode cX5_isFull 1 = .ok (.tableswitch 107 3 7 #[35, 53, 107, 71, 89], 35) := by decide +kernel
theorem dX5_isFull_36 : decode cX5_isFull 36 = .ok (.aload_n 0, 1) := by decide +kernel
theorem dX5_isFull_37 : decode cX5_isFull 37 = .ok (.getfield 12, 3) := by decide +kernel
theorem dX5_isFull_40 : decode cX5_isFull 40 = .ok (.getfield 144, 3) := by decide +kernel
theorem dX5_isFull_43 : decode cX5_isFull 43 = .ok (.bipush 6, 2) := by decide +kernel
theorem dX5_isFull_45 : decode cX5_isFull 45 = .ok (.if_icmp .lt 7, 3) := by decide +kernel
theorem dX5_isFull_48 : decode cX5_isFull 48 = .ok (.iconst 1, 1) := by decide +kernel
theorem dX5_isFull_49 : decode cX5_isFull 49 = .ok (.goto 4, 3) := by decide +kernel
theorem dX5_isFull_52 : decode cX5_isFull 52 = .ok (.iconst 0, 1) := by decide +kernel
theorem dX5_isFull_53 : decode cX5_isFull 53 = .ok (.ireturn, 1) := by decide +kernel
theorem dX5_isFull_54 : decode cX5_isFull 54 = .ok (.aload_n 0, 1) := by decide +kernel
theorem dX5_isFull_55 : decode cX5_isFull 55 = .ok (.getfield 12, 3) := by decide +kernel
theorem dX5_isFull_58 : decode cX5_isFull 58 = .ok (.getfield 77, 3) := by decide +kernel
theorem dX5_isFull_61 : decode cX5_isFull 61 = .ok (.bipush 6, 2) := by decide +kernel
theorem dX5_isFull_63 : decode cX5_isFull 63 = .ok (.if_icmp .lt 7, 3) := by decide +kernel
theorem dX5_isFull_66 : decode cX5_isFull 66 = .ok (.iconst 1, 1) := by decide +kernel
theorem dX5_isFull_67 : decode cX5_isFull 67 = .ok (.goto 4, 3) := by decide +kernel
theorem dX5_isFull_70 : decode cX5_isFull 70 = .ok (.iconst 0, 1) := by decide +kernel
theorem dX5_isFull_71 : decode cX5_isFull 71 = .ok (.ireturn, 1) := by decide +kernel
theorem dX5_isFull_72 : decode cX5_isFull 72 = .ok (.aload_n 0, 1) := by decide +kernel
theorem dX5_isFull_73 : decode cX5_isFull 73 = .ok (.getfield 12, 3) := by decide +kernel
theorem dX5_isFull_76 : decode cX5_isFull 76 = .ok (.getfield 147, 3) := by decide +kernel
theorem dX5_isFull_79 : decode cX5_isFull 79 = .ok (.bipush 8, 2) := by decide +kernel
theorem dX5_isFull_81 : decode cX5_isFull 81 = .ok (.if_icmp .lt 7, 3) := by decide +kernel
theorem dX5_isFull_84 : decode cX5_isFull 84 = .ok (.iconst 1, 1) := by decide +kernel
theorem dX5_isFull_85 : decode cX5_isFull 85 = .ok (.goto 4, 3) := by decide +kernel
theorem dX5_isFull_88 : decode cX5_isFull 88 = .ok (.iconst 0, 1) := by decide +kernel
theorem dX5_isFull_89 : decode cX5_isFull 89 = .ok (.ireturn, 1) := by decide +kernel
theorem dX5_isFull_90 : decode cX5_isFull 90 = .ok (.aload_n 0, 1) := by decide +kernel
theorem dX5_isFull_91 : decode cX5_isFull 91 = .ok (.getfield 21, 3) := by decide +kernel
theorem dX5_isFull_94 : decode cX5_isFull 94 = .ok (.getfield 61, 3) := by decide +kernel
theorem dX5_isFull_97 : decode cX5_isFull 97 = .ok (.bipush 10, 2) := by decide +kernel
theorem dX5_isFull_99 : decode cX5_isFull 99 = .ok (.if_icmp .lt 7, 3) := by decide +kernel
theorem dX5_isFull_102 : decode cX5_isFull 102 = .ok (.iconst 1, 1) := by decide +kernel
theorem dX5_isFull_103 : decode cX5_isFull 103 = .ok (.goto 4, 3) := by decide +kernel
theorem dX5_isFull_106 : decode cX5_isFull 106 = .ok (.iconst 0, 1) := by decide +kernel
theorem dX5_isFull_107 : decode cX5_isFull 107 = .ok (.ireturn, 1) := by decide +kernel
theorem dX5_isFull_108 : decode cX5_isFull 108 = .ok (.iconst 0, 1) := by decide +kernel
theorem dX5_isFull_109 : decode cX5_isFull 109 = .ok (.ireturn, 1) := by decide +kernel
def w_X5_isFull (I : mI) (o : Nat) (otp : Nat) (a1 : Int32) (post : Bool → Prop) : Prop := (a1 = 3 → ((I (o + 1) 2) < 6 → post false) ∧ (¬ (I (o + 1) 2) < 6 → post true)) ∧ (a1 = 4 → ((I (o + 1) 3) < 6 → post false) ∧ (¬ (I (o + 1) 3) < 6 → post true)) ∧ (a1 = 5 → post false) ∧ (a1 = 6 → ((I (o + 1) 4) < 8 → post false) ∧ (¬ (I (o + 1) 4) < 8 → post true)) ∧ (a1 = 7 → ((I (o + 15) 0) < 10 → post false) ∧ (¬ (I (o + 15) 0) < 10 → post true)) ∧ (¬ a1 = 3 → ¬ a1 = 4 → ¬ a1 = 5 → ¬ a1 = 6 → ¬ a1 = 7 → post false)
set_option maxRecDepth 100000 in
set_option maxHeartbeats 4000000 in
theorem c_X5_isFull {l : Launch} {D : va_G} {cA : Nat → ClassId} {Z : mZ} {bs : Ad} {n : Nat} {K : mK} {R : mR} {I : mI} {L : mL} {o : Nat} {otp : Nat} {a1 : Int32} {post : Bool → Prop} (ho : isX5 K R o otp) (hw : w_X5_isFull I o otp a1 post) : Met l yX5_isFull (.code yX5_isFull cX5_isFull 2 (some .boolean) :: gw) ({ frames := 0, cells := 0, slots := 0, locals := 0 } : Room) (PreM D cA Z bs (n, K, R, I, L) [.ref (ad bs o), .int a1]) (QI D cA bs (fun r u => ∃ b, r = bI b ∧ u = (n, K, R, I, L) ∧ post b)) 0 0 (Ab bs) := by
  refine m_met (by decide) (Nat.le_of_ble_eq_true rfl) (fun p e s m below meth c ls E hr hlk hM hS hl => ?_)
  have E : Ev p s m _ c cX5_isFull 2 RX5 D cA Z bs := E
  have hl : lv_has ls 2 [(0, .ref (ad bs o)), (1, .int a1)] := hl
  have hx := E.1.1
  have hb := E.1.2.1
  generalize hHe : s.heap = H at hM ⊢
  have hS : va_S (Ab bs) s.heap H [] := by rw [← hHe]; exact va_S.rf
  clear hHe
  refine lv_iload_n hx hb dX5_isFull_0 rfl (lv_at hl 1 rfl) ?_
  by_cases cq0 : a1 = 3
  · have hw := hw.1 cq0
    refine lv_tableIn (tgt := 36) hx hb dX5_isFull_1 (by rw [cq0]; decide) (by rw [cq0]; decide) (by rw [cq0]; rfl) (by decide) ?_
    refine lv_aload_n hx hb dX5_isFull_36 rfl (lv_at hl 0 rfl) ?_
    refine m_getr E hM fs_X5_12 ho.1.1 ho.2.1.1 dX5_isFull_37 ?_
    refine m_geti E hM fs_X5_144 ho.2.1.2.1 dX5_isFull_40 ?_
    refine lv_bipush (v := 6) hx hb dX5_isFull_43 (by decide) ?_
    refine lv_icmp_lt (tgt := 52) hx hb dX5_isFull_45 (by decide) (fun cq => ?_) (fun cq => ?_)
    · have hw := hw.1 cq
      refine lv_iconst (v := 0) hx hb dX5_isFull_52 (by decide) ?_
      exact m_retz hx hb hr hlk (Or.inl rfl) hM hS ⟨false, rfl, rfl, hw⟩ dX5_isFull_53
    · have hw := hw.2 cq
      refine lv_iconst (v := 1) hx hb dX5_isFull_48 (by decide) ?_
      refine lv_goto (tgt := 53) hx hb dX5_isFull_49 (by decide) ?_
      exact m_retz hx hb hr hlk (Or.inr rfl) hM hS ⟨true, rfl, rfl, hw⟩ dX5_isFull_53
  by_cases cq1 : a1 = 4
  · have hw := hw.2.1 cq1
    refine lv_tableIn (tgt := 54) hx hb dX5_isFull_1 (by rw [cq1]; decide) (by rw [cq1]; decide) (by rw [cq1]; rfl) (by decide) ?_
    refine lv_aload_n hx hb dX5_isFull_54 rfl (lv_at hl 0 rfl) ?_
    refine m_getr E hM fs_X5_12 ho.1.1 ho.2.1.1 dX5_isFull_55 ?_
    refine m_geti E hM fs_X5_77 ho.2.1.2.1 dX5_isFull_58 ?_
    refine lv_bipush (v := 6) hx hb dX5_isFull_61 (by decide) ?_
    refine lv_icmp_lt (tgt := 70) hx hb dX5_isFull_63 (by decide) (fun cq => ?_) (fun cq => ?_)
    · have hw := hw.1 cq
      refine lv_iconst (v := 0) hx hb dX5_isFull_70 (by decide) ?_
      exact m_retz hx hb hr hlk (Or.inl rfl) hM hS ⟨false, rfl, rfl, hw⟩ dX5_isFull_71
    · have hw := hw.2 cq
      refine lv_iconst (v := 1) hx hb dX5_isFull_66 (by decide) ?_
      refine lv_goto (tgt := 71) hx hb dX5_isFull_67 (by decide) ?_
      exact m_retz hx hb hr hlk (Or.inr rfl) hM hS ⟨true, rfl, rfl, hw⟩ dX5_isFull_71
  by_cases cq2 : a1 = 5
  · have hw := hw.2.2.1 cq2
    refine lv_tableIn (tgt := 108) hx hb dX5_isFull_1 (by rw [cq2]; decide) (by rw [cq2]; decide) (by rw [cq2]; rfl) (by decide) ?_
    refine lv_iconst (v := 0) hx hb dX5_isFull_108 (by decide) ?_
    exact m_retz hx hb hr hlk (Or.inl rfl) hM hS ⟨false, rfl, rfl, hw⟩ dX5_isFull_109
  by_cases cq3 : a1 = 6
  · have hw := hw.2.2.2.1 cq3
    refine lv_tableIn (tgt := 72) hx hb dX5_isFull_1 (by rw [cq3]; decide) (by rw [cq3]; decide) (by rw [cq3]; rfl) (by decide) ?_
    refine lv_aload_n hx hb dX5_isFull_72 rfl (lv_at hl 0 rfl) ?_
    refine m_getr E hM fs_X5_12 ho.1.1 ho.2.1.1 dX5_isFull_73 ?_
    refine m_geti E hM fs_X5_147 ho.2.1.2.1 dX5_isFull_76 ?_
    refine lv_bipush (v := 8) hx hb dX5_isFull_79 (by decide) ?_
    refine lv_icmp_lt (tgt := 88) hx hb dX5_isFull_81 (by decide) (fun cq => ?_) (fun cq => ?_)
    · have hw := hw.1 cq
      refine lv_iconst (v := 0) hx hb dX5_isFull_88 (by decide) ?_
      exact m_retz hx hb hr hlk (Or.inl rfl) hM hS ⟨false, rfl, rfl, hw⟩ dX5_isFull_89
    · have hw := hw.2 cq
      refine lv_iconst (v := 1) hx hb dX5_isFull_84 (by decide) ?_
      refine lv_goto (tgt := 89) hx hb dX5_isFull_85 (by decide) ?_
      exact m_retz hx hb hr hlk (Or.inr rfl) hM hS ⟨true, rfl, rfl, hw⟩ dX5_isFull_89
  by_cases cq4 : a1 = 7
  · have hw := hw.2.2.2.2.1 cq4
    refine lv_tableIn (tgt := 90) hx hb dX5_isFull_1 (by rw [cq4]; decide) (by rw [cq4]; decide) (by rw [cq4]; rfl) (by decide) ?_
    refine lv_aload_n hx hb dX5_isFull_90 rfl (lv_at hl 0 rfl) ?_
    refine m_getr E hM fs_X5_21 ho.1.1 ho.2.2.1.1 dX5_isFull_91 ?_
    refine m_geti E hM fs_X5_61 ho.2.2.1.2.1 dX5_isFull_94 ?_
    refine lv_bipush (v := 10) hx hb dX5_isFull_97 (by decide) ?_
    refine lv_icmp_lt (tgt := 106) hx hb dX5_isFull_99 (by decide) (fun cq => ?_) (fun cq => ?_)
    · have hw := hw.1 cq
      refine lv_iconst (v := 0) hx hb dX5_isFull_106 (by decide) ?_
      exact m_retz hx hb hr hlk (Or.inl rfl) hM hS ⟨false, rfl, rfl, hw⟩ dX5_isFull_107
    · have hw := hw.2 cq
      refine lv_iconst (v := 1) hx hb dX5_isFull_102 (by decide) ?_
      refine lv_goto (tgt := 107) hx hb dX5_isFull_103 (by decide) ?_
      exact m_retz hx hb hr hlk (Or.inr rfl) hM hS ⟨true, rfl, rfl, hw⟩ dX5_isFull_107
  have hw := hw.2.2.2.2.2 cq0 cq1 cq2 cq3 cq4
  refine lv_tableOut (tgt := 108) hx hb dX5_isFull_1 (by have hn0 := lv_neT cq0 (a := 3) (by decide); have hn1 := lv_neT cq1 (a := 4) (by decide); have hn2 := lv_neT cq2 (a := 5) (by decide); have hn3 := lv_neT cq3 (a := 6) (by decide); have hn4 := lv_neT cq4 (a := 7) (by decide); omega) (by decide) ?_
  refine lv_iconst (v := 0) hx hb dX5_isFull_108 (by decide) ?_
  exact m_retz hx hb hr hlk (Or.inl rfl) hM hS ⟨false, rfl, rfl, hw⟩ dX5_isFull_109
theorem dX5_blame_0 : decode cX5_blame 0 = .ok (.aload_n 0, 1) := by decide +kernel
theorem dX5_blame_1 : decode cX5_blame 1 = .ok (.getfield 46, 3) := by decide +kernel
theorem dX5_blame_4 : decode cX5_blame 4 = .ok (.ifCond .ne 13, 3) := by decide +kernel
theorem dX5_blame_7 : decode cX5_blame 7 = .ok (.aload_n 0, 1) := by decide +kernel
theorem dX5_blame_8 : decode cX5_blame 8 = .ok (.iload_n 1, 1) := by decide +kernel
theorem dX5_blame_9 : decode cX5_blame 9 = .ok (.putfield 46, 3) := by decide +kernel
theorem dX5_blame_12 : decode cX5_blame 12 = .ok (.aload_n 0, 1) := by decide +kernel
theorem dX5_blame_13 : decode cX5_blame 13 = .ok (.iload_n 2, 1) := by decide +kernel
theorem dX5_blame_14 : decode cX5_blame 14 = .ok (.putfield 49, 3) := by decide +kernel
theorem dX5_blame_17 : decode cX5_blame 17 = .ok (.return_, 1) := by decide +kernel
def w_X5_blame (I : mI) (o : Nat) (otp : Nat) (a1 : Int32) (a2 : Int32) (post : mI → Prop) : Prop := (¬ (I o 2) = 0 → post I) ∧ ((I o 2) = 0 → ∀ I1, I1 = up2 I o 2 a1 → ∀ I2, I2 = up2 I1 o 3 a2 → post I2)
set_option maxRecDepth 100000 in
set_option maxHeartbeats 4000000 in
theorem c_X5_blame {l : Launch} {D : va_G} {cA : Nat → ClassId} {Z : mZ} {bs : Ad} {n : Nat} {K : mK} {R : mR} {I : mI} {L : mL} {o : Nat} {otp : Nat} {a1 : Int32} {a2 : Int32} {post : mI → Prop} (ho : isX5 K R o otp) (hw : w_X5_blame I o otp a1 a2 post) : Met l yX5_blame (.code yX5_blame cX5_blame 3 none :: gw) ({ frames := 0, cells := 0, slots := 0, locals := 0 } : Room) (PreM D cA Z bs (n, K, R, I, L) [.ref (ad bs o), .int a1, .int a2]) (QV D cA bs (fun u => ∃ I', u = (n, K, R, I', L) ∧ post I')) 0 0 (Ab bs) := by
  refine m_met (by decide) (Nat.le_of_ble_eq_true rfl) (fun p e s m below meth c ls E hr hlk hM hS hl => ?_)
  have E : Ev p s m _ c cX5_blame 3 RX5 D cA Z bs := E
  have hl : lv_has ls 3 [(0, .ref (ad bs o)), (1, .int a1), (2, .int a2)] := hl
  have hx := E.1.1
  have hb := E.1.2.1
  generalize hHe : s.heap = H at hM ⊢
  have hS : va_S (Ab bs) s.heap H [] := by rw [← hHe]; exact va_S.rf
  clear hHe
  refine lv_aload_n hx hb dX5_blame_0 rfl (lv_at hl 0 rfl) ?_
  refine m_geti E hM fs_X5_46 ho.1.1 dX5_blame_1 ?_
  refine lv_if_ne (tgt := 17) hx hb dX5_blame_4 (by decide) (fun cq => ?_) (fun cq => ?_)
  · have hw := hw.1 cq
    exact m_retv hx hb hr hlk hM hS ⟨_, rfl, hw⟩ dX5_blame_17
  · have hw := hw.2 cq
    refine lv_aload_n hx hb dX5_blame_7 rfl (lv_at hl 0 rfl) ?_
    refine lv_iload_n hx hb dX5_blame_8 rfl (lv_at hl 1 rfl) ?_
    refine m_puti E hM hS fp_X5_46 ho.1.1 rfl rfl dX5_blame_9 (fun I1 H locs eI1 hM hS => ?_)
    have hw := hw I1 eI1
    refine lv_aload_n hx hb dX5_blame_12 rfl (lv_at hl 0 rfl) ?_
    refine lv_iload_n hx hb dX5_blame_13 rfl (lv_at hl 2 rfl) ?_
    refine m_puti E hM hS fp_X5_49 ho.1.1 rfl rfl dX5_blame_14 (fun I2 H locs eI2 hM hS => ?_)
    have hw := hw I2 eI2
    exact m_retv hx hb hr hlk hM hS ⟨_, rfl, hw⟩ dX5_blame_17
theorem dX5_weigh_0 : decode cX5_weigh 0 = .ok (.iload_n 1, 1) := by decide +kernel
theorem dX5_weigh_1 : decode cX5_weigh 1 = .ok (.iconst 4, 1) := by decide +kernel
theorem dX5_weigh_2 : decode cX5_weigh 2 = .ok (.imul, 1) := by decide +kernel
theorem dX5_weigh_3 : decode cX5_weigh 3 = .ok (.iload_n 2, 1) := by decide +kernel
theorem dX5_weigh_4 : decode cX5_weigh 4 = .ok (.iadd, 1) := by decide +kernel
theorem dX5_weigh_5 : decode cX5_weigh 5 = .ok (.istore_n 3, 1) := by decide +kernel
theorem dX5_weigh_6 : decode cX5_weigh 6 = .ok (.aload_n 0, 1) := by decide +kernel
theorem dX5_weigh_7 : decode cX5_weigh 7 = .ok (.getfield 153, 3) := by decide +kernel
theorem dX5_weigh_10 : decode cX5_weigh 10 = .ok (.getstatic 159, 3) := by decide +kernel
theorem dX5_weigh_13 : decode cX5_weigh 13 = .ok (.iload_n 3, 1) := by decide +kernel
theorem dX5_weigh_14 : decode cX5_weigh 14 = .ok (.iaload, 1) := by decide +kernel
theorem dX5_weigh_15 : decode cX5_weigh 15 = .ok (.if_icmp .lt 15, 3) := by decide +kernel
theorem dX5_weigh_18 : decode cX5_weigh 18 = .ok (.aload_n 0, 1) := by decide +kernel
theorem dX5_weigh_19 : decode cX5_weigh 19 = .ok (.getfield 153, 3) := by decide +kernel
theorem dX5_weigh_22 : decode cX5_weigh 22 = .ok (.getstatic 162, 3) := by decide +kernel
theorem dX5_weigh_25 : decode cX5_weigh 25 = .ok (.iload_n 3, 1) := by decide +kernel
theorem dX5_weigh_26 : decode cX5_weigh 26 = .ok (.iaload, 1) := by decide +kernel
theorem dX5_weigh_27 : decode cX5_weigh 27 = .ok (.if_icmp .le 12, 3) := by decide +kernel
theorem dX5_weigh_30 : decode cX5_weigh 30 = .ok (.aload_n 0, 1) := by decide +kernel
theorem dX5_weigh_31 : decode cX5_weigh 31 = .ok (.iconst 2, 1) := by decide +kernel
theorem dX5_weigh_32 : decode cX5_weigh 32 = .ok (.aload_n 0, 1) := by decide +kernel
theorem dX5_weigh_33 : decode cX5_weigh 33 = .ok (.getfield 95, 3) := by decide +kernel
theorem dX5_weigh_36 : decode cX5_weigh 36 = .ok (.invokevirtual 80, 3) := by decide +kernel
theorem dX5_weigh_39 : decode cX5_weigh 39 = .ok (.return_, 1) := by decide +kernel
def w_X5_weigh_30 (o : Nat) (otp : Nat) (a1 : Int32) (a2 : Int32) (post : mI → Prop) (I : mI) : Prop := w_X5_blame I o otp 2 (I o 8) (fun I2 => post I2)
set_option maxRecDepth 100000 in
set_option maxHeartbeats 4000000 in
theorem s_X5_weigh_30 {p : Program} {l : Launch} {e : Env} {s : State} {m : MethodId} {args : Array Value} {below : List Frame} {meth : Method} {c : Code} {D : va_G} {cA : Nat → ClassId} {Z : mZ} {bs : Ad} {n : Nat} {K : mK} {R : mR} {L : mL} (E : Ev p s m args c cX5_weigh 4 RX5 D cA Z bs) (hr : meth.sig.returnType = none) (hlk : meth.locks = false) {o : Nat} {otp : Nat} {a1 : Int32} {a2 : Int32} (ho : isX5 K R o otp) {post : mI → Prop} {I : mI} {H : Heap} {locs : List Loc} {ls : Array Slot} (hw : w_X5_weigh_30 o otp a1 a2 post I) (hM : mm D cA bs (n, K, R, I, L) H) (hS : va_S (Ab bs) s.heap H locs) (hl : lv_has ls 4 [(0, .ref (ad bs o))]) : W p l e ({ frames := 1, cells := 0, slots := 0, locals := 22 } : Room) s m args below meth c H locs 0 0 (MQ below (QV D cA bs (fun u => ∃ I', u = (n, K, R, I', L) ∧ post I')) args s 0 0 (Ab bs)) (F0 m 30 ls []) := by
  have hx := E.1.1
  have hb := E.1.2.1
  refine lv_aload_n hx hb dX5_weigh_30 rfl (lv_at hl 0 rfl) ?_
  refine lv_iconst (v := 2) hx hb dX5_weigh_31 (by decide) ?_
  refine lv_aload_n hx hb dX5_weigh_32 rfl (lv_at hl 0 rfl) ?_
  refine m_geti E hM fs_X5_95 ho.1.1 dX5_weigh_33 ?_
  refine m_cv (m_runV E hM hS cs_X5_80 ho.1.1 (by decide) rfl rfl (c_X5_blame ho hw) rfl rfl ⟨Nat.le_of_ble_eq_true rfl, Nat.le_of_ble_eq_true rfl⟩ rfl hl.1 rfl (Nat.le_of_ble_eq_true rfl) dX5_weigh_36 ⟨Nat.le_of_ble_eq_true rfl, Nat.le_of_ble_eq_true rfl⟩) hS (fun u H locs hp hM hS => ?_)
  obtain ⟨I2, rfl, hw⟩ := hp
  exact m_retv hx hb hr hlk hM hS ⟨_, rfl, hw⟩ dX5_weigh_39
def w_X5_weigh (I : mI) (o : Nat) (otp : Nat) (a1 : Int32) (a2 : Int32) (post : mI → Prop) : Prop := ∀ x1, x1 = ((a1 * 4) + a2) → vp_in x1 32 ∧ ((I o 9) < (tb_least x1.toNatClampNeg) → (w_X5_weigh_30 o otp a1 a2 post) I) ∧ (¬ (I o 9) < (tb_least x1.toNatClampNeg) → vp_in x1 32 ∧ ((I o 9) ≤ (tb_most x1.toNatClampNeg) → post I) ∧ (¬ (I o 9) ≤ (tb_most x1.toNatClampNeg) → (w_X5_weigh_30 o otp a1 a2 post) I))
set_option maxRecDepth 100000 in
set_option maxHeartbeats 4000000 in
theorem c_X5_weigh {l : Launch} {D : va_G} {cA : Nat → ClassId} {Z : mZ} {bs : Ad} {n : Nat} {K : mK} {R : mR} {I : mI} {L : mL} {o : Nat} {otp : Nat} {a1 : Int32} {a2 : Int32} {post : mI → Prop} (ho : isX5 K R o otp) (hw : w_X5_weigh I o otp a1 a2 post) : Met l yX5_weigh (.code yX5_weigh cX5_weigh 4 none :: gw) ({ frames := 1, cells := 0, slots := 0, locals := 22 } : Room) (PreM D cA Z bs (n, K, R, I, L) [.ref (ad bs o), .int a1, .int a2]) (QV D cA bs (fun u => ∃ I', u = (n, K, R, I', L) ∧ post I')) 0 0 (Ab bs) := by
  refine m_met (by decide) (Nat.le_of_ble_eq_true rfl) (fun p e s m below meth c ls E hr hlk hM hS hl => ?_)
  have E : Ev p s m _ c cX5_weigh 4 RX5 D cA Z bs := E
  have hl : lv_has ls 4 [(0, .ref (ad bs o)), (1, .int a1), (2, .int a2)] := hl
  have hx := E.1.1
  have hb := E.1.2.1
  generalize hHe : s.heap = H at hM ⊢
  have hS : va_S (Ab bs) s.heap H [] := by rw [← hHe]; exact va_S.rf
  clear hHe
  refine lv_iload_n hx hb dX5_weigh_0 rfl (lv_at hl 1 rfl) ?_
  refine lv_iconst (v := 4) hx hb dX5_weigh_1 (by decide) ?_
  refine lv_imul hx hb dX5_weigh_2 ?_
  refine lv_iload_n hx hb dX5_weigh_3 rfl (lv_at hl 2 rfl) ?_
  refine lv_iadd hx hb dX5_weigh_4 ?_
  refine lv_topi (fun x1 ex1 => ?_)
  have hw := hw x1 ex1
  refine lv_istore_n (lv' := [(3, .int x1), (0, .ref (ad bs o)), (1, .int a1), (2, .int a2)]) hx hb dX5_weigh_5 rfl hl (by decide) rfl (fun ls hl => ?_)
  refine lv_aload_n hx hb dX5_weigh_6 rfl (lv_at hl 1 rfl) ?_
  refine m_geti E hM fs_X5_153 ho.1.1 dX5_weigh_7 ?_
  refine va_gets (v := .ref (Z.1 1)) hx hb E.2.2.2.2.1.1 hS E.1.2.2.2.1 (E.1.2.2.2.2 _ (gw_of 642 (by decide +kernel) (by decide +kernel))) (fun _ h9 => h9) dX5_weigh_10 ?_
  refine lv_iload_n hx hb dX5_weigh_13 rfl (lv_at hl 0 rfl) ?_
  obtain ⟨hv, hw⟩ := hw
  refine va_ti (f := fun k => .int (tb_least k)) hx hb E.2.2.2.2.1.2 hS hv rfl dX5_weigh_14 ?_
  refine lv_icmp_lt (tgt := 30) hx hb dX5_weigh_15 (by decide) (fun cq => ?_) (fun cq => ?_)
  · have hw := hw.1 cq
    exact s_X5_weigh_30 E hr hlk ho  hw hM hS (lv_sub hl [1] rfl)
  · have hw := hw.2 cq
    refine lv_aload_n hx hb dX5_weigh_18 rfl (lv_at hl 1 rfl) ?_
    refine m_geti E hM fs_X5_153 ho.1.1 dX5_weigh_19 ?_
    refine va_gets (v := .ref (Z.1 2)) hx hb E.2.2.2.2.2.1.1 hS E.1.2.2.2.1 (E.1.2.2.2.2 _ (gw_of 644 (by decide +kernel) (by decide +kernel))) (fun _ h9 => h9) dX5_weigh_22 ?_
    refine lv_iload_n hx hb dX5_weigh_25 rfl (lv_at hl 0 rfl) ?_
    obtain ⟨hv, hw⟩ := hw
    refine va_ti (f := fun k => .int (tb_most k)) hx hb E.2.2.2.2.2.1.2 hS hv rfl dX5_weigh_26 ?_
    refine lv_icmp_le (tgt := 39) hx hb dX5_weigh_27 (by decide) (fun cq => ?_) (fun cq => ?_)
    · have hw := hw.1 cq
      exact m_retv hx hb hr hlk hM hS ⟨_, rfl, hw⟩ dX5_weigh_39
    · have hw := hw.2 cq
      exact s_X5_weigh_30 E hr hlk ho  hw hM hS (lv_sub hl [1] rfl)
theorem dX5_readValue_0 : decode cX5_readValue 0 = .ok (.iload_n 1, 1) := by decide +kernel
theorem dX5_readValue_1 : decode cX5_readValue 1 = .ok (.bipush 7, 2) := by decide +kernel
theorem dX5_readValue_3 : decode cX5_readValue 3 = .ok (.if_icmp .ne 26, 3) := by decide +kernel
theorem dX5_readValue_6 : decode cX5_readValue 6 = .ok (.iload_n 2, 1) := by decide +kernel
theorem dX5_readValue_7 : decode cX5_readValue 7 = .ok (.iconst 3, 1) := by decide +kernel
theorem dX5_readValue_8 : decode cX5_readValue 8 = .ok (.if_icmp .ne 21, 3) := by decide +kernel
theorem dX5_readValue_11 : decode cX5_readValue 11 = .ok (.aload_n 0, 1) := by decide +kernel
theorem dX5_readValue_12 : decode cX5_readValue 12 = .ok (.getfield 67, 3) := by decide +kernel
theorem dX5_readValue_15 : decode cX5_readValue 15 = .ok (.iconst 3, 1) := by decide +kernel
theorem dX5_readValue_16 : decode cX5_readValue 16 = .ok (.if_icmp .ne 13, 3) := by decide +kernel
theorem dX5_readValue_19 : decode cX5_readValue 19 = .ok (.aload_n 0, 1) := by decide +kernel
theorem dX5_readValue_20 : decode cX5_readValue 20 = .ok (.getfield 25, 3) := by decide +kernel
theorem dX5_readValue_23 : decode cX5_readValue 23 = .ok (.iload_n 2, 1) := by decide +kernel
theorem dX5_readValue_24 : decode cX5_readValue 24 = .ok (.iconst (-1), 1) := by decide +kernel
theorem dX5_readValue_25 : decode cX5_readValue 25 = .ok (.iastore, 1) := by decide +kernel
theorem dX5_readValue_26 : decode cX5_readValue 26 = .ok (.goto 32, 3) := by decide +kernel
theorem dX5_readValue_29 : decode cX5_readValue 29 = .ok (.aload_n 0, 1) := by decide +kernel
theorem dX5_readValue_30 : decode cX5_readValue 30 = .ok (.getfield 67, 3) := by decide +kernel
theorem dX5_readValue_33 : decode cX5_readValue 33 = .ok (.iconst 2, 1) := by decide +kernel
theorem dX5_readValue_34 : decode cX5_readValue 34 = .ok (.if_icmp .ne 22, 3) := by decide +kernel
theorem dX5_readValue_37 : decode cX5_readValue 37 = .ok (.aload_n 0, 1) := by decide +kernel
theorem dX5_readValue_38 : decode cX5_readValue 38 = .ok (.iload_n 1, 1) := by decide +kernel
theorem dX5_readValue_39 : decode cX5_readValue 39 = .ok (.iload_n 2, 1) := by decide +kernel
theorem dX5_readValue_40 : decode cX5_readValue 40 = .ok (.invokevirtual 150, 3) := by decide +kernel
theorem dX5_readValue_43 : decode cX5_readValue 43 = .ok (.aload_n 0, 1) := by decide +kernel
theorem dX5_readValue_44 : decode cX5_readValue 44 = .ok (.getfield 25, 3) := by decide +kernel
theorem dX5_readValue_47 : decode cX5_readValue 47 = .ok (.iload_n 2, 1) := by decide +kernel
theorem dX5_readValue_48 : decode cX5_readValue 48 = .ok (.aload_n 0, 1) := by decide +kernel
theorem dX5_readValue_49 : decode cX5_readValue 49 = .ok (.getfield 153, 3) := by decide +kernel
theorem dX5_readValue_52 : decode cX5_readValue 52 = .ok (.iastore, 1) := by decide +kernel
theorem dX5_readValue_53 : decode cX5_readValue 53 = .ok (.goto 5, 3) := by decide +kernel
theorem dX5_readValue_56 : decode cX5_readValue 56 = .ok (.iconst 0, 1) := by decide +kernel
theorem dX5_readValue_57 : decode cX5_readValue 57 = .ok (.ireturn, 1) := by decide +kernel
theorem dX5_readValue_58 : decode cX5_readValue 58 = .ok (.aload_n 0, 1) := by decide +kernel
theorem dX5_readValue_59 : decode cX5_readValue 59 = .ok (.invokevirtual 64, 3) := by decide +kernel
theorem dX5_readValue_62 : decode cX5_readValue 62 = .ok (.iconst 1, 1) := by decide +kernel
theorem dX5_readValue_63 : decode cX5_readValue 63 = .ok (.ireturn, 1) := by decide +kernel
def w_X5_readValue_58 (o : Nat) (otp : Nat) (a1 : Int32) (a2 : Int32) (post : Bool → mI → Prop) (I : mI) : Prop := w_X5_nextToken I o otp (fun I2 => post true I2)
set_option maxRecDepth 100000 in
set_option maxHeartbeats 4000000 in
theorem s_X5_readValue_58 {p : Program} {l : Launch} {e : Env} {s : State} {m : MethodId} {args : Array Value} {below : List Frame} {meth : Method} {c : Code} {D : va_G} {cA : Nat → ClassId} {Z : mZ} {bs : Ad} {n : Nat} {K : mK} {R : mR} {L : mL} (E : Ev p s m args c cX5_readValue 3 RX5 D cA Z bs) (hr : meth.sig.returnType = (some .boolean)) (hlk : meth.locks = false) {o : Nat} {otp : Nat} {a1 : Int32} {a2 : Int32} (ho : isX5 K R o otp) {post : Bool → mI → Prop} {I : mI} {H : Heap} {locs : List Loc} {ls : Array Slot} (hw : w_X5_readValue_58 o otp a1 a2 post I) (hM : mm D cA bs (n, K, R, I, L) H) (hS : va_S (Ab bs) s.heap H locs) (hl : lv_has ls 3 [(0, .ref (ad bs o))]) : W p l e ({ frames := 3, cells := 0, slots := 0, locals := 60 } : Room) s m args below meth c H locs 0 0 (MQ below (QI D cA bs (fun r u => ∃ b, r = bI b ∧ ∃ I', u = (n, K, R, I', L) ∧ post b I')) args s 0 0 (Ab bs)) (F0 m 58 ls []) := by
  have hx := E.1.1
  have hb := E.1.2.1
  refine lv_aload_n hx hb dX5_readValue_58 rfl (lv_at hl 0 rfl) ?_
  refine m_cv (m_runV E hM hS cs_X5_64 ho.1.1 (by decide) rfl rfl (c_X5_nextToken ho hw) rfl rfl ⟨Nat.le_of_ble_eq_true rfl, Nat.le_of_ble_eq_true rfl⟩ rfl hl.1 rfl (Nat.le_of_ble_eq_true rfl) dX5_readValue_59 ⟨Nat.le_of_ble_eq_true rfl, Nat.le_of_ble_eq_true rfl⟩) hS (fun u H locs hp hM hS => ?_)
  obtain ⟨I2, rfl, hw⟩ := hp
  refine lv_iconst (v := 1) hx hb dX5_readValue_62 (by decide) ?_
  exact m_retz hx hb hr hlk (Or.inr rfl) hM hS ⟨true, rfl, _, rfl, hw⟩ dX5_readValue_63
def w_X5_readValue_29 (o : Nat) (otp : Nat) (a1 : Int32) (a2 : Int32) (post : Bool → mI → Prop) (I : mI) : Prop := (¬ (I o 7) = 2 → post false I) ∧ ((I o 7) = 2 → w_X5_weigh I o otp a1 a2 (fun I3 => vp_in a2 11 ∧ ∀ I4, I4 = up2 I3 (o + 20) a2.toNatClampNeg (I3 o 9) → (w_X5_readValue_58 o otp a1 a2 post) I4))
set_option maxRecDepth 100000 in
set_option maxHeartbeats 4000000 in
theorem s_X5_readValue_29 {p : Program} {l : Launch} {e : Env} {s : State} {m : MethodId} {args : Array Value} {below : List Frame} {meth : Method} {c : Code} {D : va_G} {cA : Nat → ClassId} {Z : mZ} {bs : Ad} {n : Nat} {K : mK} {R : mR} {L : mL} (E : Ev p s m args c cX5_readValue 3 RX5 D cA Z bs) (hr : meth.sig.returnType = (some .boolean)) (hlk : meth.locks = false) {o : Nat} {otp : Nat} {a1 : Int32} {a2 : Int32} (ho : isX5 K R o otp) {post : Bool → mI → Prop} {I : mI} {H : Heap} {locs : List Loc} {ls : Array Slot} (hw : w_X5_readValue_29 o otp a1 a2 post I) (hM : mm D cA bs (n, K, R, I, L) H) (hS : va_S (Ab bs) s.heap H locs) (hl : lv_has ls 3 [(0, .ref (ad bs o)), (1, .int a1), (2, .int a2)]) : W p l e ({ frames := 3, cells := 0, slots := 0, locals := 60 } : Room) s m args below meth c H locs 0 0 (MQ below (QI D cA bs (fun r u => ∃ b, r = bI b ∧ ∃ I', u = (n, K, R, I', L) ∧ post b I')) args s 0 0 (Ab bs)) (F0 m 29 ls []) := by
  have hx := E.1.1
  have hb := E.1.2.1
  refine lv_aload_n hx hb dX5_readValue_29 rfl (lv_at hl 0 rfl) ?_
  refine m_geti E hM fs_X5_67 ho.1.1 dX5_readValue_30 ?_
  refine lv_iconst (v := 2) hx hb dX5_readValue_33 (by decide) ?_
  refine lv_icmp_ne (tgt := 56) hx hb dX5_readValue_34 (by decide) (fun cq => ?_) (fun cq => ?_)
  · have hw := hw.1 cq
    refine lv_iconst (v := 0) hx hb dX5_readValue_56 (by decide) ?_
    exact m_retz hx hb hr hlk (Or.inl rfl) hM hS ⟨false, rfl, _, rfl, hw⟩ dX5_readValue_57
  · have hw := hw.2 cq
    refine lv_aload_n hx hb dX5_readValue_37 rfl (lv_at hl 0 rfl) ?_
    refine lv_iload_n hx hb dX5_readValue_38 rfl (lv_at hl 1 rfl) ?_
    refine lv_iload_n hx hb dX5_readValue_39 rfl (lv_at hl 2 rfl) ?_
    refine m_cv (m_runV E hM hS cs_X5_150 ho.1.1 (by decide) rfl rfl (c_X5_weigh ho hw) rfl rfl ⟨Nat.le_of_ble_eq_true rfl, Nat.le_of_ble_eq_true rfl⟩ rfl hl.1 rfl (Nat.le_of_ble_eq_true rfl) dX5_readValue_40 ⟨Nat.le_of_ble_eq_true rfl, Nat.le_of_ble_eq_true rfl⟩) hS (fun u H locs hp hM hS => ?_)
    obtain ⟨I3, rfl, hw⟩ := hp
    refine lv_aload_n hx hb dX5_readValue_43 rfl (lv_at hl 0 rfl) ?_
    refine m_getr E hM fs_X5_25 ho.1.1 (isO_at ho.1 0 rfl).1 dX5_readValue_44 ?_
    refine lv_iload_n hx hb dX5_readValue_47 rfl (lv_at hl 2 rfl) ?_
    refine lv_aload_n hx hb dX5_readValue_48 rfl (lv_at hl 0 rfl) ?_
    refine m_geti E hM fs_X5_153 ho.1.1 dX5_readValue_49 ?_
    obtain ⟨hv, hw⟩ := hw
    refine m_iast E hM hS (isO_at ho.1 0 rfl).2 hv dX5_readValue_52 (fun I4 H locs eI4 hM hS => ?_)
    have hw := hw I4 eI4
    refine lv_goto (tgt := 58) hx hb dX5_readValue_53 (by decide) ?_
    exact s_X5_readValue_58 E hr hlk ho  hw hM hS (lv_sub hl [0] rfl)
def w_X5_readValue (I : mI) (o : Nat) (otp : Nat) (a1 : Int32) (a2 : Int32) (post : Bool → mI → Prop) : Prop := (¬ a1 = 7 → (w_X5_readValue_29 o otp a1 a2 post) I) ∧ (a1 = 7 → (¬ a2 = 3 → (w_X5_readValue_29 o otp a1 a2 post) I) ∧ (a2 = 3 → (¬ (I o 7) = 3 → (w_X5_readValue_29 o otp a1 a2 post) I) ∧ ((I o 7) = 3 → vp_in a2 11 ∧ ∀ I1, I1 = up2 I (o + 20) a2.toNatClampNeg (-1) → (w_X5_readValue_58 o otp a1 a2 post) I1)))
set_option maxRecDepth 100000 in
set_option maxHeartbeats 4000000 in
theorem c_X5_readValue {l : Launch} {D : va_G} {cA : Nat → ClassId} {Z : mZ} {bs : Ad} {n : Nat} {K : mK} {R : mR} {I : mI} {L : mL} {o : Nat} {otp : Nat} {a1 : Int32} {a2 : Int32} {post : Bool → mI → Prop} (ho : isX5 K R o otp) (hw : w_X5_readValue I o otp a1 a2 post) : Met l yX5_readValue (.code yX5_readValue cX5_readValue 3 (some .boolean) :: gw) ({ frames := 3, cells := 0, slots := 0, locals := 60 } : Room) (PreM D cA Z bs (n, K, R, I, L) [.ref (ad bs o), .int a1, .int a2]) (QI D cA bs (fun r u => ∃ b, r = bI b ∧ ∃ I', u = (n, K, R, I', L) ∧ post b I')) 0 0 (Ab bs) := by
  refine m_met (by decide) (Nat.le_of_ble_eq_true rfl) (fun p e s m below meth c ls E hr hlk hM hS hl => ?_)
  have E : Ev p s m _ c cX5_readValue 3 RX5 D cA Z bs := E
  have hl : lv_has ls 3 [(0, .ref (ad bs o)), (1, .int a1), (2, .int a2)] := hl
  have hx := E.1.1
  have hb := E.1.2.1
  generalize hHe : s.heap = H at hM ⊢
  have hS : va_S (Ab bs) s.heap H [] := by rw [← hHe]; exact va_S.rf
  clear hHe
  refine lv_iload_n hx hb dX5_readValue_0 rfl (lv_at hl 1 rfl) ?_
  refine lv_bipush (v := 7) hx hb dX5_readValue_1 (by decide) ?_
  refine lv_icmp_ne (tgt := 29) hx hb dX5_readValue_3 (by decide) (fun cq => ?_) (fun cq => ?_)
  · have hw := hw.1 cq
    exact s_X5_readValue_29 E hr hlk ho  hw hM hS (lv_sub hl [0, 1, 2] rfl)
  · have hw := hw.2 cq
    refine lv_iload_n hx hb dX5_readValue_6 rfl (lv_at hl 2 rfl) ?_
    refine lv_iconst (v := 3) hx hb dX5_readValue_7 (by decide) ?_
    refine lv_icmp_ne (tgt := 29) hx hb dX5_readValue_8 (by decide) (fun cq => ?_) (fun cq => ?_)
    · have hw := hw.1 cq
      exact s_X5_readValue_29 E hr hlk ho  hw hM hS (lv_sub hl [0, 1, 2] rfl)
    · have hw := hw.2 cq
      refine lv_aload_n hx hb dX5_readValue_11 rfl (lv_at hl 0 rfl) ?_
      refine m_geti E hM fs_X5_67 ho.1.1 dX5_readValue_12 ?_
      refine lv_iconst (v := 3) hx hb dX5_readValue_15 (by decide) ?_
      refine lv_icmp_ne (tgt := 29) hx hb dX5_readValue_16 (by decide) (fun cq => ?_) (fun cq => ?_)
      · have hw := hw.1 cq
        exact s_X5_readValue_29 E hr hlk ho  hw hM hS (lv_sub hl [0, 1, 2] rfl)
      · have hw := hw.2 cq
        refine lv_aload_n hx hb dX5_readValue_19 rfl (lv_at hl 0 rfl) ?_
        refine m_getr E hM fs_X5_25 ho.1.1 (isO_at ho.1 0 rfl).1 dX5_readValue_20 ?_
        refine lv_iload_n hx hb dX5_readValue_23 rfl (lv_at hl 2 rfl) ?_
        refine lv_iconst (v := (-1)) hx hb dX5_readValue_24 (by decide) ?_
        obtain ⟨hv, hw⟩ := hw
        refine m_iast E hM hS (isO_at ho.1 0 rfl).2 hv dX5_readValue_25 (fun I1 H locs eI1 hM hS => ?_)
        have hw := hw I1 eI1
        refine lv_goto (tgt := 58) hx hb dX5_readValue_26 (by decide) ?_
        exact s_X5_readValue_58 E hr hlk ho  hw hM hS (lv_sub hl [0] rfl)
