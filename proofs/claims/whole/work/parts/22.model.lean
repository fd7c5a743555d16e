theorem dX12_meet_0 : decode cX12_meet 0 = .ok (.aload_n 0, 1) := by decide +kernel
theorem dX12_meet_1 : decode cX12_meet 1 = .ok (.iload_n 1, 1) := by decide +kernel
theorem dX12_meet_2 : decode cX12_meet 2 = .ok (.invokevirtual 214, 3) := by decide +kernel
theorem dX12_meet_5 : decode cX12_meet 5 = .ok (.ifCond .eq 24, 3) := by decide +kernel
theorem dX12_meet_8 : decode cX12_meet 8 = .ok (.aload_n 0, 1) := by decide +kernel
theorem dX12_meet_9 : decode cX12_meet 9 = .ok (.iload_n 2, 1) := by decide +kernel
theorem dX12_meet_10 : decode cX12_meet 10 = .ok (.invokevirtual 303, 3) := by decide +kernel
theorem dX12_meet_13 : decode cX12_meet 13 = .ok (.ifCond .eq 16, 3) := by decide +kernel
theorem dX12_meet_16 : decode cX12_meet 16 = .ok (.aload_n 0, 1) := by decide +kernel
theorem dX12_meet_17 : decode cX12_meet 17 = .ok (.iload_n 3, 1) := by decide +kernel
theorem dX12_meet_18 : decode cX12_meet 18 = .ok (.invokevirtual 303, 3) := by decide +kernel
theorem dX12_meet_21 : decode cX12_meet 21 = .ok (.ifCond .eq 8, 3) := by decide +kernel
theorem dX12_meet_24 : decode cX12_meet 24 = .ok (.iload_n 2, 1) := by decide +kernel
theorem dX12_meet_25 : decode cX12_meet 25 = .ok (.iload_n 3, 1) := by decide +kernel
theorem dX12_meet_26 : decode cX12_meet 26 = .ok (.if_icmp .ne 5, 3) := by decide +kernel
theorem dX12_meet_29 : decode cX12_meet 29 = .ok (.iconst (-1), 1) := by decide +kernel
theorem dX12_meet_30 : decode cX12_meet 30 = .ok (.ireturn, 1) := by decide +kernel
theorem dX12_meet_31 : decode cX12_meet 31 = .ok (.aload_n 0, 1) := by decide +kernel
theorem dX12_meet_32 : decode cX12_meet 32 = .ok (.invokevirtual 306, 3) := by decide +kernel
theorem dX12_meet_35 : decode cX12_meet 35 = .ok (.iconst 0, 1) := by decide +kernel
theorem dX12_meet_36 : decode cX12_meet 36 = .ok (.istore 5, 2) := by decide +kernel
theorem dX12_meet_38 : decode cX12_meet 38 = .ok (.iconst 0, 1) := by decide +kernel
theorem dX12_meet_39 : decode cX12_meet 39 = .ok (.istore 6, 2) := by decide +kernel
theorem dX12_meet_41 : decode cX12_meet 41 = .ok (.iload 6, 2) := by decide +kernel
theorem dX12_meet_43 : decode cX12_meet 43 = .ok (.bipush 100, 2) := by decide +kernel
theorem dX12_meet_45 : decode cX12_meet 45 = .ok (.if_icmp .ge 91, 3) := by decide +kernel
theorem dX12_meet_48 : decode cX12_meet 48 = .ok (.iload 4, 2) := by decide +kernel
theorem dX12_meet_50 : decode cX12_meet 50 = .ok (.ifCond .ne 49, 3) := by decide +kernel
theorem dX12_meet_53 : decode cX12_meet 53 = .ok (.aload_n 0, 1) := by decide +kernel
theorem dX12_meet_54 : decode cX12_meet 54 = .ok (.getfield 44, 3) := by decide +kernel
theorem dX12_meet_57 : decode cX12_meet 57 = .ok (.bipush 100, 2) := by decide +kernel
theorem dX12_meet_59 : decode cX12_meet 59 = .ok (.iload_n 2, 1) := by decide +kernel
theorem dX12_meet_60 : decode cX12_meet 60 = .ok (.imul, 1) := by decide +kernel
theorem dX12_meet_61 : decode cX12_meet 61 = .ok (.iload 6, 2) := by decide +kernel
theorem dX12_meet_63 : decode cX12_meet 63 = .ok (.iadd, 1) := by decide +kernel
theorem dX12_meet_64 : decode cX12_meet 64 = .ok (.iaload, 1) := by decide +kernel
theorem dX12_meet_65 : decode cX12_meet 65 = .ok (.iconst (-1), 1) := by decide +kernel
theorem dX12_meet_66 : decode cX12_meet 66 = .ok (.if_icmp .eq 33, 3) := by decide +kernel
theorem dX12_meet_69 : decode cX12_meet 69 = .ok (.aload_n 0, 1) := by decide +kernel
theorem dX12_meet_70 : decode cX12_meet 70 = .ok (.getfield 44, 3) := by decide +kernel
theorem dX12_meet_73 : decode cX12_meet 73 = .ok (.bipush 100, 2) := by decide +kernel
theorem dX12_meet_75 : decode cX12_meet 75 = .ok (.iload_n 2, 1) := by decide +kernel
theorem dX12_meet_76 : decode cX12_meet 76 = .ok (.imul, 1) := by decide +kernel
theorem dX12_meet_77 : decode cX12_meet 77 = .ok (.iload 6, 2) := by decide +kernel
theorem dX12_meet_79 : decode cX12_meet 79 = .ok (.iadd, 1) := by decide +kernel
theorem dX12_meet_80 : decode cX12_meet 80 = .ok (.iaload, 1) := by decide +kernel
theorem dX12_meet_81 : decode cX12_meet 81 = .ok (.aload_n 0, 1) := by decide +kernel
theorem dX12_meet_82 : decode cX12_meet 82 = .ok (.getfield 44, 3) := by decide +kernel
theorem dX12_meet_85 : decode cX12_meet 85 = .ok (.bipush 100, 2) := by decide +kernel
theorem dX12_meet_87 : decode cX12_meet 87 = .ok (.iload_n 3, 1) := by decide +kernel
theorem dX12_meet_88 : decode cX12_meet 88 = .ok (.imul, 1) := by decide +kernel
theorem dX12_meet_89 : decode cX12_meet 89 = .ok (.iload 6, 2) := by decide +kernel
theorem dX12_meet_91 : decode cX12_meet 91 = .ok (.iadd, 1) := by decide +kernel
theorem dX12_meet_92 : decode cX12_meet 92 = .ok (.iaload, 1) := by decide +kernel
theorem dX12_meet_93 : decode cX12_meet 93 = .ok (.if_icmp .ne 6, 3) := by decide +kernel
theorem dX12_meet_96 : decode cX12_meet 96 = .ok (.iload 6, 2) := by decide +kernel
theorem dX12_meet_98 : decode cX12_meet 98 = .ok (.ireturn, 1) := by decide +kernel
theorem dX12_meet_99 : decode cX12_meet 99 = .ok (.iload 5, 2) := by decide +kernel
theorem dX12_meet_101 : decode cX12_meet 101 = .ok (.iload 4, 2) := by decide +kernel
theorem dX12_meet_103 : decode cX12_meet 103 = .ok (.ifCond .eq 23, 3) := by decide +kernel
theorem dX12_meet_106 : decode cX12_meet 106 = .ok (.iload 6, 2) := by decide +kernel
theorem dX12_meet_108 : decode cX12_meet 108 = .ok (.ifCond .le 18, 3) := by decide +kernel
theorem dX12_meet_111 : decode cX12_meet 111 = .ok (.aload_n 0, 1) := by decide +kernel
theorem dX12_meet_112 : decode cX12_meet 112 = .ok (.iload_n 2, 1) := by decide +kernel
theorem dX12_meet_113 : decode cX12_meet 113 = .ok (.iload_n 3, 1) := by decide +kernel
theorem dX12_meet_114 : decode cX12_meet 114 = .ok (.iload 6, 2) := by decide +kernel
theorem dX12_meet_116 : decode cX12_meet 116 = .ok (.invokevirtual 421, 3) := by decide +kernel
theorem dX12_meet_119 : decode cX12_meet 119 = .ok (.ifCond .eq 7, 3) := by decide +kernel
theorem dX12_meet_122 : decode cX12_meet 122 = .ok (.iconst 1, 1) := by decide +kernel
theorem dX12_meet_123 : decode cX12_meet 123 = .ok (.goto 4, 3) := by decide +kernel
theorem dX12_meet_126 : decode cX12_meet 126 = .ok (.iconst 0, 1) := by decide +kernel
theorem dX12_meet_127 : decode cX12_meet 127 = .ok (.iadd, 1) := by decide +kernel
theorem dX12_meet_128 : decode cX12_meet 128 = .ok (.istore 5, 2) := by decide +kernel
theorem dX12_meet_130 : decode cX12_meet 130 = .ok (.iinc 6 1, 3) := by decide +kernel
theorem dX12_meet_133 : decode cX12_meet 133 = .ok (.goto (-92), 3) := by decide +kernel
theorem dX12_meet_136 : decode cX12_meet 136 = .ok (.iload 4, 2) := by decide +kernel
theorem dX12_meet_138 : decode cX12_meet 138 = .ok (.ifCond .eq 8, 3) := by decide +kernel
theorem dX12_meet_141 : decode cX12_meet 141 = .ok (.iload 5, 2) := by decide +kernel
theorem dX12_meet_143 : decode cX12_meet 143 = .ok (.goto 4, 3) := by decide +kernel
theorem dX12_meet_146 : decode cX12_meet 146 = .ok (.iconst (-1), 1) := by decide +kernel
theorem dX12_meet_147 : decode cX12_meet 147 = .ok (.ireturn, 1) := by decide +kernel
def w_X12_meet_99 (o : Nat) (a1 : Int32) (a2 : Int32) (a3 : Int32) (a4 : Int32) (post : Int32 → mI → Prop) (k41 : mI → Int32 → Int32 → Prop) (I : mI) (v5 : Int32) (v6 : Int32) : Prop := (a4 = 0 → ∀ x6, x6 = (v5 + 0) → ∀ x7, x7 = v6 + 1 → k41 I x6 x7) ∧ (¬ a4 = 0 → (v6 ≤ 0 → ∀ x8, x8 = (v5 + 0) → ∀ x9, x9 = v6 + 1 → k41 I x8 x9) ∧ (¬ v6 ≤ 0 → w_X12_isPass I o a2 a3 v6 (fun b10 => (b10 = false → ∀ x11, x11 = (v5 + 0) → ∀ x12, x12 = v6 + 1 → k41 I x11 x12) ∧ (b10 = true → ∀ x13, x13 = (v5 + 1) → ∀ x14, x14 = v6 + 1 → k41 I x13 x14))))
set_option maxRecDepth 100000 in
set_option maxHeartbeats 4000000 in
theorem s_X12_meet_99 {p : Program} {l : Launch} {e : Env} {s : State} {m : MethodId} {args : Array Value} {below : List Frame} {meth : Method} {c : Code} {D : va_G} {cA : Nat → ClassId} {Z : mZ} {bs : Ad} {n : Nat} {K : mK} {R : mR} {L : mL} (E : Ev p s m args c cX12_meet 7 RX12 D cA Z bs) (hr : meth.sig.returnType = (some .int)) (hlk : meth.locks = false) {o : Nat} {a1 : Int32} {a2 : Int32} {a3 : Int32} {a4 : Int32} (ho : isX12 K R o) {post : Int32 → mI → Prop} {k41 : mI → Int32 → Int32 → Prop} (hk41 : ∀ (I : mI) (v5 : Int32) (v6 : Int32) (H : Heap) (locs : List Loc) (ls : Array Slot), k41 I v5 v6 → mm D cA bs (n, K, R, I, L) H → va_S (Ab bs) s.heap H locs → lv_has ls 7 [(0, .ref (ad bs o)), (2, .int a2), (3, .int a3), (4, .int a4), (5, .int v5), (6, .int v6)] → W p l e ({ frames := 7, cells := 0, slots := 0, locals := 159 } : Room) s m args below meth c H locs 0 0 (MQ below (QI D cA bs (fun r u => ∃ I', u = (n, K, R, I', L) ∧ post r I')) args s 0 0 (Ab bs)) (F0 m 41 ls [])) {I : mI} {v5 : Int32} {v6 : Int32} {H : Heap} {locs : List Loc} {ls : Array Slot} (hw : w_X12_meet_99 o a1 a2 a3 a4 post k41 I v5 v6) (hM : mm D cA bs (n, K, R, I, L) H) (hS : va_S (Ab bs) s.heap H locs) (hl : lv_has ls 7 [(0, .ref (ad bs o)), (2, .int a2), (3, .int a3), (4, .int a4), (5, .int v5), (6, .int v6)]) : W p l e ({ frames := 7, cells := 0, slots := 0, locals := 159 } : Room) s m args below meth c H locs 0 0 (MQ below (QI D cA bs (fun r u => ∃ I', u = (n, K, R, I', L) ∧ post r I')) args s 0 0 (Ab bs)) (F0 m 99 ls []) := by
  have hx := E.1.1
  have hb := E.1.2.1
  refine lv_iload hx hb dX12_meet_99 (lv_at hl 4 rfl) ?_
  refine lv_iload hx hb dX12_meet_101 (lv_at hl 3 rfl) ?_
  refine lv_if_eq (tgt := 126) hx hb dX12_meet_103 (by decide) (fun cq => ?_) (fun cq => ?_)
  · have hw := hw.1 cq
    refine lv_iconst (v := 0) hx hb dX12_meet_126 (by decide) ?_
    refine lv_iadd hx hb dX12_meet_127 ?_
    refine lv_topi (fun x6 ex6 => ?_)
    have hw := hw x6 ex6
    refine lv_istore (lv' := [(5, .int x6), (0, .ref (ad bs o)), (2, .int a2), (3, .int a3), (4, .int a4), (6, .int v6)]) hx hb dX12_meet_128 hl (by decide) rfl (fun ls hl => ?_)
    obtain ⟨x7, ex7⟩ : ∃ y : Int32, y = v6 + 1 := ⟨_, rfl⟩
    have hw := hw x7 ex7
    refine lv_iinc (v := x7) (lv' := [(6, .int x7), (5, .int x6), (0, .ref (ad bs o)), (2, .int a2), (3, .int a3), (4, .int a4)]) hx hb dX12_meet_130 hl (k := 5) rfl (by rw [ex7]; rfl) (by decide) rfl (fun ls hl => ?_)
    refine lv_goto (tgt := 41) hx hb dX12_meet_133 (by decide) ?_
    exact hk41 _ _ _ H locs ls  hw hM hS (lv_sub hl [2, 3, 4, 5, 1, 0] rfl)
  · have hw := hw.2 cq
    refine lv_iload hx hb dX12_meet_106 (lv_at hl 5 rfl) ?_
    refine lv_if_le (tgt := 126) hx hb dX12_meet_108 (by decide) (fun cq => ?_) (fun cq => ?_)
    · have hw := hw.1 cq
      refine lv_iconst (v := 0) hx hb dX12_meet_126 (by decide) ?_
      refine lv_iadd hx hb dX12_meet_127 ?_
      refine lv_topi (fun x8 ex8 => ?_)
      have hw := hw x8 ex8
      refine lv_istore (lv' := [(5, .int x8), (0, .ref (ad bs o)), (2, .int a2), (3, .int a3), (4, .int a4), (6, .int v6)]) hx hb dX12_meet_128 hl (by decide) rfl (fun ls hl => ?_)
      obtain ⟨x9, ex9⟩ : ∃ y : Int32, y = v6 + 1 := ⟨_, rfl⟩
      have hw := hw x9 ex9
      refine lv_iinc (v := x9) (lv' := [(6, .int x9), (5, .int x8), (0, .ref (ad bs o)), (2, .int a2), (3, .int a3), (4, .int a4)]) hx hb dX12_meet_130 hl (k := 5) rfl (by rw [ex9]; rfl) (by decide) rfl (fun ls hl => ?_)
      refine lv_goto (tgt := 41) hx hb dX12_meet_133 (by decide) ?_
      exact hk41 _ _ _ H locs ls  hw hM hS (lv_sub hl [2, 3, 4, 5, 1, 0] rfl)
    · have hw := hw.2 cq
      refine lv_aload_n hx hb dX12_meet_111 rfl (lv_at hl 0 rfl) ?_
      refine lv_iload_n hx hb dX12_meet_112 rfl (lv_at hl 1 rfl) ?_
      refine lv_iload_n hx hb dX12_meet_113 rfl (lv_at hl 2 rfl) ?_
      refine lv_iload hx hb dX12_meet_114 (lv_at hl 5 rfl) ?_
      refine m_ci (m_runV E hM hS cs_X12_421 ho.1 (by decide) rfl rfl (c_X12_isPass ho hw) rfl rfl ⟨Nat.le_of_ble_eq_true rfl, Nat.le_of_ble_eq_true rfl⟩ rfl hl.1 rfl (Nat.le_of_ble_eq_true rfl) dX12_meet_116 ⟨Nat.le_of_ble_eq_true rfl, Nat.le_of_ble_eq_true rfl⟩) hS (fun r9 u H locs hp hM hS => ?_)
      obtain ⟨b10, rfl, rfl, hw⟩ := hp
      refine lv_if_eq (tgt := 126) hx hb dX12_meet_119 (by decide) (fun cq => ?_) (fun cq => ?_)
      · have hw := hw.1 (bI_f cq)
        refine lv_iconst (v := 0) hx hb dX12_meet_126 (by decide) ?_
        refine lv_iadd hx hb dX12_meet_127 ?_
        refine lv_topi (fun x11 ex11 => ?_)
        have hw := hw x11 ex11
        refine lv_istore (lv' := [(5, .int x11), (0, .ref (ad bs o)), (2, .int a2), (3, .int a3), (4, .int a4), (6, .int v6)]) hx hb dX12_meet_128 hl (by decide) rfl (fun ls hl => ?_)
        obtain ⟨x12, ex12⟩ : ∃ y : Int32, y = v6 + 1 := ⟨_, rfl⟩
        have hw := hw x12 ex12
        refine lv_iinc (v := x12) (lv' := [(6, .int x12), (5, .int x11), (0, .ref (ad bs o)), (2, .int a2), (3, .int a3), (4, .int a4)]) hx hb dX12_meet_130 hl (k := 5) rfl (by rw [ex12]; rfl) (by decide) rfl (fun ls hl => ?_)
        refine lv_goto (tgt := 41) hx hb dX12_meet_133 (by decide) ?_
        exact hk41 _ _ _ H locs ls  hw hM hS (lv_sub hl [2, 3, 4, 5, 1, 0] rfl)
      · have hw := hw.2 (bI_t cq)
        refine lv_iconst (v := 1) hx hb dX12_meet_122 (by decide) ?_
        refine lv_goto (tgt := 127) hx hb dX12_meet_123 (by decide) ?_
        refine lv_iadd hx hb dX12_meet_127 ?_
        refine lv_topi (fun x13 ex13 => ?_)
        have hw := hw x13 ex13
        refine lv_istore (lv' := [(5, .int x13), (0, .ref (ad bs o)), (2, .int a2), (3, .int a3), (4, .int a4), (6, .int v6)]) hx hb dX12_meet_128 hl (by decide) rfl (fun ls hl => ?_)
        obtain ⟨x14, ex14⟩ : ∃ y : Int32, y = v6 + 1 := ⟨_, rfl⟩
        have hw := hw x14 ex14
        refine lv_iinc (v := x14) (lv' := [(6, .int x14), (5, .int x13), (0, .ref (ad bs o)), (2, .int a2), (3, .int a3), (4, .int a4)]) hx hb dX12_meet_130 hl (k := 5) rfl (by rw [ex14]; rfl) (by decide) rfl (fun ls hl => ?_)
        refine lv_goto (tgt := 41) hx hb dX12_meet_133 (by decide) ?_
        exact hk41 _ _ _ H locs ls  hw hM hS (lv_sub hl [2, 3, 4, 5, 1, 0] rfl)
def w_X12_meet_41 (o : Nat) (a1 : Int32) (a2 : Int32) (a3 : Int32) (a4 : Int32) (post : Int32 → mI → Prop) (k136 : mI → Int32 → Prop) (I : mI) (v5 : Int32) (v6 : Int32) : Prop := ∀ ZZ : (mI → Int32 → Int32 → Prop), (∀ (I : mI) (v5 : Int32) (v6 : Int32), ((100 ≤ v6 → k136 I v5) ∧ (¬ 100 ≤ v6 → (¬ a4 = 0 → (w_X12_meet_99 o a1 a2 a3 a4 post ZZ) I v5 v6) ∧ (a4 = 0 → vp_in ((100 * a2) + v6) 600 ∧ ((I (o + 12) ((100 * a2) + v6).toNatClampNeg) = (-1) → (w_X12_meet_99 o a1 a2 a3 a4 post ZZ) I v5 v6) ∧ (¬ (I (o + 12) ((100 * a2) + v6).toNatClampNeg) = (-1) → vp_in ((100 * a2) + v6) 600 ∧ vp_in ((100 * a3) + v6) 600 ∧ (¬ (I (o + 12) ((100 * a2) + v6).toNatClampNeg) = (I (o + 12) ((100 * a3) + v6).toNatClampNeg) → (w_X12_meet_99 o a1 a2 a3 a4 post ZZ) I v5 v6) ∧ ((I (o + 12) ((100 * a2) + v6).toNatClampNeg) = (I (o + 12) ((100 * a3) + v6).toNatClampNeg) → post v6 I))))) → ZZ I v5 v6) → ZZ I v5 v6
set_option maxRecDepth 100000 in
set_option maxHeartbeats 4000000 in
theorem s_X12_meet_41 {p : Program} {l : Launch} {e : Env} {s : State} {m : MethodId} {args : Array Value} {below : List Frame} {meth : Method} {c : Code} {D : va_G} {cA : Nat → ClassId} {Z : mZ} {bs : Ad} {n : Nat} {K : mK} {R : mR} {L : mL} (E : Ev p s m args c cX12_meet 7 RX12 D cA Z bs) (hr : meth.sig.returnType = (some .int)) (hlk : meth.locks = false) {o : Nat} {a1 : Int32} {a2 : Int32} {a3 : Int32} {a4 : Int32} (ho : isX12 K R o) {post : Int32 → mI → Prop} {k136 : mI → Int32 → Prop} (hk136 : ∀ (I : mI) (v5 : Int32) (H : Heap) (locs : List Loc) (ls : Array Slot), k136 I v5 → mm D cA bs (n, K, R, I, L) H → va_S (Ab bs) s.heap H locs → lv_has ls 7 [(4, .int a4), (5, .int v5)] → W p l e ({ frames := 7, cells := 0, slots := 0, locals := 159 } : Room) s m args below meth c H locs 0 0 (MQ below (QI D cA bs (fun r u => ∃ I', u = (n, K, R, I', L) ∧ post r I')) args s 0 0 (Ab bs)) (F0 m 136 ls [])) {I : mI} {v5 : Int32} {v6 : Int32} {H : Heap} {locs : List Loc} {ls : Array Slot} (hw : w_X12_meet_41 o a1 a2 a3 a4 post k136 I v5 v6) (hM : mm D cA bs (n, K, R, I, L) H) (hS : va_S (Ab bs) s.heap H locs) (hl : lv_has ls 7 [(0, .ref (ad bs o)), (2, .int a2), (3, .int a3), (4, .int a4), (5, .int v5), (6, .int v6)]) : W p l e ({ frames := 7, cells := 0, slots := 0, locals := 159 } : Room) s m args below meth c H locs 0 0 (MQ below (QI D cA bs (fun r u => ∃ I', u = (n, K, R, I', L) ∧ post r I')) args s 0 0 (Ab bs)) (F0 m 41 ls []) := by
  have hx := E.1.1
  have hb := E.1.2.1
  refine hw (fun I v5 v6 => ∀ (H : Heap) (locs : List Loc) (ls : Array Slot), mm D cA bs (n, K, R, I, L) H → va_S (Ab bs) s.heap H locs → lv_has ls 7 [(0, .ref (ad bs o)), (2, .int a2), (3, .int a3), (4, .int a4), (5, .int v5), (6, .int v6)] → W p l e ({ frames := 7, cells := 0, slots := 0, locals := 159 } : Room) s m args below meth c H locs 0 0 (MQ below (QI D cA bs (fun r u => ∃ I', u = (n, K, R, I', L) ∧ post r I')) args s 0 0 (Ab bs)) (F0 m 41 ls [])) ?_ H locs ls hM hS hl
  clear hw hM hS hl
  intro I v5 v6 hw H locs ls hM hS hl
  refine lv_iload hx hb dX12_meet_41 (lv_at hl 5 rfl) ?_
  refine lv_bipush (v := 100) hx hb dX12_meet_43 (by decide) ?_
  refine lv_icmp_ge (tgt := 136) hx hb dX12_meet_45 (by decide) (fun cq => ?_) (fun cq => ?_)
  · have hw := hw.1 cq
    exact hk136 _ _ H locs ls  hw hM hS (lv_sub hl [3, 4] rfl)
  · have hw := hw.2 cq
    refine lv_iload hx hb dX12_meet_48 (lv_at hl 3 rfl) ?_
    refine lv_if_ne (tgt := 99) hx hb dX12_meet_50 (by decide) (fun cq => ?_) (fun cq => ?_)
    · have hw := hw.1 cq
      exact s_X12_meet_99 E hr hlk ho (fun I v5 v6 H locs ls  hw hM hS hl => hw H locs ls  hM hS hl)  hw hM hS (lv_sub hl [0, 1, 2, 3, 4, 5] rfl)
    · have hw := hw.2 cq
      refine lv_aload_n hx hb dX12_meet_53 rfl (lv_at hl 0 rfl) ?_
      refine m_getr E hM fs_X12_44 ho.1 (isO_at ho 11 rfl).1 dX12_meet_54 ?_
      refine lv_bipush (v := 100) hx hb dX12_meet_57 (by decide) ?_
      refine lv_iload_n hx hb dX12_meet_59 rfl (lv_at hl 1 rfl) ?_
      refine lv_imul hx hb dX12_meet_60 ?_
      refine lv_iload hx hb dX12_meet_61 (lv_at hl 5 rfl) ?_
      refine lv_iadd hx hb dX12_meet_63 ?_
      obtain ⟨hv, hw⟩ := hw
      refine m_iald E hM (isO_at ho 11 rfl).2 hv dX12_meet_64 ?_
      refine lv_iconst (v := (-1)) hx hb dX12_meet_65 (by decide) ?_
      refine lv_icmp_eq (tgt := 99) hx hb dX12_meet_66 (by decide) (fun cq => ?_) (fun cq => ?_)
      · have hw := hw.1 cq
        exact s_X12_meet_99 E hr hlk ho (fun I v5 v6 H locs ls  hw hM hS hl => hw H locs ls  hM hS hl)  hw hM hS (lv_sub hl [0, 1, 2, 3, 4, 5] rfl)
      · have hw := hw.2 cq
        refine lv_aload_n hx hb dX12_meet_69 rfl (lv_at hl 0 rfl) ?_
        refine m_getr E hM fs_X12_44 ho.1 (isO_at ho 11 rfl).1 dX12_meet_70 ?_
        refine lv_bipush (v := 100) hx hb dX12_meet_73 (by decide) ?_
        refine lv_iload_n hx hb dX12_meet_75 rfl (lv_at hl 1 rfl) ?_
        refine lv_imul hx hb dX12_meet_76 ?_
        refine lv_iload hx hb dX12_meet_77 (lv_at hl 5 rfl) ?_
        refine lv_iadd hx hb dX12_meet_79 ?_
        obtain ⟨hv, hw⟩ := hw
        refine m_iald E hM (isO_at ho 11 rfl).2 hv dX12_meet_80 ?_
        refine lv_aload_n hx hb dX12_meet_81 rfl (lv_at hl 0 rfl) ?_
        refine m_getr E hM fs_X12_44 ho.1 (isO_at ho 11 rfl).1 dX12_meet_82 ?_
        refine lv_bipush (v := 100) hx hb dX12_meet_85 (by decide) ?_
        refine lv_iload_n hx hb dX12_meet_87 rfl (lv_at hl 2 rfl) ?_
        refine lv_imul hx hb dX12_meet_88 ?_
        refine lv_iload hx hb dX12_meet_89 (lv_at hl 5 rfl) ?_
        refine lv_iadd hx hb dX12_meet_91 ?_
        obtain ⟨hv, hw⟩ := hw
        refine m_iald E hM (isO_at ho 11 rfl).2 hv dX12_meet_92 ?_
        refine lv_icmp_ne (tgt := 99) hx hb dX12_meet_93 (by decide) (fun cq => ?_) (fun cq => ?_)
        · have hw := hw.1 cq
          exact s_X12_meet_99 E hr hlk ho (fun I v5 v6 H locs ls  hw hM hS hl => hw H locs ls  hM hS hl)  hw hM hS (lv_sub hl [0, 1, 2, 3, 4, 5] rfl)
        · have hw := hw.2 cq
          refine lv_iload hx hb dX12_meet_96 (lv_at hl 5 rfl) ?_
          exact m_reti hx hb hr hlk hM hS ⟨_, rfl, hw⟩ dX12_meet_98
def w_X12_meet_136 (o : Nat) (a1 : Int32) (a2 : Int32) (a3 : Int32) (a4 : Int32) (post : Int32 → mI → Prop) (I : mI) (v5 : Int32) : Prop := (a4 = 0 → post (-1) I) ∧ (¬ a4 = 0 → post v5 I)
set_option maxRecDepth 100000 in
set_option maxHeartbeats 4000000 in
theorem s_X12_meet_136 {p : Program} {l : Launch} {e : Env} {s : State} {m : MethodId} {args : Array Value} {below : List Frame} {meth : Method} {c : Code} {D : va_G} {cA : Nat → ClassId} {Z : mZ} {bs : Ad} {n : Nat} {K : mK} {R : mR} {L : mL} (E : Ev p s m args c cX12_meet 7 RX12 D cA Z bs) (hr : meth.sig.returnType = (some .int)) (hlk : meth.locks = false) {o : Nat} {a1 : Int32} {a2 : Int32} {a3 : Int32} {a4 : Int32} (ho : isX12 K R o) {post : Int32 → mI → Prop} {I : mI} {v5 : Int32} {H : Heap} {locs : List Loc} {ls : Array Slot} (hw : w_X12_meet_136 o a1 a2 a3 a4 post I v5) (hM : mm D cA bs (n, K, R, I, L) H) (hS : va_S (Ab bs) s.heap H locs) (hl : lv_has ls 7 [(4, .int a4), (5, .int v5)]) : W p l e ({ frames := 7, cells := 0, slots := 0, locals := 159 } : Room) s m args below meth c H locs 0 0 (MQ below (QI D cA bs (fun r u => ∃ I', u = (n, K, R, I', L) ∧ post r I')) args s 0 0 (Ab bs)) (F0 m 136 ls []) := by
  have hx := E.1.1
  have hb := E.1.2.1
  refine lv_iload hx hb dX12_meet_136 (lv_at hl 0 rfl) ?_
  refine lv_if_eq (tgt := 146) hx hb dX12_meet_138 (by decide) (fun cq => ?_) (fun cq => ?_)
  · have hw := hw.1 cq
    refine lv_iconst (v := (-1)) hx hb dX12_meet_146 (by decide) ?_
    exact m_reti hx hb hr hlk hM hS ⟨_, rfl, hw⟩ dX12_meet_147
  · have hw := hw.2 cq
    refine lv_iload hx hb dX12_meet_141 (lv_at hl 1 rfl) ?_
    refine lv_goto (tgt := 147) hx hb dX12_meet_143 (by decide) ?_
    exact m_reti hx hb hr hlk hM hS ⟨_, rfl, hw⟩ dX12_meet_147
def w_X12_meet (I : mI) (o : Nat) (a1 : Int32) (a2 : Int32) (a3 : Int32) (a4 : Int32) (post : Int32 → mI → Prop) : Prop := w_X12_isHouse I o a1 (fun b1 I2 => (b1 = false → post (-1) I2) ∧ (b1 = true → w_X12_isPerson I2 o a2 (fun b3 => (b3 = false → post (-1) I2) ∧ (b3 = true → w_X12_isPerson I2 o a3 (fun b4 => (b4 = false → post (-1) I2) ∧ (b4 = true → (¬ a2 = a3 → w_X12_runs I2 o (fun I5 => (w_X12_meet_41 o a1 a2 a3 a4 post (w_X12_meet_136 o a1 a2 a3 a4 post)) I5 0 0)) ∧ (a2 = a3 → post (-1) I2)))))))
set_option maxRecDepth 100000 in
set_option maxHeartbeats 4000000 in
theorem c_X12_meet {l : Launch} {D : va_G} {cA : Nat → ClassId} {Z : mZ} {bs : Ad} {n : Nat} {K : mK} {R : mR} {I : mI} {L : mL} {o : Nat} {a1 : Int32} {a2 : Int32} {a3 : Int32} {a4 : Int32} {post : Int32 → mI → Prop} (ho : isX12 K R o) (hw : w_X12_meet I o a1 a2 a3 a4 post) : Met l yX12_meet (.code yX12_meet cX12_meet 7 (some .int) :: gw) ({ frames := 7, cells := 0, slots := 0, locals := 159 } : Room) (PreM D cA Z bs (n, K, R, I, L) [.ref (ad bs o), .int a1, .int a2, .int a3, .int a4]) (QI D cA bs (fun r u => ∃ I', u = (n, K, R, I', L) ∧ post r I')) 0 0 (Ab bs) := by
  refine m_met (by decide) (Nat.le_of_ble_eq_true rfl) (fun p e s m below meth c ls E hr hlk hM hS hl => ?_)
  have E : Ev p s m _ c cX12_meet 7 RX12 D cA Z bs := E
  have hl : lv_has ls 7 [(0, .ref (ad bs o)), (1, .int a1), (2, .int a2), (3, .int a3), (4, .int a4)] := hl
  have hx := E.1.1
  have hb := E.1.2.1
  generalize hHe : s.heap = H at hM ⊢
  have hS : va_S (Ab bs) s.heap H [] := by rw [← hHe]; exact va_S.rf
  clear hHe
  refine lv_aload_n hx hb dX12_meet_0 rfl (lv_at hl 0 rfl) ?_
  refine lv_iload_n hx hb dX12_meet_1 rfl (lv_at hl 1 rfl) ?_
  refine m_ci (m_runV E hM hS cs_X12_214 ho.1 (by decide) rfl rfl (c_X12_isHouse ho hw) rfl rfl ⟨Nat.le_of_ble_eq_true rfl, Nat.le_of_ble_eq_true rfl⟩ rfl hl.1 rfl (Nat.le_of_ble_eq_true rfl) dX12_meet_2 ⟨Nat.le_of_ble_eq_true rfl, Nat.le_of_ble_eq_true rfl⟩) hS (fun r9 u H locs hp hM hS => ?_)
  obtain ⟨b1, rfl, I2, rfl, hw⟩ := hp
  refine lv_if_eq (tgt := 29) hx hb dX12_meet_5 (by decide) (fun cq => ?_) (fun cq => ?_)
  · have hw := hw.1 (bI_f cq)
    refine lv_iconst (v := (-1)) hx hb dX12_meet_29 (by decide) ?_
    exact m_reti hx hb hr hlk hM hS ⟨_, rfl, hw⟩ dX12_meet_30
  · have hw := hw.2 (bI_t cq)
    refine lv_aload_n hx hb dX12_meet_8 rfl (lv_at hl 0 rfl) ?_
    refine lv_iload_n hx hb dX12_meet_9 rfl (lv_at hl 2 rfl) ?_
    refine m_ci (m_runV E hM hS cs_X12_303 ho.1 (by decide) rfl rfl (c_X12_isPerson ho hw) rfl rfl ⟨Nat.le_of_ble_eq_true rfl, Nat.le_of_ble_eq_true rfl⟩ rfl hl.1 rfl (Nat.le_of_ble_eq_true rfl) dX12_meet_10 ⟨Nat.le_of_ble_eq_true rfl, Nat.le_of_ble_eq_true rfl⟩) hS (fun r9 u H locs hp hM hS => ?_)
    obtain ⟨b3, rfl, rfl, hw⟩ := hp
    refine lv_if_eq (tgt := 29) hx hb dX12_meet_13 (by decide) (fun cq => ?_) (fun cq => ?_)
    · have hw := hw.1 (bI_f cq)
      refine lv_iconst (v := (-1)) hx hb dX12_meet_29 (by decide) ?_
      exact m_reti hx hb hr hlk hM hS ⟨_, rfl, hw⟩ dX12_meet_30
    · have hw := hw.2 (bI_t cq)
      refine lv_aload_n hx hb dX12_meet_16 rfl (lv_at hl 0 rfl) ?_
      refine lv_iload_n hx hb dX12_meet_17 rfl (lv_at hl 3 rfl) ?_
      refine m_ci (m_runV E hM hS cs_X12_303 ho.1 (by decide) rfl rfl (c_X12_isPerson ho hw) rfl rfl ⟨Nat.le_of_ble_eq_true rfl, Nat.le_of_ble_eq_true rfl⟩ rfl hl.1 rfl (Nat.le_of_ble_eq_true rfl) dX12_meet_18 ⟨Nat.le_of_ble_eq_true rfl, Nat.le_of_ble_eq_true rfl⟩) hS (fun r9 u H locs hp hM hS => ?_)
      obtain ⟨b4, rfl, rfl, hw⟩ := hp
      refine lv_if_eq (tgt := 29) hx hb dX12_meet_21 (by decide) (fun cq => ?_) (fun cq => ?_)
      · have hw := hw.1 (bI_f cq)
        refine lv_iconst (v := (-1)) hx hb dX12_meet_29 (by decide) ?_
        exact m_reti hx hb hr hlk hM hS ⟨_, rfl, hw⟩ dX12_meet_30
      · have hw := hw.2 (bI_t cq)
        refine lv_iload_n hx hb dX12_meet_24 rfl (lv_at hl 2 rfl) ?_
        refine lv_iload_n hx hb dX12_meet_25 rfl (lv_at hl 3 rfl) ?_
        refine lv_icmp_ne (tgt := 31) hx hb dX12_meet_26 (by decide) (fun cq => ?_) (fun cq => ?_)
        · have hw := hw.1 cq
          refine lv_aload_n hx hb dX12_meet_31 rfl (lv_at hl 0 rfl) ?_
          refine m_cv (m_runV E hM hS cs_X12_306 ho.1 (by decide) rfl rfl (c_X12_runs ho hw) rfl rfl ⟨Nat.le_of_ble_eq_true rfl, Nat.le_of_ble_eq_true rfl⟩ rfl hl.1 rfl (Nat.le_of_ble_eq_true rfl) dX12_meet_32 ⟨Nat.le_of_ble_eq_true rfl, Nat.le_of_ble_eq_true rfl⟩) hS (fun u H locs hp hM hS => ?_)
          obtain ⟨I5, rfl, hw⟩ := hp
          refine lv_iconst (v := 0) hx hb dX12_meet_35 (by decide) ?_
          refine lv_istore (lv' := [(5, .int 0), (0, .ref (ad bs o)), (1, .int a1), (2, .int a2), (3, .int a3), (4, .int a4)]) hx hb dX12_meet_36 hl (by decide) rfl (fun ls hl => ?_)
          refine lv_iconst (v := 0) hx hb dX12_meet_38 (by decide) ?_
          refine lv_istore (lv' := [(6, .int 0), (5, .int 0), (0, .ref (ad bs o)), (1, .int a1), (2, .int a2), (3, .int a3), (4, .int a4)]) hx hb dX12_meet_39 hl (by decide) rfl (fun ls hl => ?_)
          exact s_X12_meet_41 E hr hlk ho (fun I v5 H locs ls  hw hM hS hl => s_X12_meet_136 E hr hlk ho  hw hM hS hl)  hw hM hS (lv_sub hl [2, 4, 5, 6, 1, 0] rfl)
        · have hw := hw.2 cq
          refine lv_iconst (v := (-1)) hx hb dX12_meet_29 (by decide) ?_
          exact m_reti hx hb hr hlk hM hS ⟨_, rfl, hw⟩ dX12_meet_30
theorem dX12_hollow_0 : decode cX12_hollow 0 = .ok (.iconst 0, 1) := by decide +kernel
theorem dX12_hollow_1 : decode cX12_hollow 1 = .ok (.istore_n 1, 1) := by decide +kernel
theorem dX12_hollow_2 : decode cX12_hollow 2 = .ok (.iconst 0, 1) := by decide +kernel
theorem dX12_hollow_3 : decode cX12_hollow 3 = .ok (.istore_n 2, 1) := by decide +kernel
theorem dX12_hollow_4 : decode cX12_hollow 4 = .ok (.iconst 0, 1) := by decide +kernel
theorem dX12_hollow_5 : decode cX12_hollow 5 = .ok (.istore_n 3, 1) := by decide +kernel
theorem dX12_hollow_6 : decode cX12_hollow 6 = .ok (.iload_n 3, 1) := by decide +kernel
theorem dX12_hollow_7 : decode cX12_hollow 7 = .ok (.bipush 100, 2) := by decide +kernel
theorem dX12_hollow_9 : decode cX12_hollow 9 = .ok (.if_icmp .ge 95, 3) := by decide +kernel
theorem dX12_hollow_12 : decode cX12_hollow 12 = .ok (.iconst 0, 1) := by decide +kernel
theorem dX12_hollow_13 : decode cX12_hollow 13 = .ok (.istore 4, 2) := by decide +kernel
theorem dX12_hollow_15 : decode cX12_hollow 15 = .ok (.iconst 0, 1) := by decide +kernel
theorem dX12_hollow_16 : decode cX12_hollow 16 = .ok (.istore 5, 2) := by decide +kernel
theorem dX12_hollow_18 : decode cX12_hollow 18 = .ok (.iload 5, 2) := by decide +kernel
theorem dX12_hollow_20 : decode cX12_hollow 20 = .ok (.aload_n 0, 1) := by decide +kernel
theorem dX12_hollow_21 : decode cX12_hollow 21 = .ok (.getfield 262, 3) := by decide +kernel
theorem dX12_hollow_24 : decode cX12_hollow 24 = .ok (.if_icmp .ge 50, 3) := by decide +kernel
theorem dX12_hollow_27 : decode cX12_hollow 27 = .ok (.iload 4, 2) := by decide +kernel
theorem dX12_hollow_29 : decode cX12_hollow 29 = .ok (.ifCond .ne 32, 3) := by decide +kernel
theorem dX12_hollow_32 : decode cX12_hollow 32 = .ok (.aload_n 0, 1) := by decide +kernel
theorem dX12_hollow_33 : decode cX12_hollow 33 = .ok (.getfield 26, 3) := by decide +kernel
theorem dX12_hollow_36 : decode cX12_hollow 36 = .ok (.iload 5, 2) := by decide +kernel
theorem dX12_hollow_38 : decode cX12_hollow 38 = .ok (.iaload, 1) := by decide +kernel
theorem dX12_hollow_39 : decode cX12_hollow 39 = .ok (.iload_n 3, 1) := by decide +kernel
theorem dX12_hollow_40 : decode cX12_hollow 40 = .ok (.if_icmp .ne 25, 3) := by decide +kernel
theorem dX12_hollow_43 : decode cX12_hollow 43 = .ok (.aload_n 0, 1) := by decide +kernel
theorem dX12_hollow_44 : decode cX12_hollow 44 = .ok (.getfield 38, 3) := by decide +kernel
theorem dX12_hollow_47 : decode cX12_hollow 47 = .ok (.iload 5, 2) := by decide +kernel
theorem dX12_hollow_49 : decode cX12_hollow 49 = .ok (.iaload, 1) := by decide +kernel
theorem dX12_hollow_50 : decode cX12_hollow 50 = .ok (.aload_n 0, 1) := by decide +kernel
theorem dX12_hollow_51 : decode cX12_hollow 51 = .ok (.getfield 41, 3) := by decide +kernel
theorem dX12_hollow_54 : decode cX12_hollow 54 = .ok (.iload 5, 2) := by decide +kernel
theorem dX12_hollow_56 : decode cX12_hollow 56 = .ok (.iaload, 1) := by decide +kernel
theorem dX12_hollow_57 : decode cX12_hollow 57 = .ok (.ior, 1) := by decide +kernel
theorem dX12_hollow_58 : decode cX12_hollow 58 = .ok (.ifCond .eq 7, 3) := by decide +kernel
theorem dX12_hollow_61 : decode cX12_hollow 61 = .ok (.iconst 1, 1) := by decide +kernel
theorem dX12_hollow_62 : decode cX12_hollow 62 = .ok (.goto 4, 3) := by decide +kernel
theorem dX12_hollow_65 : decode cX12_hollow 65 = .ok (.iconst 0, 1) := by decide +kernel
theorem dX12_hollow_66 : decode cX12_hollow 66 = .ok (.istore 4, 2) := by decide +kernel
theorem dX12_hollow_68 : decode cX12_hollow 68 = .ok (.iinc 5 1, 3) := by decide +kernel
theorem dX12_hollow_71 : decode cX12_hollow 71 = .ok (.goto (-53), 3) := by decide +kernel
theorem dX12_hollow_74 : decode cX12_hollow 74 = .ok (.iload 4, 2) := by decide +kernel
theorem dX12_hollow_76 : decode cX12_hollow 76 = .ok (.ifCond .eq 7, 3) := by decide +kernel
theorem dX12_hollow_79 : decode cX12_hollow 79 = .ok (.iconst 0, 1) := by decide +kernel
theorem dX12_hollow_80 : decode cX12_hollow 80 = .ok (.goto 6, 3) := by decide +kernel
theorem dX12_hollow_83 : decode cX12_hollow 83 = .ok (.iload_n 2, 1) := by decide +kernel
theorem dX12_hollow_84 : decode cX12_hollow 84 = .ok (.iconst 1, 1) := by decide +kernel
theorem dX12_hollow_85 : decode cX12_hollow 85 = .ok (.iadd, 1) := by decide +kernel
theorem dX12_hollow_86 : decode cX12_hollow 86 = .ok (.istore_n 2, 1) := by decide +kernel
theorem dX12_hollow_87 : decode cX12_hollow 87 = .ok (.iload_n 2, 1) := by decide +kernel
theorem dX12_hollow_88 : decode cX12_hollow 88 = .ok (.iload_n 1, 1) := by decide +kernel
theorem dX12_hollow_89 : decode cX12_hollow 89 = .ok (.if_icmp .le 7, 3) := by decide +kernel
theorem dX12_hollow_92 : decode cX12_hollow 92 = .ok (.iload_n 2, 1) := by decide +kernel
theorem dX12_hollow_93 : decode cX12_hollow 93 = .ok (.goto 4, 3) := by decide +kernel
theorem dX12_hollow_96 : decode cX12_hollow 96 = .ok (.iload_n 1, 1) := by decide +kernel
theorem dX12_hollow_97 : decode cX12_hollow 97 = .ok (.istore_n 1, 1) := by decide +kernel
theorem dX12_hollow_98 : decode cX12_hollow 98 = .ok (.iinc 3 1, 3) := by decide +kernel
theorem dX12_hollow_101 : decode cX12_hollow 101 = .ok (.goto (-95), 3) := by decide +kernel
theorem dX12_hollow_104 : decode cX12_hollow 104 = .ok (.iload_n 1, 1) := by decide +kernel
theorem dX12_hollow_105 : decode cX12_hollow 105 = .ok (.ireturn, 1) := by decide +kernel
def w_X12_hollow_18 (I : mI) (o : Nat) (post : Int32 → Prop) (k74 : Int32 → Int32 → Int32 → Int32 → Prop) (v1 : Int32) (v2 : Int32) (v3 : Int32) (v4 : Int32) (v5 : Int32) : Prop := ∀ ZZ : (Int32 → Int32 → Int32 → Int32 → Int32 → Prop), (∀ (v1 : Int32) (v2 : Int32) (v3 : Int32) (v4 : Int32) (v5 : Int32), (((I o 25) ≤ v5 → k74 v1 v2 v3 v4) ∧ (¬ (I o 25) ≤ v5 → (¬ v4 = 0 → ∀ x1, x1 = v5 + 1 → ZZ v1 v2 v3 1 x1) ∧ (v4 = 0 → vp_in v5 640 ∧ (¬ (I (o + 6) v5.toNatClampNeg) = v3 → ∀ x2, x2 = v5 + 1 → ZZ v1 v2 v3 0 x2) ∧ ((I (o + 6) v5.toNatClampNeg) = v3 → vp_in v5 640 ∧ vp_in v5 640 ∧ (((I (o + 10) v5.toNatClampNeg) ||| (I (o + 11) v5.toNatClampNeg)) = 0 → ∀ x3, x3 = v5 + 1 → ZZ v1 v2 v3 0 x3) ∧ (¬ ((I (o + 10) v5.toNatClampNeg) ||| (I (o + 11) v5.toNatClampNeg)) = 0 → ∀ x4, x4 = v5 + 1 → ZZ v1 v2 v3 1 x4))))) → ZZ v1 v2 v3 v4 v5) → ZZ v1 v2 v3 v4 v5
set_option maxRecDepth 100000 in
set_option maxHeartbeats 4000000 in
theorem s_X12_hollow_18 {p : Program} {l : Launch} {e : Env} {s : State} {m : MethodId} {args : Array Value} {below : List Frame} {meth : Method} {c : Code} {D : va_G} {cA : Nat → ClassId} {Z : mZ} {bs : Ad} {n : Nat} {K : mK} {R : mR} {I : mI} {L : mL} (E : Ev p s m args c cX12_hollow 6 RX12 D cA Z bs) (hr : meth.sig.returnType = (some .int)) (hlk : meth.locks = false) {o : Nat} (ho : isX12 K R o) {post : Int32 → Prop} {k74 : Int32 → Int32 → Int32 → Int32 → Prop} (hk74 : ∀ (v1 : Int32) (v2 : Int32) (v3 : Int32) (v4 : Int32) (H : Heap) (locs : List Loc) (ls : Array Slot), k74 v1 v2 v3 v4 → mm D cA bs (n, K, R, I, L) H → va_S (Ab bs) s.heap H locs → lv_has ls 6 [(0, .ref (ad bs o)), (1, .int v1), (2, .int v2), (3, .int v3), (4, .int v4)] → W p l e ({ frames := 0, cells := 0, slots := 0, locals := 0 } : Room) s m args below meth c H locs 0 0 (MQ below (QI D cA bs (fun r u => u = (n, K, R, I, L) ∧ post r)) args s 0 0 (Ab bs)) (F0 m 74 ls [])) {v1 : Int32} {v2 : Int32} {v3 : Int32} {v4 : Int32} {v5 : Int32} {H : Heap} {locs : List Loc} {ls : Array Slot} (hw : w_X12_hollow_18 I o post k74 v1 v2 v3 v4 v5) (hM : mm D cA bs (n, K, R, I, L) H) (hS : va_S (Ab bs) s.heap H locs) (hl : lv_has ls 6 [(0, .ref (ad bs o)), (1, .int v1), (2, .int v2), (3, .int v3), (4, .int v4), (5, .int v5)]) : W p l e ({ frames := 0, cells := 0, slots := 0, locals := 0 } : Room) s m args below meth c H locs 0 0 (MQ below (QI D cA bs (fun r u => u = (n, K, R, I, L) ∧ post r)) args s 0 0 (Ab bs)) (F0 m 18 ls []) := by
  have hx := E.1.1
  have hb := E.1.2.1
  refine hw (fun v1 v2 v3 v4 v5 => ∀ (H : Heap) (locs : List Loc) (ls : Array Slot), mm D cA bs (n, K, R, I, L) H → va_S (Ab bs) s.heap H locs → lv_has ls 6 [(0, .ref (ad bs o)), (1, .int v1), (2, .int v2), (3, .int v3), (4, .int v4), (5, .int v5)] → W p l e ({ frames := 0, cells := 0, slots := 0, locals := 0 } : Room) s m args below meth c H locs 0 0 (MQ below (QI D cA bs (fun r u => u = (n, K, R, I, L) ∧ post r)) args s 0 0 (Ab bs)) (F0 m 18 ls [])) ?_ H locs ls hM hS hl
  clear hw hM hS hl
  intro v1 v2 v3 v4 v5 hw H locs ls hM hS hl
  refine lv_iload hx hb dX12_hollow_18 (lv_at hl 5 rfl) ?_
  refine lv_aload_n hx hb dX12_hollow_20 rfl (lv_at hl 0 rfl) ?_
  refine m_geti E hM fs_X12_262 ho.1 dX12_hollow_21 ?_
  refine lv_icmp_ge (tgt := 74) hx hb dX12_hollow_24 (by decide) (fun cq => ?_) (fun cq => ?_)
  · have hw := hw.1 cq
    exact hk74 _ _ _ _ H locs ls  hw hM hS (lv_sub hl [0, 1, 2, 3, 4] rfl)
  · have hw := hw.2 cq
    refine lv_iload hx hb dX12_hollow_27 (lv_at hl 4 rfl) ?_
    refine lv_if_ne (tgt := 61) hx hb dX12_hollow_29 (by decide) (fun cq => ?_) (fun cq => ?_)
    · have hw := hw.1 cq
      refine lv_iconst (v := 1) hx hb dX12_hollow_61 (by decide) ?_
      refine lv_goto (tgt := 66) hx hb dX12_hollow_62 (by decide) ?_
      refine lv_istore (lv' := [(4, .int 1), (0, .ref (ad bs o)), (1, .int v1), (2, .int v2), (3, .int v3), (5, .int v5)]) hx hb dX12_hollow_66 hl (by decide) rfl (fun ls hl => ?_)
      obtain ⟨x1, ex1⟩ : ∃ y : Int32, y = v5 + 1 := ⟨_, rfl⟩
      have hw := hw x1 ex1
      refine lv_iinc (v := x1) (lv' := [(5, .int x1), (4, .int 1), (0, .ref (ad bs o)), (1, .int v1), (2, .int v2), (3, .int v3)]) hx hb dX12_hollow_68 hl (k := 5) rfl (by rw [ex1]; rfl) (by decide) rfl (fun ls hl => ?_)
      refine lv_goto (tgt := 18) hx hb dX12_hollow_71 (by decide) ?_
      exact hw H locs ls  hM hS (lv_sub hl [2, 3, 4, 5, 1, 0] rfl)
    · have hw := hw.2 cq
      refine lv_aload_n hx hb dX12_hollow_32 rfl (lv_at hl 0 rfl) ?_
      refine m_getr E hM fs_X12_26 ho.1 (isO_at ho 5 rfl).1 dX12_hollow_33 ?_
      refine lv_iload hx hb dX12_hollow_36 (lv_at hl 5 rfl) ?_
      obtain ⟨hv, hw⟩ := hw
      refine m_iald E hM (isO_at ho 5 rfl).2 hv dX12_hollow_38 ?_
      refine lv_iload_n hx hb dX12_hollow_39 rfl (lv_at hl 3 rfl) ?_
      refine lv_icmp_ne (tgt := 65) hx hb dX12_hollow_40 (by decide) (fun cq => ?_) (fun cq => ?_)
      · have hw := hw.1 cq
        refine lv_iconst (v := 0) hx hb dX12_hollow_65 (by decide) ?_
        refine lv_istore (lv' := [(4, .int 0), (0, .ref (ad bs o)), (1, .int v1), (2, .int v2), (3, .int v3), (5, .int v5)]) hx hb dX12_hollow_66 hl (by decide) rfl (fun ls hl => ?_)
        obtain ⟨x2, ex2⟩ : ∃ y : Int32, y = v5 + 1 := ⟨_, rfl⟩
        have hw := hw x2 ex2
        refine lv_iinc (v := x2) (lv' := [(5, .int x2), (4, .int 0), (0, .ref (ad bs o)), (1, .int v1), (2, .int v2), (3, .int v3)]) hx hb dX12_hollow_68 hl (k := 5) rfl (by rw [ex2]; rfl) (by decide) rfl (fun ls hl => ?_)
        refine lv_goto (tgt := 18) hx hb dX12_hollow_71 (by decide) ?_
        exact hw H locs ls  hM hS (lv_sub hl [2, 3, 4, 5, 1, 0] rfl)
      · have hw := hw.2 cq
        refine lv_aload_n hx hb dX12_hollow_43 rfl (lv_at hl 0 rfl) ?_
        refine m_getr E hM fs_X12_38 ho.1 (isO_at ho 9 rfl).1 dX12_hollow_44 ?_
        refine lv_iload hx hb dX12_hollow_47 (lv_at hl 5 rfl) ?_
        obtain ⟨hv, hw⟩ := hw
        refine m_iald E hM (isO_at ho 9 rfl).2 hv dX12_hollow_49 ?_
        refine lv_aload_n hx hb dX12_hollow_50 rfl (lv_at hl 0 rfl) ?_
        refine m_getr E hM fs_X12_41 ho.1 (isO_at ho 10 rfl).1 dX12_hollow_51 ?_
        refine lv_iload hx hb dX12_hollow_54 (lv_at hl 5 rfl) ?_
        obtain ⟨hv, hw⟩ := hw
        refine m_iald E hM (isO_at ho 10 rfl).2 hv dX12_hollow_56 ?_
        refine lv_ior hx hb dX12_hollow_57 ?_
        refine lv_if_eq (tgt := 65) hx hb dX12_hollow_58 (by decide) (fun cq => ?_) (fun cq => ?_)
        · have hw := hw.1 cq
          refine lv_iconst (v := 0) hx hb dX12_hollow_65 (by decide) ?_
          refine lv_istore (lv' := [(4, .int 0), (0, .ref (ad bs o)), (1, .int v1), (2, .int v2), (3, .int v3), (5, .int v5)]) hx hb dX12_hollow_66 hl (by decide) rfl (fun ls hl => ?_)
          obtain ⟨x3, ex3⟩ : ∃ y : Int32, y = v5 + 1 := ⟨_, rfl⟩
          have hw := hw x3 ex3
          refine lv_iinc (v := x3) (lv' := [(5, .int x3), (4, .int 0), (0, .ref (ad bs o)), (1, .int v1), (2, .int v2), (3, .int v3)]) hx hb dX12_hollow_68 hl (k := 5) rfl (by rw [ex3]; rfl) (by decide) rfl (fun ls hl => ?_)
          refine lv_goto (tgt := 18) hx hb dX12_hollow_71 (by decide) ?_
          exact hw H locs ls  hM hS (lv_sub hl [2, 3, 4, 5, 1, 0] rfl)
        · have hw := hw.2 cq
          refine lv_iconst (v := 1) hx hb dX12_hollow_61 (by decide) ?_
          refine lv_goto (tgt := 66) hx hb dX12_hollow_62 (by decide) ?_
          refine lv_istore (lv' := [(4, .int 1), (0, .ref (ad bs o)), (1, .int v1), (2, .int v2), (3, .int v3), (5, .int v5)]) hx hb dX12_hollow_66 hl (by decide) rfl (fun ls hl => ?_)
          obtain ⟨x4, ex4⟩ : ∃ y : Int32, y = v5 + 1 := ⟨_, rfl⟩
          have hw := hw x4 ex4
          refine lv_iinc (v := x4) (lv' := [(5, .int x4), (4, .int 1), (0, .ref (ad bs o)), (1, .int v1), (2, .int v2), (3, .int v3)]) hx hb dX12_hollow_68 hl (k := 5) rfl (by rw [ex4]; rfl) (by decide) rfl (fun ls hl => ?_)
          refine lv_goto (tgt := 18) hx hb dX12_hollow_71 (by decide) ?_
          exact hw H locs ls  hM hS (lv_sub hl [2, 3, 4, 5, 1, 0] rfl)
def w_X12_hollow_86 (I : mI) (o : Nat) (post : Int32 → Prop) (k6 : Int32 → Int32 → Int32 → Prop) (v1 : Int32) (v3 : Int32) (s0 : Int32) : Prop := (s0 ≤ v1 → ∀ x5, x5 = v3 + 1 → k6 v1 s0 x5) ∧ (¬ s0 ≤ v1 → ∀ x6, x6 = v3 + 1 → k6 s0 s0 x6)
set_option maxRecDepth 100000 in
set_option maxHeartbeats 4000000 in
theorem s_X12_hollow_86 {p : Program} {l : Launch} {e : Env} {s : State} {m : MethodId} {args : Array Value} {below : List Frame} {meth : Method} {c : Code} {D : va_G} {cA : Nat → ClassId} {Z : mZ} {bs : Ad} {n : Nat} {K : mK} {R : mR} {I : mI} {L : mL} (E : Ev p s m args c cX12_hollow 6 RX12 D cA Z bs) (hr : meth.sig.returnType = (some .int)) (hlk : meth.locks = false) {o : Nat} (ho : isX12 K R o) {post : Int32 → Prop} {k6 : Int32 → Int32 → Int32 → Prop} (hk6 : ∀ (v1 : Int32) (v2 : Int32) (v3 : Int32) (H : Heap) (locs : List Loc) (ls : Array Slot), k6 v1 v2 v3 → mm D cA bs (n, K, R, I, L) H → va_S (Ab bs) s.heap H locs → lv_has ls 6 [(0, .ref (ad bs o)), (1, .int v1), (2, .int v2), (3, .int v3)] → W p l e ({ frames := 0, cells := 0, slots := 0, locals := 0 } : Room) s m args below meth c H locs 0 0 (MQ below (QI D cA bs (fun r u => u = (n, K, R, I, L) ∧ post r)) args s 0 0 (Ab bs)) (F0 m 6 ls [])) {v1 : Int32} {v3 : Int32} {s0 : Int32} {H : Heap} {locs : List Loc} {ls : Array Slot} (hw : w_X12_hollow_86 I o post k6 v1 v3 s0) (hM : mm D cA bs (n, K, R, I, L) H) (hS : va_S (Ab bs) s.heap H locs) (hl : lv_has ls 6 [(0, .ref (ad bs o)), (1, .int v1), (3, .int v3)]) : W p l e ({ frames := 0, cells := 0, slots := 0, locals := 0 } : Room) s m args below meth c H locs 0 0 (MQ below (QI D cA bs (fun r u => u = (n, K, R, I, L) ∧ post r)) args s 0 0 (Ab bs)) (F0 m 86 ls [.int s0]) := by
  have hx := E.1.1
  have hb := E.1.2.1
  refine lv_istore_n (lv' := [(2, .int s0), (0, .ref (ad bs o)), (1, .int v1), (3, .int v3)]) hx hb dX12_hollow_86 rfl hl (by decide) rfl (fun ls hl => ?_)
  refine lv_iload_n hx hb dX12_hollow_87 rfl (lv_at hl 0 rfl) ?_
  refine lv_iload_n hx hb dX12_hollow_88 rfl (lv_at hl 2 rfl) ?_
  refine lv_icmp_le (tgt := 96) hx hb dX12_hollow_89 (by decide) (fun cq => ?_) (fun cq => ?_)
  · have hw := hw.1 cq
    refine lv_iload_n hx hb dX12_hollow_96 rfl (lv_at hl 2 rfl) ?_
    refine lv_istore_n (lv' := [(1, .int v1), (2, .int s0), (0, .ref (ad bs o)), (3, .int v3)]) hx hb dX12_hollow_97 rfl hl (by decide) rfl (fun ls hl => ?_)
    obtain ⟨x5, ex5⟩ : ∃ y : Int32, y = v3 + 1 := ⟨_, rfl⟩
    have hw := hw x5 ex5
    refine lv_iinc (v := x5) (lv' := [(3, .int x5), (1, .int v1), (2, .int s0), (0, .ref (ad bs o))]) hx hb dX12_hollow_98 hl (k := 3) rfl (by rw [ex5]; rfl) (by decide) rfl (fun ls hl => ?_)
    refine lv_goto (tgt := 6) hx hb dX12_hollow_101 (by decide) ?_
    exact hk6 _ _ _ H locs ls  hw hM hS (lv_sub hl [3, 1, 2, 0] rfl)
  · have hw := hw.2 cq
    refine lv_iload_n hx hb dX12_hollow_92 rfl (lv_at hl 0 rfl) ?_
    refine lv_goto (tgt := 97) hx hb dX12_hollow_93 (by decide) ?_
    refine lv_istore_n (lv' := [(1, .int s0), (2, .int s0), (0, .ref (ad bs o)), (3, .int v3)]) hx hb dX12_hollow_97 rfl hl (by decide) rfl (fun ls hl => ?_)
    obtain ⟨x6, ex6⟩ : ∃ y : Int32, y = v3 + 1 := ⟨_, rfl⟩
    have hw := hw x6 ex6
    refine lv_iinc (v := x6) (lv' := [(3, .int x6), (1, .int s0), (2, .int s0), (0, .ref (ad bs o))]) hx hb dX12_hollow_98 hl (k := 3) rfl (by rw [ex6]; rfl) (by decide) rfl (fun ls hl => ?_)
    refine lv_goto (tgt := 6) hx hb dX12_hollow_101 (by decide) ?_
    exact hk6 _ _ _ H locs ls  hw hM hS (lv_sub hl [3, 1, 2, 0] rfl)
def w_X12_hollow_74 (I : mI) (o : Nat) (post : Int32 → Prop) (k6 : Int32 → Int32 → Int32 → Prop) (v1 : Int32) (v2 : Int32) (v3 : Int32) (v4 : Int32) : Prop := (v4 = 0 → (w_X12_hollow_86 I o post k6) v1 v3 (v2 + 1)) ∧ (¬ v4 = 0 → (w_X12_hollow_86 I o post k6) v1 v3 0)
set_option maxRecDepth 100000 in
set_option maxHeartbeats 4000000 in
theorem s_X12_hollow_74 {p : Program} {l : Launch} {e : Env} {s : State} {m : MethodId} {args : Array Value} {below : List Frame} {meth : Method} {c : Code} {D : va_G} {cA : Nat → ClassId} {Z : mZ} {bs : Ad} {n : Nat} {K : mK} {R : mR} {I : mI} {L : mL} (E : Ev p s m args c cX12_hollow 6 RX12 D cA Z bs) (hr : meth.sig.returnType = (some .int)) (hlk : meth.locks = false) {o : Nat} (ho : isX12 K R o) {post : Int32 → Prop} {k6 : Int32 → Int32 → Int32 → Prop} (hk6 : ∀ (v1 : Int32) (v2 : Int32) (v3 : Int32) (H : Heap) (locs : List Loc) (ls : Array Slot), k6 v1 v2 v3 → mm D cA bs (n, K, R, I, L) H → va_S (Ab bs) s.heap H locs → lv_has ls 6 [(0, .ref (ad bs o)), (1, .int v1), (2, .int v2), (3, .int v3)] → W p l e ({ frames := 0, cells := 0, slots := 0, locals := 0 } : Room) s m args below meth c H locs 0 0 (MQ below (QI D cA bs (fun r u => u = (n, K, R, I, L) ∧ post r)) args s 0 0 (Ab bs)) (F0 m 6 ls [])) {v1 : Int32} {v2 : Int32} {v3 : Int32} {v4 : Int32} {H : Heap} {locs : List Loc} {ls : Array Slot} (hw : w_X12_hollow_74 I o post k6 v1 v2 v3 v4) (hM : mm D cA bs (n, K, R, I, L) H) (hS : va_S (Ab bs) s.heap H locs) (hl : lv_has ls 6 [(0, .ref (ad bs o)), (1, .int v1), (2, .int v2), (3, .int v3), (4, .int v4)]) : W p l e ({ frames := 0, cells := 0, slots := 0, locals := 0 } : Room) s m args below meth c H locs 0 0 (MQ below (QI D cA bs (fun r u => u = (n, K, R, I, L) ∧ post r)) args s 0 0 (Ab bs)) (F0 m 74 ls []) := by
  have hx := E.1.1
  have hb := E.1.2.1
  refine lv_iload hx hb dX12_hollow_74 (lv_at hl 4 rfl) ?_
  refine lv_if_eq (tgt := 83) hx hb dX12_hollow_76 (by decide) (fun cq => ?_) (fun cq => ?_)
  · have hw := hw.1 cq
    refine lv_iload_n hx hb dX12_hollow_83 rfl (lv_at hl 2 rfl) ?_
    refine lv_iconst (v := 1) hx hb dX12_hollow_84 (by decide) ?_
    refine lv_iadd hx hb dX12_hollow_85 ?_
    exact s_X12_hollow_86 E hr hlk ho hk6  hw hM hS (lv_sub hl [0, 1, 3] rfl)
  · have hw := hw.2 cq
    refine lv_iconst (v := 0) hx hb dX12_hollow_79 (by decide) ?_
    refine lv_goto (tgt := 86) hx hb dX12_hollow_80 (by decide) ?_
    exact s_X12_hollow_86 E hr hlk ho hk6  hw hM hS (lv_sub hl [0, 1, 3] rfl)
def w_X12_hollow_6 (I : mI) (o : Nat) (post : Int32 → Prop) (v1 : Int32) (v2 : Int32) (v3 : Int32) : Prop := ∀ ZZ : (Int32 → Int32 → Int32 → Prop), (∀ (v1 : Int32) (v2 : Int32) (v3 : Int32), ((100 ≤ v3 → post v1) ∧ (¬ 100 ≤ v3 → (w_X12_hollow_18 I o post (w_X12_hollow_74 I o post ZZ)) v1 v2 v3 0 0)) → ZZ v1 v2 v3) → ZZ v1 v2 v3
set_option maxRecDepth 100000 in
set_option maxHeartbeats 4000000 in
theorem s_X12_hollow_6 {p : Program} {l : Launch} {e : Env} {s : State} {m : MethodId} {args : Array Value} {below : List Frame} {meth : Method} {c : Code} {D : va_G} {cA : Nat → ClassId} {Z : mZ} {bs : Ad} {n : Nat} {K : mK} {R : mR} {I : mI} {L : mL} (E : Ev p s m args c cX12_hollow 6 RX12 D cA Z bs) (hr : meth.sig.returnType = (some .int)) (hlk : meth.locks = false) {o : Nat} (ho : isX12 K R o) {post : Int32 → Prop} {v1 : Int32} {v2 : Int32} {v3 : Int32} {H : Heap} {locs : List Loc} {ls : Array Slot} (hw : w_X12_hollow_6 I o post v1 v2 v3) (hM : mm D cA bs (n, K, R, I, L) H) (hS : va_S (Ab bs) s.heap H locs) (hl : lv_has ls 6 [(0, .ref (ad bs o)), (1, .int v1), (2, .int v2), (3, .int v3)]) : W p l e ({ frames := 0, cells := 0, slots := 0, locals := 0 } : Room) s m args below meth c H locs 0 0 (MQ below (QI D cA bs (fun r u => u = (n, K, R, I, L) ∧ post r)) args s 0 0 (Ab bs)) (F0 m 6 ls []) := by
  have hx := E.1.1
  have hb := E.1.2.1
  refine hw (fun v1 v2 v3 => ∀ (H : Heap) (locs : List Loc) (ls : Array Slot), mm D cA bs (n, K, R, I, L) H → va_S (Ab bs) s.heap H locs → lv_has ls 6 [(0, .ref (ad bs o)), (1, .int v1), (2, .int v2), (3, .int v3)] → W p l e ({ frames := 0, cells := 0, slots := 0, locals := 0 } : Room) s m args below meth c H locs 0 0 (MQ below (QI D cA bs (fun r u => u = (n, K, R, I, L) ∧ post r)) args s 0 0 (Ab bs)) (F0 m 6 ls [])) ?_ H locs ls hM hS hl
  clear hw hM hS hl
  intro v1 v2 v3 hw H locs ls hM hS hl
  refine lv_iload_n hx hb dX12_hollow_6 rfl (lv_at hl 3 rfl) ?_
  refine lv_bipush (v := 100) hx hb dX12_hollow_7 (by decide) ?_
  refine lv_icmp_ge (tgt := 104) hx hb dX12_hollow_9 (by decide) (fun cq => ?_) (fun cq => ?_)
  · have hw := hw.1 cq
    refine lv_iload_n hx hb dX12_hollow_104 rfl (lv_at hl 1 rfl) ?_
    exact m_reti hx hb hr hlk hM hS ⟨rfl, hw⟩ dX12_hollow_105
  · have hw := hw.2 cq
    refine lv_iconst (v := 0) hx hb dX12_hollow_12 (by decide) ?_
    refine lv_istore (lv' := [(4, .int 0), (0, .ref (ad bs o)), (1, .int v1), (2, .int v2), (3, .int v3)]) hx hb dX12_hollow_13 hl (by decide) rfl (fun ls hl => ?_)
    refine lv_iconst (v := 0) hx hb dX12_hollow_15 (by decide) ?_
    refine lv_istore (lv' := [(5, .int 0), (4, .int 0), (0, .ref (ad bs o)), (1, .int v1), (2, .int v2), (3, .int v3)]) hx hb dX12_hollow_16 hl (by decide) rfl (fun ls hl => ?_)
    exact s_X12_hollow_18 E hr hlk ho (fun v1 v2 v3 v4 H locs ls  hw hM hS hl => s_X12_hollow_74 E hr hlk ho (fun v1 v2 v3 H locs ls  hw hM hS hl => hw H locs ls  hM hS hl)  hw hM hS hl)  hw hM hS (lv_sub hl [2, 3, 4, 5, 1, 0] rfl)
def w_X12_hollow (I : mI) (o : Nat) (post : Int32 → Prop) : Prop := (w_X12_hollow_6 I o post) 0 0 0
set_option maxRecDepth 100000 in
set_option maxHeartbeats 4000000 in
theorem c_X12_hollow {l : Launch} {D : va_G} {cA : Nat → ClassId} {Z : mZ} {bs : Ad} {n : Nat} {K : mK} {R : mR} {I : mI} {L : mL} {o : Nat} {post : Int32 → Prop} (ho : isX12 K R o) (hw : w_X12_hollow I o post) : Met l yX12_hollow (.code yX12_hollow cX12_hollow 6 (some .int) :: gw) ({ frames := 0, cells := 0, slots := 0, locals := 0 } : Room) (PreM D cA Z bs (n, K, R, I, L) [.ref (ad bs o)]) (QI D cA bs (fun r u => u = (n, K, R, I, L) ∧ post r)) 0 0 (Ab bs) := by
  refine m_met (by decide) (Nat.le_of_ble_eq_true rfl) (fun p e s m below meth c ls E hr hlk hM hS hl => ?_)
  have E : Ev p s m _ c cX12_hollow 6 RX12 D cA Z bs := E
  have hl : lv_has ls 6 [(0, .ref (ad bs o))] := hl
  have hx := E.1.1
  have hb := E.1.2.1
  generalize hHe : s.heap = H at hM ⊢
  have hS : va_S (Ab bs) s.heap H [] := by rw [← hHe]; exact va_S.rf
  clear hHe
  refine lv_iconst (v := 0) hx hb dX12_hollow_0 (by decide) ?_
  refine lv_istore_n (lv' := [(1, .int 0), (0, .ref (ad bs o))]) hx hb dX12_hollow_1 rfl hl (by decide) rfl (fun ls hl => ?_)
  refine lv_iconst (v := 0) hx hb dX12_hollow_2 (by decide) ?_
  refine lv_istore_n (lv' := [(2, .int 0), (1, .int 0), (0, .ref (ad bs o))]) hx hb dX12_hollow_3 rfl hl (by decide) rfl (fun ls hl => ?_)
  refine lv_iconst (v := 0) hx hb dX12_hollow_4 (by decide) ?_
  refine lv_istore_n (lv' := [(3, .int 0), (2, .int 0), (1, .int 0), (0, .ref (ad bs o))]) hx hb dX12_hollow_5 rfl hl (by decide) rfl (fun ls hl => ?_)
  exact s_X12_hollow_6 E hr hlk ho  hw hM hS (lv_sub hl [3, 2, 1, 0] rfl)
theorem dX12_busy_0 : decode cX12_busy 0 = .ok (.aload_n 0, 1) := by decide +kernel
theorem dX12_busy_1 : decode cX12_busy 1 = .ok (.getfield 262, 3) := by decide +kernel
theorem dX12_busy_4 : decode cX12_busy 4 = .ok (.ifCond .ne 5, 3) := by decide +kernel
theorem dX12_busy_7 : decode cX12_busy 7 = .ok (.iconst (-1), 1) := by decide +kernel
theorem dX12_busy_8 : decode cX12_busy 8 = .ok (.ireturn, 1) := by decide +kernel
theorem dX12_busy_9 : decode cX12_busy 9 = .ok (.iconst 0, 1) := by decide +kernel
theorem dX12_busy_10 : decode cX12_busy 10 = .ok (.istore_n 1, 1) := by decide +kernel
theorem dX12_busy_11 : decode cX12_busy 11 = .ok (.iconst 0, 1) := by decide +kernel
theorem dX12_busy_12 : decode cX12_busy 12 = .ok (.istore_n 2, 1) := by decide +kernel
theorem dX12_busy_13 : decode cX12_busy 13 = .ok (.iconst 0, 1) := by decide +kernel
theorem dX12_busy_14 : decode cX12_busy 14 = .ok (.istore_n 3, 1) := by decide +kernel
theorem dX12_busy_15 : decode cX12_busy 15 = .ok (.iload_n 3, 1) := by decide +kernel
theorem dX12_busy_16 : decode cX12_busy 16 = .ok (.aload_n 0, 1) := by decide +kernel
theorem dX12_busy_17 : decode cX12_busy 17 = .ok (.iconst 0, 1) := by decide +kernel
theorem dX12_busy_18 : decode cX12_busy 18 = .ok (.invokevirtual 205, 3) := by decide +kernel
theorem dX12_busy_21 : decode cX12_busy 21 = .ok (.if_icmp .ge 76, 3) := by decide +kernel
theorem dX12_busy_24 : decode cX12_busy 24 = .ok (.iconst 0, 1) := by decide +kernel
theorem dX12_busy_25 : decode cX12_busy 25 = .ok (.istore 4, 2) := by decide +kernel
theorem dX12_busy_27 : decode cX12_busy 27 = .ok (.iconst 0, 1) := by decide +kernel
theorem dX12_busy_28 : decode cX12_busy 28 = .ok (.istore 5, 2) := by decide +kernel
theorem dX12_busy_30 : decode cX12_busy 30 = .ok (.iload 5, 2) := by decide +kernel
theorem dX12_busy_32 : decode cX12_busy 32 = .ok (.aload_n 0, 1) := by decide +kernel
theorem dX12_busy_33 : decode cX12_busy 33 = .ok (.getfield 262, 3) := by decide +kernel
theorem dX12_busy_36 : decode cX12_busy 36 = .ok (.if_icmp .ge 30, 3) := by decide +kernel
theorem dX12_busy_39 : decode cX12_busy 39 = .ok (.iload 4, 2) := by decide +kernel
theorem dX12_busy_41 : decode cX12_busy 41 = .ok (.aload_n 0, 1) := by decide +kernel
theorem dX12_busy_42 : decode cX12_busy 42 = .ok (.getfield 23, 3) := by decide +kernel
theorem dX12_busy_45 : decode cX12_busy 45 = .ok (.iload 5, 2) := by decide +kernel
theorem dX12_busy_47 : decode cX12_busy 47 = .ok (.iaload, 1) := by decide +kernel
theorem dX12_busy_48 : decode cX12_busy 48 = .ok (.iload_n 3, 1) := by decide +kernel
theorem dX12_busy_49 : decode cX12_busy 49 = .ok (.if_icmp .ne 7, 3) := by decide +kernel
theorem dX12_busy_52 : decode cX12_busy 52 = .ok (.iconst 1, 1) := by decide +kernel
theorem dX12_busy_53 : decode cX12_busy 53 = .ok (.goto 4, 3) := by decide +kernel
theorem dX12_busy_56 : decode cX12_busy 56 = .ok (.iconst 0, 1) := by decide +kernel
theorem dX12_busy_57 : decode cX12_busy 57 = .ok (.iadd, 1) := by decide +kernel
theorem dX12_busy_58 : decode cX12_busy 58 = .ok (.istore 4, 2) := by decide +kernel
theorem dX12_busy_60 : decode cX12_busy 60 = .ok (.iinc 5 1, 3) := by decide +kernel
theorem dX12_busy_63 : decode cX12_busy 63 = .ok (.goto (-33), 3) := by decide +kernel
theorem dX12_busy_66 : decode cX12_busy 66 = .ok (.iload 4, 2) := by decide +kernel
theorem dX12_busy_68 : decode cX12_busy 68 = .ok (.iload_n 2, 1) := by decide +kernel
theorem dX12_busy_69 : decode cX12_busy 69 = .ok (.if_icmp .le 7, 3) := by decide +kernel
theorem dX12_busy_72 : decode cX12_busy 72 = .ok (.iload_n 3, 1) := by decide +kernel
theorem dX12_busy_73 : decode cX12_busy 73 = .ok (.goto 4, 3) := by decide +kernel
theorem dX12_busy_76 : decode cX12_busy 76 = .ok (.iload_n 1, 1) := by decide +kernel
theorem dX12_busy_77 : decode cX12_busy 77 = .ok (.istore_n 1, 1) := by decide +kernel
theorem dX12_busy_78 : decode cX12_busy 78 = .ok (.iload 4, 2) := by decide +kernel
theorem dX12_busy_80 : decode cX12_busy 80 = .ok (.iload_n 2, 1) := by decide +kernel
theorem dX12_busy_81 : decode cX12_busy 81 = .ok (.if_icmp .le 8, 3) := by decide +kernel
theorem dX12_busy_84 : decode cX12_busy 84 = .ok (.iload 4, 2) := by decide +kernel
theorem dX12_busy_86 : decode cX12_busy 86 = .ok (.goto 4, 3) := by decide +kernel
theorem dX12_busy_89 : decode cX12_busy 89 = .ok (.iload_n 2, 1) := by decide +kernel
theorem dX12_busy_90 : decode cX12_busy 90 = .ok (.istore_n 2, 1) := by decide +kernel
theorem dX12_busy_91 : decode cX12_busy 91 = .ok (.iinc 3 1, 3) := by decide +kernel
theorem dX12_busy_94 : decode cX12_busy 94 = .ok (.goto (-79), 3) := by decide +kernel
theorem dX12_busy_97 : decode cX12_busy 97 = .ok (.iload_n 1, 1) := by decide +kernel
theorem dX12_busy_98 : decode cX12_busy 98 = .ok (.ireturn, 1) := by decide +kernel
def w_X12_busy_30 (I : mI) (o : Nat) (post : Int32 → Prop) (k66 : Int32 → Int32 → Int32 → Int32 → Prop) (v1 : Int32) (v2 : Int32) (v3 : Int32) (v4 : Int32) (v5 : Int32) : Prop := ∀ ZZ : (Int32 → Int32 → Int32 → Int32 → Int32 → Prop), (∀ (v1 : Int32) (v2 : Int32) (v3 : Int32) (v4 : Int32) (v5 : Int32), (((I o 25) ≤ v5 → k66 v1 v2 v3 v4) ∧ (¬ (I o 25) ≤ v5 → vp_in v5 640 ∧ (¬ (I (o + 5) v5.toNatClampNeg) = v3 → ∀ x2, x2 = (v4 + 0) → ∀ x3, x3 = v5 + 1 → ZZ v1 v2 v3 x2 x3) ∧ ((I (o + 5) v5.toNatClampNeg) = v3 → ∀ x4, x4 = (v4 + 1) → ∀ x5, x5 = v5 + 1 → ZZ v1 v2 v3 x4 x5))) → ZZ v1 v2 v3 v4 v5) → ZZ v1 v2 v3 v4 v5
set_option maxRecDepth 100000 in
set_option maxHeartbeats 4000000 in
theorem s_X12_busy_30 {p : Program} {l : Launch} {e : Env} {s : State} {m : MethodId} {args : Array Value} {below : List Frame} {meth : Method} {c : Code} {D : va_G} {cA : Nat → ClassId} {Z : mZ} {bs : Ad} {n : Nat} {K : mK} {R : mR} {I : mI} {L : mL} (E : Ev p s m args c cX12_busy 6 RX12 D cA Z bs) (hr : meth.sig.returnType = (some .int)) (hlk : meth.locks = false) {o : Nat} (ho : isX12 K R o) {post : Int32 → Prop} {k66 : Int32 → Int32 → Int32 → Int32 → Prop} (hk66 : ∀ (v1 : Int32) (v2 : Int32) (v3 : Int32) (v4 : Int32) (H : Heap) (locs : List Loc) (ls : Array Slot), k66 v1 v2 v3 v4 → mm D cA bs (n, K, R, I, L) H → va_S (Ab bs) s.heap H locs → lv_has ls 6 [(0, .ref (ad bs o)), (1, .int v1), (2, .int v2), (3, .int v3), (4, .int v4)] → W p l e ({ frames := 1, cells := 0, slots := 0, locals := 21 } : Room) s m args below meth c H locs 0 0 (MQ below (QI D cA bs (fun r u => u = (n, K, R, I, L) ∧ post r)) args s 0 0 (Ab bs)) (F0 m 66 ls [])) {v1 : Int32} {v2 : Int32} {v3 : Int32} {v4 : Int32} {v5 : Int32} {H : Heap} {locs : List Loc} {ls : Array Slot} (hw : w_X12_busy_30 I o post k66 v1 v2 v3 v4 v5) (hM : mm D cA bs (n, K, R, I, L) H) (hS : va_S (Ab bs) s.heap H locs) (hl : lv_has ls 6 [(0, .ref (ad bs o)), (1, .int v1), (2, .int v2), (3, .int v3), (4, .int v4), (5, .int v5)]) : W p l e ({ frames := 1, cells := 0, slots := 0, locals := 21 } : Room) s m args below meth c H locs 0 0 (MQ below (QI D cA bs (fun r u => u = (n, K, R, I, L) ∧ post r)) args s 0 0 (Ab bs)) (F0 m 30 ls []) := by
  have hx := E.1.1
  have hb := E.1.2.1
  refine hw (fun v1 v2 v3 v4 v5 => ∀ (H : Heap) (locs : List Loc) (ls : Array Slot), mm D cA bs (n, K, R, I, L) H → va_S (Ab bs) s.heap H locs → lv_has ls 6 [(0, .ref (ad bs o)), (1, .int v1), (2, .int v2), (3, .int v3), (4, .int v4), (5, .int v5)] → W p l e ({ frames := 1, cells := 0, slots := 0, locals := 21 } : Room) s m args below meth c H locs 0 0 (MQ below (QI D cA bs (fun r u => u = (n, K, R, I, L) ∧ post r)) args s 0 0 (Ab bs)) (F0 m 30 ls [])) ?_ H locs ls hM hS hl
  clear hw hM hS hl
  intro v1 v2 v3 v4 v5 hw H locs ls hM hS hl
  refine lv_iload hx hb dX12_busy_30 (lv_at hl 5 rfl) ?_
  refine lv_aload_n hx hb dX12_busy_32 rfl (lv_at hl 0 rfl) ?_
  refine m_geti E hM fs_X12_262 ho.1 dX12_busy_33 ?_
  refine lv_icmp_ge (tgt := 66) hx hb dX12_busy_36 (by decide) (fun cq => ?_) (fun cq => ?_)
  · have hw := hw.1 cq
    exact hk66 _ _ _ _ H locs ls  hw hM hS (lv_sub hl [0, 1, 2, 3, 4] rfl)
  · have hw := hw.2 cq
    refine lv_iload hx hb dX12_busy_39 (lv_at hl 4 rfl) ?_
    refine lv_aload_n hx hb dX12_busy_41 rfl (lv_at hl 0 rfl) ?_
    refine m_getr E hM fs_X12_23 ho.1 (isO_at ho 4 rfl).1 dX12_busy_42 ?_
    refine lv_iload hx hb dX12_busy_45 (lv_at hl 5 rfl) ?_
    obtain ⟨hv, hw⟩ := hw
    refine m_iald E hM (isO_at ho 4 rfl).2 hv dX12_busy_47 ?_
    refine lv_iload_n hx hb dX12_busy_48 rfl (lv_at hl 3 rfl) ?_
    refine lv_icmp_ne (tgt := 56) hx hb dX12_busy_49 (by decide) (fun cq => ?_) (fun cq => ?_)
    · have hw := hw.1 cq
      refine lv_iconst (v := 0) hx hb dX12_busy_56 (by decide) ?_
      refine lv_iadd hx hb dX12_busy_57 ?_
      refine lv_topi (fun x2 ex2 => ?_)
      have hw := hw x2 ex2
      refine lv_istore (lv' := [(4, .int x2), (0, .ref (ad bs o)), (1, .int v1), (2, .int v2), (3, .int v3), (5, .int v5)]) hx hb dX12_busy_58 hl (by decide) rfl (fun ls hl => ?_)
      obtain ⟨x3, ex3⟩ : ∃ y : Int32, y = v5 + 1 := ⟨_, rfl⟩
      have hw := hw x3 ex3
      refine lv_iinc (v := x3) (lv' := [(5, .int x3), (4, .int x2), (0, .ref (ad bs o)), (1, .int v1), (2, .int v2), (3, .int v3)]) hx hb dX12_busy_60 hl (k := 5) rfl (by rw [ex3]; rfl) (by decide) rfl (fun ls hl => ?_)
      refine lv_goto (tgt := 30) hx hb dX12_busy_63 (by decide) ?_
      exact hw H locs ls  hM hS (lv_sub hl [2, 3, 4, 5, 1, 0] rfl)
    · have hw := hw.2 cq
      refine lv_iconst (v := 1) hx hb dX12_busy_52 (by decide) ?_
      refine lv_goto (tgt := 57) hx hb dX12_busy_53 (by decide) ?_
      refine lv_iadd hx hb dX12_busy_57 ?_
      refine lv_topi (fun x4 ex4 => ?_)
      have hw := hw x4 ex4
      refine lv_istore (lv' := [(4, .int x4), (0, .ref (ad bs o)), (1, .int v1), (2, .int v2), (3, .int v3), (5, .int v5)]) hx hb dX12_busy_58 hl (by decide) rfl (fun ls hl => ?_)
      obtain ⟨x5, ex5⟩ : ∃ y : Int32, y = v5 + 1 := ⟨_, rfl⟩
      have hw := hw x5 ex5
      refine lv_iinc (v := x5) (lv' := [(5, .int x5), (4, .int x4), (0, .ref (ad bs o)), (1, .int v1), (2, .int v2), (3, .int v3)]) hx hb dX12_busy_60 hl (k := 5) rfl (by rw [ex5]; rfl) (by decide) rfl (fun ls hl => ?_)
      refine lv_goto (tgt := 30) hx hb dX12_busy_63 (by decide) ?_
      exact hw H locs ls  hM hS (lv_sub hl [2, 3, 4, 5, 1, 0] rfl)
def w_X12_busy_77 (I : mI) (o : Nat) (post : Int32 → Prop) (k15 : Int32 → Int32 → Int32 → Prop) (v2 : Int32) (v3 : Int32) (v4 : Int32) (s0 : Int32) : Prop := (v4 ≤ v2 → ∀ x6, x6 = v3 + 1 → k15 s0 v2 x6) ∧ (¬ v4 ≤ v2 → ∀ x7, x7 = v3 + 1 → k15 s0 v4 x7)
set_option maxRecDepth 100000 in
set_option maxHeartbeats 4000000 in
theorem s_X12_busy_77 {p : Program} {l : Launch} {e : Env} {s : State} {m : MethodId} {args : Array Value} {below : List Frame} {meth : Method} {c : Code} {D : va_G} {cA : Nat → ClassId} {Z : mZ} {bs : Ad} {n : Nat} {K : mK} {R : mR} {I : mI} {L : mL} (E : Ev p s m args c cX12_busy 6 RX12 D cA Z bs) (hr : meth.sig.returnType = (some .int)) (hlk : meth.locks = false) {o : Nat} (ho : isX12 K R o) {post : Int32 → Prop} {k15 : Int32 → Int32 → Int32 → Prop} (hk15 : ∀ (v1 : Int32) (v2 : Int32) (v3 : Int32) (H : Heap) (locs : List Loc) (ls : Array Slot), k15 v1 v2 v3 → mm D cA bs (n, K, R, I, L) H → va_S (Ab bs) s.heap H locs → lv_has ls 6 [(0, .ref (ad bs o)), (1, .int v1), (2, .int v2), (3, .int v3)] → W p l e ({ frames := 1, cells := 0, slots := 0, locals := 21 } : Room) s m args below meth c H locs 0 0 (MQ below (QI D cA bs (fun r u => u = (n, K, R, I, L) ∧ post r)) args s 0 0 (Ab bs)) (F0 m 15 ls [])) {v2 : Int32} {v3 : Int32} {v4 : Int32} {s0 : Int32} {H : Heap} {locs : List Loc} {ls : Array Slot} (hw : w_X12_busy_77 I o post k15 v2 v3 v4 s0) (hM : mm D cA bs (n, K, R, I, L) H) (hS : va_S (Ab bs) s.heap H locs) (hl : lv_has ls 6 [(0, .ref (ad bs o)), (2, .int v2), (3, .int v3), (4, .int v4)]) : W p l e ({ frames := 1, cells := 0, slots := 0, locals := 21 } : Room) s m args below meth c H locs 0 0 (MQ below (QI D cA bs (fun r u => u = (n, K, R, I, L) ∧ post r)) args s 0 0 (Ab bs)) (F0 m 77 ls [.int s0]) := by
  have hx := E.1.1
  have hb := E.1.2.1
  refine lv_istore_n (lv' := [(1, .int s0), (0, .ref (ad bs o)), (2, .int v2), (3, .int v3), (4, .int v4)]) hx hb dX12_busy_77 rfl hl (by decide) rfl (fun ls hl => ?_)
  refine lv_iload hx hb dX12_busy_78 (lv_at hl 4 rfl) ?_
  refine lv_iload_n hx hb dX12_busy_80 rfl (lv_at hl 2 rfl) ?_
  refine lv_icmp_le (tgt := 89) hx hb dX12_busy_81 (by decide) (fun cq => ?_) (fun cq => ?_)
  · have hw := hw.1 cq
    refine lv_iload_n hx hb dX12_busy_89 rfl (lv_at hl 2 rfl) ?_
    refine lv_istore_n (lv' := [(2, .int v2), (1, .int s0), (0, .ref (ad bs o)), (3, .int v3), (4, .int v4)]) hx hb dX12_busy_90 rfl hl (by decide) rfl (fun ls hl => ?_)
    obtain ⟨x6, ex6⟩ : ∃ y : Int32, y = v3 + 1 := ⟨_, rfl⟩
    have hw := hw x6 ex6
    refine lv_iinc (v := x6) (lv' := [(3, .int x6), (2, .int v2), (1, .int s0), (0, .ref (ad bs o)), (4, .int v4)]) hx hb dX12_busy_91 hl (k := 3) rfl (by rw [ex6]; rfl) (by decide) rfl (fun ls hl => ?_)
    refine lv_goto (tgt := 15) hx hb dX12_busy_94 (by decide) ?_
    exact hk15 _ _ _ H locs ls  hw hM hS (lv_sub hl [3, 2, 1, 0] rfl)
  · have hw := hw.2 cq
    refine lv_iload hx hb dX12_busy_84 (lv_at hl 4 rfl) ?_
    refine lv_goto (tgt := 90) hx hb dX12_busy_86 (by decide) ?_
    refine lv_istore_n (lv' := [(2, .int v4), (1, .int s0), (0, .ref (ad bs o)), (3, .int v3), (4, .int v4)]) hx hb dX12_busy_90 rfl hl (by decide) rfl (fun ls hl => ?_)
    obtain ⟨x7, ex7⟩ : ∃ y : Int32, y = v3 + 1 := ⟨_, rfl⟩
    have hw := hw x7 ex7
    refine lv_iinc (v := x7) (lv' := [(3, .int x7), (2, .int v4), (1, .int s0), (0, .ref (ad bs o)), (4, .int v4)]) hx hb dX12_busy_91 hl (k := 3) rfl (by rw [ex7]; rfl) (by decide) rfl (fun ls hl => ?_)
    refine lv_goto (tgt := 15) hx hb dX12_busy_94 (by decide) ?_
    exact hk15 _ _ _ H locs ls  hw hM hS (lv_sub hl [3, 2, 1, 0] rfl)
def w_X12_busy_66 (I : mI) (o : Nat) (post : Int32 → Prop) (k15 : Int32 → Int32 → Int32 → Prop) (v1 : Int32) (v2 : Int32) (v3 : Int32) (v4 : Int32) : Prop := (v4 ≤ v2 → (w_X12_busy_77 I o post k15) v2 v3 v4 v1) ∧ (¬ v4 ≤ v2 → (w_X12_busy_77 I o post k15) v2 v3 v4 v3)
set_option maxRecDepth 100000 in
set_option maxHeartbeats 4000000 in
theorem s_X12_busy_66 {p : Program} {l : Launch} {e : Env} {s : State} {m : MethodId} {args : Array Value} {below : List Frame} {meth : Method} {c : Code} {D : va_G} {cA : Nat → ClassId} {Z : mZ} {bs : Ad} {n : Nat} {K : mK} {R : mR} {I : mI} {L : mL} (E : Ev p s m args c cX12_busy 6 RX12 D cA Z bs) (hr : meth.sig.returnType = (some .int)) (hlk : meth.locks = false) {o : Nat} (ho : isX12 K R o) {post : Int32 → Prop} {k15 : Int32 → Int32 → Int32 → Prop} (hk15 : ∀ (v1 : Int32) (v2 : Int32) (v3 : Int32) (H : Heap) (locs : List Loc) (ls : Array Slot), k15 v1 v2 v3 → mm D cA bs (n, K, R, I, L) H → va_S (Ab bs) s.heap H locs → lv_has ls 6 [(0, .ref (ad bs o)), (1, .int v1), (2, .int v2), (3, .int v3)] → W p l e ({ frames := 1, cells := 0, slots := 0, locals := 21 } : Room) s m args below meth c H locs 0 0 (MQ below (QI D cA bs (fun r u => u = (n, K, R, I, L) ∧ post r)) args s 0 0 (Ab bs)) (F0 m 15 ls [])) {v1 : Int32} {v2 : Int32} {v3 : Int32} {v4 : Int32} {H : Heap} {locs : List Loc} {ls : Array Slot} (hw : w_X12_busy_66 I o post k15 v1 v2 v3 v4) (hM : mm D cA bs (n, K, R, I, L) H) (hS : va_S (Ab bs) s.heap H locs) (hl : lv_has ls 6 [(0, .ref (ad bs o)), (1, .int v1), (2, .int v2), (3, .int v3), (4, .int v4)]) : W p l e ({ frames := 1, cells := 0, slots := 0, locals := 21 } : Room) s m args below meth c H locs 0 0 (MQ below (QI D cA bs (fun r u => u = (n, K, R, I, L) ∧ post r)) args s 0 0 (Ab bs)) (F0 m 66 ls []) := by
  have hx := E.1.1
  have hb := E.1.2.1
  refine lv_iload hx hb dX12_busy_66 (lv_at hl 4 rfl) ?_
  refine lv_iload_n hx hb dX12_busy_68 rfl (lv_at hl 2 rfl) ?_
  refine lv_icmp_le (tgt := 76) hx hb dX12_busy_69 (by decide) (fun cq => ?_) (fun cq => ?_)
  · have hw := hw.1 cq
    refine lv_iload_n hx hb dX12_busy_76 rfl (lv_at hl 1 rfl) ?_
    exact s_X12_busy_77 E hr hlk ho hk15  hw hM hS (lv_sub hl [0, 2, 3, 4] rfl)
  · have hw := hw.2 cq
    refine lv_iload_n hx hb dX12_busy_72 rfl (lv_at hl 3 rfl) ?_
    refine lv_goto (tgt := 77) hx hb dX12_busy_73 (by decide) ?_
    exact s_X12_busy_77 E hr hlk ho hk15  hw hM hS (lv_sub hl [0, 2, 3, 4] rfl)
def w_X12_busy_15 (I : mI) (o : Nat) (post : Int32 → Prop) (v1 : Int32) (v2 : Int32) (v3 : Int32) : Prop := ∀ ZZ : (Int32 → Int32 → Int32 → Prop), (∀ (v1 : Int32) (v2 : Int32) (v3 : Int32), (w_X12_of I o 0 (fun r1 => (r1 ≤ v3 → post v1) ∧ (¬ r1 ≤ v3 → (w_X12_busy_30 I o post (w_X12_busy_66 I o post ZZ)) v1 v2 v3 0 0))) → ZZ v1 v2 v3) → ZZ v1 v2 v3
set_option maxRecDepth 100000 in
set_option maxHeartbeats 4000000 in
theorem s_X12_busy_15 {p : Program} {l : Launch} {e : Env} {s : State} {m : MethodId} {args : Array Value} {below : List Frame} {meth : Method} {c : Code} {D : va_G} {cA : Nat → ClassId} {Z : mZ} {bs : Ad} {n : Nat} {K : mK} {R : mR} {I : mI} {L : mL} (E : Ev p s m args c cX12_busy 6 RX12 D cA Z bs) (hr : meth.sig.returnType = (some .int)) (hlk : meth.locks = false) {o : Nat} (ho : isX12 K R o) {post : Int32 → Prop} {v1 : Int32} {v2 : Int32} {v3 : Int32} {H : Heap} {locs : List Loc} {ls : Array Slot} (hw : w_X12_busy_15 I o post v1 v2 v3) (hM : mm D cA bs (n, K, R, I, L) H) (hS : va_S (Ab bs) s.heap H locs) (hl : lv_has ls 6 [(0, .ref (ad bs o)), (1, .int v1), (2, .int v2), (3, .int v3)]) : W p l e ({ frames := 1, cells := 0, slots := 0, locals := 21 } : Room) s m args below meth c H locs 0 0 (MQ below (QI D cA bs (fun r u => u = (n, K, R, I, L) ∧ post r)) args s 0 0 (Ab bs)) (F0 m 15 ls []) := by
  have hx := E.1.1
  have hb := E.1.2.1
  refine hw (fun v1 v2 v3 => ∀ (H : Heap) (locs : List Loc) (ls : Array Slot), mm D cA bs (n, K, R, I, L) H → va_S (Ab bs) s.heap H locs → lv_has ls 6 [(0, .ref (ad bs o)), (1, .int v1), (2, .int v2), (3, .int v3)] → W p l e ({ frames := 1, cells := 0, slots := 0, locals := 21 } : Room) s m args below meth c H locs 0 0 (MQ below (QI D cA bs (fun r u => u = (n, K, R, I, L) ∧ post r)) args s 0 0 (Ab bs)) (F0 m 15 ls [])) ?_ H locs ls hM hS hl
  clear hw hM hS hl
  intro v1 v2 v3 hw H locs ls hM hS hl
  refine lv_iload_n hx hb dX12_busy_15 rfl (lv_at hl 3 rfl) ?_
  refine lv_aload_n hx hb dX12_busy_16 rfl (lv_at hl 0 rfl) ?_
  refine lv_iconst (v := 0) hx hb dX12_busy_17 (by decide) ?_
  refine m_ci (m_runV E hM hS cs_X12_205 ho.1 (by decide) rfl rfl (c_X12_of ho hw) rfl rfl ⟨Nat.le_of_ble_eq_true rfl, Nat.le_of_ble_eq_true rfl⟩ rfl hl.1 rfl (Nat.le_of_ble_eq_true rfl) dX12_busy_18 ⟨Nat.le_of_ble_eq_true rfl, Nat.le_of_ble_eq_true rfl⟩) hS (fun r1 u H locs hp hM hS => ?_)
  obtain ⟨rfl, hw⟩ := hp
  refine lv_icmp_ge (tgt := 97) hx hb dX12_busy_21 (by decide) (fun cq => ?_) (fun cq => ?_)
  · have hw := hw.1 cq
    refine lv_iload_n hx hb dX12_busy_97 rfl (lv_at hl 1 rfl) ?_
    exact m_reti hx hb hr hlk hM hS ⟨rfl, hw⟩ dX12_busy_98
  · have hw := hw.2 cq
    refine lv_iconst (v := 0) hx hb dX12_busy_24 (by decide) ?_
    refine lv_istore (lv' := [(4, .int 0), (0, .ref (ad bs o)), (1, .int v1), (2, .int v2), (3, .int v3)]) hx hb dX12_busy_25 hl (by decide) rfl (fun ls hl => ?_)
    refine lv_iconst (v := 0) hx hb dX12_busy_27 (by decide) ?_
    refine lv_istore (lv' := [(5, .int 0), (4, .int 0), (0, .ref (ad bs o)), (1, .int v1), (2, .int v2), (3, .int v3)]) hx hb dX12_busy_28 hl (by decide) rfl (fun ls hl => ?_)
    exact s_X12_busy_30 E hr hlk ho (fun v1 v2 v3 v4 H locs ls  hw hM hS hl => s_X12_busy_66 E hr hlk ho (fun v1 v2 v3 H locs ls  hw hM hS hl => hw H locs ls  hM hS hl)  hw hM hS hl)  hw hM hS (lv_sub hl [2, 3, 4, 5, 1, 0] rfl)
def w_X12_busy (I : mI) (o : Nat) (post : Int32 → Prop) : Prop := (¬ (I o 25) = 0 → (w_X12_busy_15 I o post) 0 0 0) ∧ ((I o 25) = 0 → post (-1))
set_option maxRecDepth 100000 in
set_option maxHeartbeats 4000000 in
theorem c_X12_busy {l : Launch} {D : va_G} {cA : Nat → ClassId} {Z : mZ} {bs : Ad} {n : Nat} {K : mK} {R : mR} {I : mI} {L : mL} {o : Nat} {post : Int32 → Prop} (ho : isX12 K R o) (hw : w_X12_busy I o post) : Met l yX12_busy (.code yX12_busy cX12_busy 6 (some .int) :: gw) ({ frames := 1, cells := 0, slots := 0, locals := 21 } : Room) (PreM D cA Z bs (n, K, R, I, L) [.ref (ad bs o)]) (QI D cA bs (fun r u => u = (n, K, R, I, L) ∧ post r)) 0 0 (Ab bs) := by
  refine m_met (by decide) (Nat.le_of_ble_eq_true rfl) (fun p e s m below meth c ls E hr hlk hM hS hl => ?_)
  have E : Ev p s m _ c cX12_busy 6 RX12 D cA Z bs := E
  have hl : lv_has ls 6 [(0, .ref (ad bs o))] := hl
  have hx := E.1.1
  have hb := E.1.2.1
  generalize hHe : s.heap = H at hM ⊢
  have hS : va_S (Ab bs) s.heap H [] := by rw [← hHe]; exact va_S.rf
  clear hHe
  refine lv_aload_n hx hb dX12_busy_0 rfl (lv_at hl 0 rfl) ?_
  refine m_geti E hM fs_X12_262 ho.1 dX12_busy_1 ?_
  refine lv_if_ne (tgt := 9) hx hb dX12_busy_4 (by decide) (fun cq => ?_) (fun cq => ?_)
  · have hw := hw.1 cq
    refine lv_iconst (v := 0) hx hb dX12_busy_9 (by decide) ?_
    refine lv_istore_n (lv' := [(1, .int 0), (0, .ref (ad bs o))]) hx hb dX12_busy_10 rfl hl (by decide) rfl (fun ls hl => ?_)
    refine lv_iconst (v := 0) hx hb dX12_busy_11 (by decide) ?_
    refine lv_istore_n (lv' := [(2, .int 0), (1, .int 0), (0, .ref (ad bs o))]) hx hb dX12_busy_12 rfl hl (by decide) rfl (fun ls hl => ?_)
    refine lv_iconst (v := 0) hx hb dX12_busy_13 (by decide) ?_
    refine lv_istore_n (lv' := [(3, .int 0), (2, .int 0), (1, .int 0), (0, .ref (ad bs o))]) hx hb dX12_busy_14 rfl hl (by decide) rfl (fun ls hl => ?_)
    exact s_X12_busy_15 E hr hlk ho  hw hM hS (lv_sub hl [3, 2, 1, 0] rfl)
  · have hw := hw.2 cq
    refine lv_iconst (v := (-1)) hx hb dX12_busy_7 (by decide) ?_
    exact m_reti hx hb hr hlk hM hS ⟨rfl, hw⟩ dX12_busy_8
theorem dX12_copies_0 : decode cX12_copies 0 = .ok (.iconst 0, 1) := by decide +kernel
theorem dX12_copies_1 : decode cX12_copies 1 = .ok (.istore_n 1, 1) := by decide +kernel
theorem dX12_copies_2 : decode cX12_copies 2 = .ok (.iconst 0, 1) := by decide +kernel
theorem dX12_copies_3 : decode cX12_copies 3 = .ok (.istore_n 2, 1) := by decide +kernel
theorem dX12_copies_4 : decode cX12_copies 4 = .ok (.iload_n 2, 1) := by decide +kernel
theorem dX12_copies_5 : decode cX12_copies 5 = .ok (.aload_n 0, 1) := by decide +kernel
theorem dX12_copies_6 : decode cX12_copies 6 = .ok (.invokevirtual 208, 3) := by decide +kernel
theorem dX12_copies_9 : decode cX12_copies 9 = .ok (.if_icmp .ge 107, 3) := by decide +kernel
theorem dX12_copies_12 : decode cX12_copies 12 = .ok (.iload_n 2, 1) := by decide +kernel
theorem dX12_copies_13 : decode cX12_copies 13 = .ok (.iconst 1, 1) := by decide +kernel
theorem dX12_copies_14 : decode cX12_copies 14 = .ok (.iadd, 1) := by decide +kernel
theorem dX12_copies_15 : decode cX12_copies 15 = .ok (.istore_n 3, 1) := by decide +kernel
theorem dX12_copies_16 : decode cX12_copies 16 = .ok (.iload_n 3, 1) := by decide +kernel
theorem dX12_copies_17 : decode cX12_copies 17 = .ok (.aload_n 0, 1) := by decide +kernel
theorem dX12_copies_18 : decode cX12_copies 18 = .ok (.invokevirtual 208, 3) := by decide +kernel
theorem dX12_copies_21 : decode cX12_copies 21 = .ok (.if_icmp .ge 89, 3) := by decide +kernel
theorem dX12_copies_24 : decode cX12_copies 24 = .ok (.aload_n 0, 1) := by decide +kernel
theorem dX12_copies_25 : decode cX12_copies 25 = .ok (.iload_n 2, 1) := by decide +kernel
theorem dX12_copies_26 : decode cX12_copies 26 = .ok (.iconst 1, 1) := by decide +kernel
theorem dX12_copies_27 : decode cX12_copies 27 = .ok (.invokevirtual 241, 3) := by decide +kernel
theorem dX12_copies_30 : decode cX12_copies 30 = .ok (.aload_n 0, 1) := by decide +kernel
theorem dX12_copies_31 : decode cX12_copies 31 = .ok (.iload_n 3, 1) := by decide +kernel
theorem dX12_copies_32 : decode cX12_copies 32 = .ok (.iconst 1, 1) := by decide +kernel
theorem dX12_copies_33 : decode cX12_copies 33 = .ok (.invokevirtual 241, 3) := by decide +kernel
theorem dX12_copies_36 : decode cX12_copies 36 = .ok (.if_icmp .ne 7, 3) := by decide +kernel
theorem dX12_copies_39 : decode cX12_copies 39 = .ok (.iconst 1, 1) := by decide +kernel
theorem dX12_copies_40 : decode cX12_copies 40 = .ok (.goto 4, 3) := by decide +kernel
theorem dX12_copies_43 : decode cX12_copies 43 = .ok (.iconst 0, 1) := by decide +kernel
theorem dX12_copies_44 : decode cX12_copies 44 = .ok (.istore 4, 2) := by decide +kernel
theorem dX12_copies_46 : decode cX12_copies 46 = .ok (.iconst 0, 1) := by decide +kernel
theorem dX12_copies_47 : decode cX12_copies 47 = .ok (.istore 5, 2) := by decide +kernel
theorem dX12_copies_49 : decode cX12_copies 49 = .ok (.iload 5, 2) := by decide +kernel
theorem dX12_copies_51 : decode cX12_copies 51 = .ok (.bipush 100, 2) := by decide +kernel
theorem dX12_copies_53 : decode cX12_copies 53 = .ok (.if_icmp .ge 38, 3) := by decide +kernel
theorem dX12_copies_56 : decode cX12_copies 56 = .ok (.iload 4, 2) := by decide +kernel
theorem dX12_copies_58 : decode cX12_copies 58 = .ok (.ifCond .eq 24, 3) := by decide +kernel
theorem dX12_copies_61 : decode cX12_copies 61 = .ok (.aload_n 0, 1) := by decide +kernel
theorem dX12_copies_62 : decode cX12_copies 62 = .ok (.iload_n 2, 1) := by decide +kernel
theorem dX12_copies_63 : decode cX12_copies 63 = .ok (.iload 5, 2) := by decide +kernel
theorem dX12_copies_65 : decode cX12_copies 65 = .ok (.invokevirtual 268, 3) := by decide +kernel
theorem dX12_copies_68 : decode cX12_copies 68 = .ok (.aload_n 0, 1) := by decide +kernel
theorem dX12_copies_69 : decode cX12_copies 69 = .ok (.iload_n 3, 1) := by decide +kernel
theorem dX12_copies_70 : decode cX12_copies 70 = .ok (.iload 5, 2) := by decide +kernel
theorem dX12_copies_72 : decode cX12_copies 72 = .ok (.invokevirtual 268, 3) := by decide +kernel
theorem dX12_copies_75 : decode cX12_copies 75 = .ok (.if_icmp .ne 7, 3) := by decide +kernel
theorem dX12_copies_78 : decode cX12_copies 78 = .ok (.iconst 1, 1) := by decide +kernel
theorem dX12_copies_79 : decode cX12_copies 79 = .ok (.goto 4, 3) := by decide +kernel
theorem dX12_copies_82 : decode cX12_copies 82 = .ok (.iconst 0, 1) := by decide +kernel
theorem dX12_copies_83 : decode cX12_copies 83 = .ok (.istore 4, 2) := by decide +kernel
theorem dX12_copies_85 : decode cX12_copies 85 = .ok (.iinc 5 1, 3) := by decide +kernel
theorem dX12_copies_88 : decode cX12_copies 88 = .ok (.goto (-39), 3) := by decide +kernel
theorem dX12_copies_91 : decode cX12_copies 91 = .ok (.iload_n 1, 1) := by decide +kernel
theorem dX12_copies_92 : decode cX12_copies 92 = .ok (.iload 4, 2) := by decide +kernel
theorem dX12_copies_94 : decode cX12_copies 94 = .ok (.ifCond .eq 7, 3) := by decide +kernel
theorem dX12_copies_97 : decode cX12_copies 97 = .ok (.iconst 1, 1) := by decide +kernel
theorem dX12_copies_98 : decode cX12_copies 98 = .ok (.goto 4, 3) := by decide +kernel
theorem dX12_copies_101 : decode cX12_copies 101 = .ok (.iconst 0, 1) := by decide +kernel
theorem dX12_copies_102 : decode cX12_copies 102 = .ok (.iadd, 1) := by decide +kernel
theorem dX12_copies_103 : decode cX12_copies 103 = .ok (.istore_n 1, 1) := by decide +kernel
theorem dX12_copies_104 : decode cX12_copies 104 = .ok (.iinc 3 1, 3) := by decide +kernel
theorem dX12_copies_107 : decode cX12_copies 107 = .ok (.goto (-91), 3) := by decide +kernel
theorem dX12_copies_110 : decode cX12_copies 110 = .ok (.iinc 2 1, 3) := by decide +kernel
theorem dX12_copies_113 : decode cX12_copies 113 = .ok (.goto (-109), 3) := by decide +kernel
theorem dX12_copies_116 : decode cX12_copies 116 = .ok (.iload_n 1, 1) := by decide +kernel
theorem dX12_copies_117 : decode cX12_copies 117 = .ok (.ireturn, 1) := by decide +kernel
def w_X12_copies_49 (I : mI) (o : Nat) (post : Int32 → Prop) (k91 : Int32 → Int32 → Int32 → Int32 → Prop) (v1 : Int32) (v2 : Int32) (v3 : Int32) (v4 : Int32) (v5 : Int32) : Prop := ∀ ZZ : (Int32 → Int32 → Int32 → Int32 → Int32 → Prop), (∀ (v1 : Int32) (v2 : Int32) (v3 : Int32) (v4 : Int32) (v5 : Int32), ((100 ≤ v5 → k91 v1 v2 v3 v4) ∧ (¬ 100 ≤ v5 → (v4 = 0 → ∀ x7, x7 = v5 + 1 → ZZ v1 v2 v3 0 x7) ∧ (¬ v4 = 0 → w_X12_shoeOf I o v2 v5 (fun r8 => w_X12_shoeOf I o v3 v5 (fun r9 => (¬ r8 = r9 → ∀ x10, x10 = v5 + 1 → ZZ v1 v2 v3 0 x10) ∧ (r8 = r9 → ∀ x11, x11 = v5 + 1 → ZZ v1 v2 v3 1 x11)))))) → ZZ v1 v2 v3 v4 v5) → ZZ v1 v2 v3 v4 v5
set_option maxRecDepth 100000 in
set_option maxHeartbeats 4000000 in
theorem s_X12_copies_49 {p : Program} {l : Launch} {e : Env} {s : State} {m : MethodId} {args : Array Value} {below : List Frame} {meth : Method} {c : Code} {D : va_G} {cA : Nat → ClassId} {Z : mZ} {bs : Ad} {n : Nat} {K : mK} {R : mR} {I : mI} {L : mL} (E : Ev p s m args c cX12_copies 6 RX12 D cA Z bs) (hr : meth.sig.returnType = (some .int)) (hlk : meth.locks = false) {o : Nat} (ho : isX12 K R o) {post : Int32 → Prop} {k91 : Int32 → Int32 → Int32 → Int32 → Prop} (hk91 : ∀ (v1 : Int32) (v2 : Int32) (v3 : Int32) (v4 : Int32) (H : Heap) (locs : List Loc) (ls : Array Slot), k91 v1 v2 v3 v4 → mm D cA bs (n, K, R, I, L) H → va_S (Ab bs) s.heap H locs → lv_has ls 6 [(0, .ref (ad bs o)), (1, .int v1), (2, .int v2), (3, .int v3), (4, .int v4)] → W p l e ({ frames := 2, cells := 0, slots := 0, locals := 48 } : Room) s m args below meth c H locs 0 0 (MQ below (QI D cA bs (fun r u => u = (n, K, R, I, L) ∧ post r)) args s 0 0 (Ab bs)) (F0 m 91 ls [])) {v1 : Int32} {v2 : Int32} {v3 : Int32} {v4 : Int32} {v5 : Int32} {H : Heap} {locs : List Loc} {ls : Array Slot} (hw : w_X12_copies_49 I o post k91 v1 v2 v3 v4 v5) (hM : mm D cA bs (n, K, R, I, L) H) (hS : va_S (Ab bs) s.heap H locs) (hl : lv_has ls 6 [(0, .ref (ad bs o)), (1, .int v1), (2, .int v2), (3, .int v3), (4, .int v4), (5, .int v5)]) : W p l e ({ frames := 2, cells := 0, slots := 0, locals := 48 } : Room) s m args below meth c H locs 0 0 (MQ below (QI D cA bs (fun r u => u = (n, K, R, I, L) ∧ post r)) args s 0 0 (Ab bs)) (F0 m 49 ls []) := by
  have hx := E.1.1
  have hb := E.1.2.1
  refine hw (fun v1 v2 v3 v4 v5 => ∀ (H : Heap) (locs : List Loc) (ls : Array Slot), mm D cA bs (n, K, R, I, L) H → va_S (Ab bs) s.heap H locs → lv_has ls 6 [(0, .ref (ad bs o)), (1, .int v1), (2, .int v2), (3, .int v3), (4, .int v4), (5, .int v5)] → W p l e ({ frames := 2, cells := 0, slots := 0, locals := 48 } : Room) s m args below meth c H locs 0 0 (MQ below (QI D cA bs (fun r u => u = (n, K, R, I, L) ∧ post r)) args s 0 0 (Ab bs)) (F0 m 49 ls [])) ?_ H locs ls hM hS hl
  clear hw hM hS hl
  intro v1 v2 v3 v4 v5 hw H locs ls hM hS hl
  refine lv_iload hx hb dX12_copies_49 (lv_at hl 5 rfl) ?_
  refine lv_bipush (v := 100) hx hb dX12_copies_51 (by decide) ?_
  refine lv_icmp_ge (tgt := 91) hx hb dX12_copies_53 (by decide) (fun cq => ?_) (fun cq => ?_)
  · have hw := hw.1 cq
    exact hk91 _ _ _ _ H locs ls  hw hM hS (lv_sub hl [0, 1, 2, 3, 4] rfl)
  · have hw := hw.2 cq
    refine lv_iload hx hb dX12_copies_56 (lv_at hl 4 rfl) ?_
    refine lv_if_eq (tgt := 82) hx hb dX12_copies_58 (by decide) (fun cq => ?_) (fun cq => ?_)
    · have hw := hw.1 cq
      refine lv_iconst (v := 0) hx hb dX12_copies_82 (by decide) ?_
      refine lv_istore (lv' := [(4, .int 0), (0, .ref (ad bs o)), (1, .int v1), (2, .int v2), (3, .int v3), (5, .int v5)]) hx hb dX12_copies_83 hl (by decide) rfl (fun ls hl => ?_)
      obtain ⟨x7, ex7⟩ : ∃ y : Int32, y = v5 + 1 := ⟨_, rfl⟩
      have hw := hw x7 ex7
      refine lv_iinc (v := x7) (lv' := [(5, .int x7), (4, .int 0), (0, .ref (ad bs o)), (1, .int v1), (2, .int v2), (3, .int v3)]) hx hb dX12_copies_85 hl (k := 5) rfl (by rw [ex7]; rfl) (by decide) rfl (fun ls hl => ?_)
      refine lv_goto (tgt := 49) hx hb dX12_copies_88 (by decide) ?_
      exact hw H locs ls  hM hS (lv_sub hl [2, 3, 4, 5, 1, 0] rfl)
    · have hw := hw.2 cq
      refine lv_aload_n hx hb dX12_copies_61 rfl (lv_at hl 0 rfl) ?_
      refine lv_iload_n hx hb dX12_copies_62 rfl (lv_at hl 2 rfl) ?_
      refine lv_iload hx hb dX12_copies_63 (lv_at hl 5 rfl) ?_
      refine m_ci (m_runV E hM hS cs_X12_268 ho.1 (by decide) rfl rfl (c_X12_shoeOf ho hw) rfl rfl ⟨Nat.le_of_ble_eq_true rfl, Nat.le_of_ble_eq_true rfl⟩ rfl hl.1 rfl (Nat.le_of_ble_eq_true rfl) dX12_copies_65 ⟨Nat.le_of_ble_eq_true rfl, Nat.le_of_ble_eq_true rfl⟩) hS (fun r8 u H locs hp hM hS => ?_)
      obtain ⟨rfl, hw⟩ := hp
      refine lv_aload_n hx hb dX12_copies_68 rfl (lv_at hl 0 rfl) ?_
      refine lv_iload_n hx hb dX12_copies_69 rfl (lv_at hl 3 rfl) ?_
      refine lv_iload hx hb dX12_copies_70 (lv_at hl 5 rfl) ?_
      refine m_ci (m_runV E hM hS cs_X12_268 ho.1 (by decide) rfl rfl (c_X12_shoeOf ho hw) rfl rfl ⟨Nat.le_of_ble_eq_true rfl, Nat.le_of_ble_eq_true rfl⟩ rfl hl.1 rfl (Nat.le_of_ble_eq_true rfl) dX12_copies_72 ⟨Nat.le_of_ble_eq_true rfl, Nat.le_of_ble_eq_true rfl⟩) hS (fun r9 u H locs hp hM hS => ?_)
      obtain ⟨rfl, hw⟩ := hp
      refine lv_icmp_ne (tgt := 82) hx hb dX12_copies_75 (by decide) (fun cq => ?_) (fun cq => ?_)
      · have hw := hw.1 cq
        refine lv_iconst (v := 0) hx hb dX12_copies_82 (by decide) ?_
        refine lv_istore (lv' := [(4, .int 0), (0, .ref (ad bs o)), (1, .int v1), (2, .int v2), (3, .int v3), (5, .int v5)]) hx hb dX12_copies_83 hl (by decide) rfl (fun ls hl => ?_)
        obtain ⟨x10, ex10⟩ : ∃ y : Int32, y = v5 + 1 := ⟨_, rfl⟩
        have hw := hw x10 ex10
        refine lv_iinc (v := x10) (lv' := [(5, .int x10), (4, .int 0), (0, .ref (ad bs o)), (1, .int v1), (2, .int v2), (3, .int v3)]) hx hb dX12_copies_85 hl (k := 5) rfl (by rw [ex10]; rfl) (by decide) rfl (fun ls hl => ?_)
        refine lv_goto (tgt := 49) hx hb dX12_copies_88 (by decide) ?_
        exact hw H locs ls  hM hS (lv_sub hl [2, 3, 4, 5, 1, 0] rfl)
      · have hw := hw.2 cq
        refine lv_iconst (v := 1) hx hb dX12_copies_78 (by decide) ?_
        refine lv_goto (tgt := 83) hx hb dX12_copies_79 (by decide) ?_
        refine lv_istore (lv' := [(4, .int 1), (0, .ref (ad bs o)), (1, .int v1), (2, .int v2), (3, .int v3), (5, .int v5)]) hx hb dX12_copies_83 hl (by decide) rfl (fun ls hl => ?_)
        obtain ⟨x11, ex11⟩ : ∃ y : Int32, y = v5 + 1 := ⟨_, rfl⟩
        have hw := hw x11 ex11
        refine lv_iinc (v := x11) (lv' := [(5, .int x11), (4, .int 1), (0, .ref (ad bs o)), (1, .int v1), (2, .int v2), (3, .int v3)]) hx hb dX12_copies_85 hl (k := 5) rfl (by rw [ex11]; rfl) (by decide) rfl (fun ls hl => ?_)
        refine lv_goto (tgt := 49) hx hb dX12_copies_88 (by decide) ?_
        exact hw H locs ls  hM hS (lv_sub hl [2, 3, 4, 5, 1, 0] rfl)
def w_X12_copies_91 (I : mI) (o : Nat) (post : Int32 → Prop) (k16 : Int32 → Int32 → Int32 → Prop) (v1 : Int32) (v2 : Int32) (v3 : Int32) (v4 : Int32) : Prop := (v4 = 0 → ∀ x12, x12 = (v1 + 0) → ∀ x13, x13 = v3 + 1 → k16 x12 v2 x13) ∧ (¬ v4 = 0 → ∀ x14, x14 = (v1 + 1) → ∀ x15, x15 = v3 + 1 → k16 x14 v2 x15)
set_option maxRecDepth 100000 in
set_option maxHeartbeats 4000000 in
theorem s_X12_copies_91 {p : Program} {l : Launch} {e : Env} {s : State} {m : MethodId} {args : Array Value} {below : List Frame} {meth : Method} {c : Code} {D : va_G} {cA : Nat → ClassId} {Z : mZ} {bs : Ad} {n : Nat} {K : mK} {R : mR} {I : mI} {L : mL} (E : Ev p s m args c cX12_copies 6 RX12 D cA Z bs) (hr : meth.sig.returnType = (some .int)) (hlk : meth.locks = false) {o : Nat} (ho : isX12 K R o) {post : Int32 → Prop} {k16 : Int32 → Int32 → Int32 → Prop} (hk16 : ∀ (v1 : Int32) (v2 : Int32) (v3 : Int32) (H : Heap) (locs : List Loc) (ls : Array Slot), k16 v1 v2 v3 → mm D cA bs (n, K, R, I, L) H → va_S (Ab bs) s.heap H locs → lv_has ls 6 [(0, .ref (ad bs o)), (1, .int v1), (2, .int v2), (3, .int v3)] → W p l e ({ frames := 2, cells := 0, slots := 0, locals := 48 } : Room) s m args below meth c H locs 0 0 (MQ below (QI D cA bs (fun r u => u = (n, K, R, I, L) ∧ post r)) args s 0 0 (Ab bs)) (F0 m 16 ls [])) {v1 : Int32} {v2 : Int32} {v3 : Int32} {v4 : Int32} {H : Heap} {locs : List Loc} {ls : Array Slot} (hw : w_X12_copies_91 I o post k16 v1 v2 v3 v4) (hM : mm D cA bs (n, K, R, I, L) H) (hS : va_S (Ab bs) s.heap H locs) (hl : lv_has ls 6 [(0, .ref (ad bs o)), (1, .int v1), (2, .int v2), (3, .int v3), (4, .int v4)]) : W p l e ({ frames := 2, cells := 0, slots := 0, locals := 48 } : Room) s m args below meth c H locs 0 0 (MQ below (QI D cA bs (fun r u => u = (n, K, R, I, L) ∧ post r)) args s 0 0 (Ab bs)) (F0 m 91 ls []) := by
  have hx := E.1.1
  have hb := E.1.2.1
  refine lv_iload_n hx hb dX12_copies_91 rfl (lv_at hl 1 rfl) ?_
  refine lv_iload hx hb dX12_copies_92 (lv_at hl 4 rfl) ?_
  refine lv_if_eq (tgt := 101) hx hb dX12_copies_94 (by decide) (fun cq => ?_) (fun cq => ?_)
  · have hw := hw.1 cq
    refine lv_iconst (v := 0) hx hb dX12_copies_101 (by decide) ?_
    refine lv_iadd hx hb dX12_copies_102 ?_
    refine lv_topi (fun x12 ex12 => ?_)
    have hw := hw x12 ex12
    refine lv_istore_n (lv' := [(1, .int x12), (0, .ref (ad bs o)), (2, .int v2), (3, .int v3), (4, .int v4)]) hx hb dX12_copies_103 rfl hl (by decide) rfl (fun ls hl => ?_)
    obtain ⟨x13, ex13⟩ : ∃ y : Int32, y = v3 + 1 := ⟨_, rfl⟩
    have hw := hw x13 ex13
    refine lv_iinc (v := x13) (lv' := [(3, .int x13), (1, .int x12), (0, .ref (ad bs o)), (2, .int v2), (4, .int v4)]) hx hb dX12_copies_104 hl (k := 3) rfl (by rw [ex13]; rfl) (by decide) rfl (fun ls hl => ?_)
    refine lv_goto (tgt := 16) hx hb dX12_copies_107 (by decide) ?_
    exact hk16 _ _ _ H locs ls  hw hM hS (lv_sub hl [2, 1, 3, 0] rfl)
  · have hw := hw.2 cq
    refine lv_iconst (v := 1) hx hb dX12_copies_97 (by decide) ?_
    refine lv_goto (tgt := 102) hx hb dX12_copies_98 (by decide) ?_
    refine lv_iadd hx hb dX12_copies_102 ?_
    refine lv_topi (fun x14 ex14 => ?_)
    have hw := hw x14 ex14
    refine lv_istore_n (lv' := [(1, .int x14), (0, .ref (ad bs o)), (2, .int v2), (3, .int v3), (4, .int v4)]) hx hb dX12_copies_103 rfl hl (by decide) rfl (fun ls hl => ?_)
    obtain ⟨x15, ex15⟩ : ∃ y : Int32, y = v3 + 1 := ⟨_, rfl⟩
    have hw := hw x15 ex15
    refine lv_iinc (v := x15) (lv' := [(3, .int x15), (1, .int x14), (0, .ref (ad bs o)), (2, .int v2), (4, .int v4)]) hx hb dX12_copies_104 hl (k := 3) rfl (by rw [ex15]; rfl) (by decide) rfl (fun ls hl => ?_)
    refine lv_goto (tgt := 16) hx hb dX12_copies_107 (by decide) ?_
    exact hk16 _ _ _ H locs ls  hw hM hS (lv_sub hl [2, 1, 3, 0] rfl)
def w_X12_copies_16 (I : mI) (o : Nat) (post : Int32 → Prop) (k4 : Int32 → Int32 → Prop) (v1 : Int32) (v2 : Int32) (v3 : Int32) : Prop := ∀ ZZ : (Int32 → Int32 → Int32 → Prop), (∀ (v1 : Int32) (v2 : Int32) (v3 : Int32), (w_X12_people I o (fun r3 => (r3 ≤ v3 → ∀ x4, x4 = v2 + 1 → k4 v1 x4) ∧ (¬ r3 ≤ v3 → w_X12_told I o v2 1 (fun r5 => w_X12_told I o v3 1 (fun r6 => (¬ r5 = r6 → (w_X12_copies_49 I o post (w_X12_copies_91 I o post ZZ)) v1 v2 v3 0 0) ∧ (r5 = r6 → (w_X12_copies_49 I o post (w_X12_copies_91 I o post ZZ)) v1 v2 v3 1 0)))))) → ZZ v1 v2 v3) → ZZ v1 v2 v3
set_option maxRecDepth 100000 in
set_option maxHeartbeats 4000000 in
theorem s_X12_copies_16 {p : Program} {l : Launch} {e : Env} {s : State} {m : MethodId} {args : Array Value} {below : List Frame} {meth : Method} {c : Code} {D : va_G} {cA : Nat → ClassId} {Z : mZ} {bs : Ad} {n : Nat} {K : mK} {R : mR} {I : mI} {L : mL} (E : Ev p s m args c cX12_copies 6 RX12 D cA Z bs) (hr : meth.sig.returnType = (some .int)) (hlk : meth.locks = false) {o : Nat} (ho : isX12 K R o) {post : Int32 → Prop} {k4 : Int32 → Int32 → Prop} (hk4 : ∀ (v1 : Int32) (v2 : Int32) (H : Heap) (locs : List Loc) (ls : Array Slot), k4 v1 v2 → mm D cA bs (n, K, R, I, L) H → va_S (Ab bs) s.heap H locs → lv_has ls 6 [(0, .ref (ad bs o)), (1, .int v1), (2, .int v2)] → W p l e ({ frames := 2, cells := 0, slots := 0, locals := 48 } : Room) s m args below meth c H locs 0 0 (MQ below (QI D cA bs (fun r u => u = (n, K, R, I, L) ∧ post r)) args s 0 0 (Ab bs)) (F0 m 4 ls [])) {v1 : Int32} {v2 : Int32} {v3 : Int32} {H : Heap} {locs : List Loc} {ls : Array Slot} (hw : w_X12_copies_16 I o post k4 v1 v2 v3) (hM : mm D cA bs (n, K, R, I, L) H) (hS : va_S (Ab bs) s.heap H locs) (hl : lv_has ls 6 [(0, .ref (ad bs o)), (1, .int v1), (2, .int v2), (3, .int v3)]) : W p l e ({ frames := 2, cells := 0, slots := 0, locals := 48 } : Room) s m args below meth c H locs 0 0 (MQ below (QI D cA bs (fun r u => u = (n, K, R, I, L) ∧ post r)) args s 0 0 (Ab bs)) (F0 m 16 ls []) := by
  have hx := E.1.1
  have hb := E.1.2.1
  refine hw (fun v1 v2 v3 => ∀ (H : Heap) (locs : List Loc) (ls : Array Slot), mm D cA bs (n, K, R, I, L) H → va_S (Ab bs) s.heap H locs → lv_has ls 6 [(0, .ref (ad bs o)), (1, .int v1), (2, .int v2), (3, .int v3)] → W p l e ({ frames := 2, cells := 0, slots := 0, locals := 48 } : Room) s m args below meth c H locs 0 0 (MQ below (QI D cA bs (fun r u => u = (n, K, R, I, L) ∧ post r)) args s 0 0 (Ab bs)) (F0 m 16 ls [])) ?_ H locs ls hM hS hl
  clear hw hM hS hl
  intro v1 v2 v3 hw H locs ls hM hS hl
  refine lv_iload_n hx hb dX12_copies_16 rfl (lv_at hl 3 rfl) ?_
  refine lv_aload_n hx hb dX12_copies_17 rfl (lv_at hl 0 rfl) ?_
  refine m_ci (m_runV E hM hS cs_X12_208 ho.1 (by decide) rfl rfl (c_X12_people ho hw) rfl rfl ⟨Nat.le_of_ble_eq_true rfl, Nat.le_of_ble_eq_true rfl⟩ rfl hl.1 rfl (Nat.le_of_ble_eq_true rfl) dX12_copies_18 ⟨Nat.le_of_ble_eq_true rfl, Nat.le_of_ble_eq_true rfl⟩) hS (fun r3 u H locs hp hM hS => ?_)
  obtain ⟨rfl, hw⟩ := hp
  refine lv_icmp_ge (tgt := 110) hx hb dX12_copies_21 (by decide) (fun cq => ?_) (fun cq => ?_)
  · have hw := hw.1 cq
    obtain ⟨x4, ex4⟩ : ∃ y : Int32, y = v2 + 1 := ⟨_, rfl⟩
    have hw := hw x4 ex4
    refine lv_iinc (v := x4) (lv' := [(2, .int x4), (0, .ref (ad bs o)), (1, .int v1), (3, .int v3)]) hx hb dX12_copies_110 hl (k := 2) rfl (by rw [ex4]; rfl) (by decide) rfl (fun ls hl => ?_)
    refine lv_goto (tgt := 4) hx hb dX12_copies_113 (by decide) ?_
    exact hk4 _ _ H locs ls  hw hM hS (lv_sub hl [1, 2, 0] rfl)
  · have hw := hw.2 cq
    refine lv_aload_n hx hb dX12_copies_24 rfl (lv_at hl 0 rfl) ?_
    refine lv_iload_n hx hb dX12_copies_25 rfl (lv_at hl 2 rfl) ?_
    refine lv_iconst (v := 1) hx hb dX12_copies_26 (by decide) ?_
    refine m_ci (m_runV E hM hS cs_X12_241 ho.1 (by decide) rfl rfl (c_X12_told ho hw) rfl rfl ⟨Nat.le_of_ble_eq_true rfl, Nat.le_of_ble_eq_true rfl⟩ rfl hl.1 rfl (Nat.le_of_ble_eq_true rfl) dX12_copies_27 ⟨Nat.le_of_ble_eq_true rfl, Nat.le_of_ble_eq_true rfl⟩) hS (fun r5 u H locs hp hM hS => ?_)
    obtain ⟨rfl, hw⟩ := hp
    refine lv_aload_n hx hb dX12_copies_30 rfl (lv_at hl 0 rfl) ?_
    refine lv_iload_n hx hb dX12_copies_31 rfl (lv_at hl 3 rfl) ?_
    refine lv_iconst (v := 1) hx hb dX12_copies_32 (by decide) ?_
    refine m_ci (m_runV E hM hS cs_X12_241 ho.1 (by decide) rfl rfl (c_X12_told ho hw) rfl rfl ⟨Nat.le_of_ble_eq_true rfl, Nat.le_of_ble_eq_true rfl⟩ rfl hl.1 rfl (Nat.le_of_ble_eq_true rfl) dX12_copies_33 ⟨Nat.le_of_ble_eq_true rfl, Nat.le_of_ble_eq_true rfl⟩) hS (fun r6 u H locs hp hM hS => ?_)
    obtain ⟨rfl, hw⟩ := hp
    refine lv_icmp_ne (tgt := 43) hx hb dX12_copies_36 (by decide) (fun cq => ?_) (fun cq => ?_)
    · have hw := hw.1 cq
      refine lv_iconst (v := 0) hx hb dX12_copies_43 (by decide) ?_
      refine lv_istore (lv' := [(4, .int 0), (0, .ref (ad bs o)), (1, .int v1), (2, .int v2), (3, .int v3)]) hx hb dX12_copies_44 hl (by decide) rfl (fun ls hl => ?_)
      refine lv_iconst (v := 0) hx hb dX12_copies_46 (by decide) ?_
      refine lv_istore (lv' := [(5, .int 0), (4, .int 0), (0, .ref (ad bs o)), (1, .int v1), (2, .int v2), (3, .int v3)]) hx hb dX12_copies_47 hl (by decide) rfl (fun ls hl => ?_)
      exact s_X12_copies_49 E hr hlk ho (fun v1 v2 v3 v4 H locs ls  hw hM hS hl => s_X12_copies_91 E hr hlk ho (fun v1 v2 v3 H locs ls  hw hM hS hl => hw H locs ls  hM hS hl)  hw hM hS hl)  hw hM hS (lv_sub hl [2, 3, 4, 5, 1, 0] rfl)
    · have hw := hw.2 cq
      refine lv_iconst (v := 1) hx hb dX12_copies_39 (by decide) ?_
      refine lv_goto (tgt := 44) hx hb dX12_copies_40 (by decide) ?_
      refine lv_istore (lv' := [(4, .int 1), (0, .ref (ad bs o)), (1, .int v1), (2, .int v2), (3, .int v3)]) hx hb dX12_copies_44 hl (by decide) rfl (fun ls hl => ?_)
      refine lv_iconst (v := 0) hx hb dX12_copies_46 (by decide) ?_
      refine lv_istore (lv' := [(5, .int 0), (4, .int 1), (0, .ref (ad bs o)), (1, .int v1), (2, .int v2), (3, .int v3)]) hx hb dX12_copies_47 hl (by decide) rfl (fun ls hl => ?_)
      exact s_X12_copies_49 E hr hlk ho (fun v1 v2 v3 v4 H locs ls  hw hM hS hl => s_X12_copies_91 E hr hlk ho (fun v1 v2 v3 H locs ls  hw hM hS hl => hw H locs ls  hM hS hl)  hw hM hS hl)  hw hM hS (lv_sub hl [2, 3, 4, 5, 1, 0] rfl)
def w_X12_copies_4 (I : mI) (o : Nat) (post : Int32 → Prop) (v1 : Int32) (v2 : Int32) : Prop := ∀ ZZ : (Int32 → Int32 → Prop), (∀ (v1 : Int32) (v2 : Int32), (w_X12_people I o (fun r1 => (r1 ≤ v2 → post v1) ∧ (¬ r1 ≤ v2 → ∀ x2, x2 = (v2 + 1) → (w_X12_copies_16 I o post ZZ) v1 v2 x2))) → ZZ v1 v2) → ZZ v1 v2
set_option maxRecDepth 100000 in
set_option maxHeartbeats 4000000 in
theorem s_X12_copies_4 {p : Program} {l : Launch} {e : Env} {s : State} {m : MethodId} {args : Array Value} {below : List Frame} {meth : Method} {c : Code} {D : va_G} {cA : Nat → ClassId} {Z : mZ} {bs : Ad} {n : Nat} {K : mK} {R : mR} {I : mI} {L : mL} (E : Ev p s m args c cX12_copies 6 RX12 D cA Z bs) (hr : meth.sig.returnType = (some .int)) (hlk : meth.locks = false) {o : Nat} (ho : isX12 K R o) {post : Int32 → Prop} {v1 : Int32} {v2 : Int32} {H : Heap} {locs : List Loc} {ls : Array Slot} (hw : w_X12_copies_4 I o post v1 v2) (hM : mm D cA bs (n, K, R, I, L) H) (hS : va_S (Ab bs) s.heap H locs) (hl : lv_has ls 6 [(0, .ref (ad bs o)), (1, .int v1), (2, .int v2)]) : W p l e ({ frames := 2, cells := 0, slots := 0, locals := 48 } : Room) s m args below meth c H locs 0 0 (MQ below (QI D cA bs (fun r u => u = (n, K, R, I, L) ∧ post r)) args s 0 0 (Ab bs)) (F0 m 4 ls []) := by
  have hx := E.1.1
  have hb := E.1.2.1
  refine hw (fun v1 v2 => ∀ (H : Heap) (locs : List Loc) (ls : Array Slot), mm D cA bs (n, K, R, I, L) H → va_S (Ab bs) s.heap H locs → lv_has ls 6 [(0, .ref (ad bs o)), (1, .int v1), (2, .int v2)] → W p l e ({ frames := 2, cells := 0, slots := 0, locals := 48 } : Room) s m args below meth c H locs 0 0 (MQ below (QI D cA bs (fun r u => u = (n, K, R, I, L) ∧ post r)) args s 0 0 (Ab bs)) (F0 m 4 ls [])) ?_ H locs ls hM hS hl
  clear hw hM hS hl
  intro v1 v2 hw H locs ls hM hS hl
  refine lv_iload_n hx hb dX12_copies_4 rfl (lv_at hl 2 rfl) ?_
  refine lv_aload_n hx hb dX12_copies_5 rfl (lv_at hl 0 rfl) ?_
  refine m_ci (m_runV E hM hS cs_X12_208 ho.1 (by decide) rfl rfl (c_X12_people ho hw) rfl rfl ⟨Nat.le_of_ble_eq_true rfl, Nat.le_of_ble_eq_true rfl⟩ rfl hl.1 rfl (Nat.le_of_ble_eq_true rfl) dX12_copies_6 ⟨Nat.le_of_ble_eq_true rfl, Nat.le_of_ble_eq_true rfl⟩) hS (fun r1 u H locs hp hM hS => ?_)
  obtain ⟨rfl, hw⟩ := hp
  refine lv_icmp_ge (tgt := 116) hx hb dX12_copies_9 (by decide) (fun cq => ?_) (fun cq => ?_)
  · have hw := hw.1 cq
    refine lv_iload_n hx hb dX12_copies_116 rfl (lv_at hl 1 rfl) ?_
    exact m_reti hx hb hr hlk hM hS ⟨rfl, hw⟩ dX12_copies_117
  · have hw := hw.2 cq
    refine lv_iload_n hx hb dX12_copies_12 rfl (lv_at hl 2 rfl) ?_
    refine lv_iconst (v := 1) hx hb dX12_copies_13 (by decide) ?_
    refine lv_iadd hx hb dX12_copies_14 ?_
    refine lv_topi (fun x2 ex2 => ?_)
    have hw := hw x2 ex2
    refine lv_istore_n (lv' := [(3, .int x2), (0, .ref (ad bs o)), (1, .int v1), (2, .int v2)]) hx hb dX12_copies_15 rfl hl (by decide) rfl (fun ls hl => ?_)
    exact s_X12_copies_16 E hr hlk ho (fun v1 v2 H locs ls  hw hM hS hl => hw H locs ls  hM hS hl)  hw hM hS (lv_sub hl [1, 2, 3, 0] rfl)
def w_X12_copies (I : mI) (o : Nat) (post : Int32 → Prop) : Prop := (w_X12_copies_4 I o post) 0 0
set_option maxRecDepth 100000 in
set_option maxHeartbeats 4000000 in
theorem c_X12_copies {l : Launch} {D : va_G} {cA : Nat → ClassId} {Z : mZ} {bs : Ad} {n : Nat} {K : mK} {R : mR} {I : mI} {L : mL} {o : Nat} {post : Int32 → Prop} (ho : isX12 K R o) (hw : w_X12_copies I o post) : Met l yX12_copies (.code yX12_copies cX12_copies 6 (some .int) :: gw) ({ frames := 2, cells := 0, slots := 0, locals := 48 } : Room) (PreM D cA Z bs (n, K, R, I, L) [.ref (ad bs o)]) (QI D cA bs (fun r u => u = (n, K, R, I, L) ∧ post r)) 0 0 (Ab bs) := by
  refine m_met (by decide) (Nat.le_of_ble_eq_true rfl) (fun p e s m below meth c ls E hr hlk hM hS hl => ?_)
  have E : Ev p s m _ c cX12_copies 6 RX12 D cA Z bs := E
  have hl : lv_has ls 6 [(0, .ref (ad bs o))] := hl
  have hx := E.1.1
  have hb := E.1.2.1
  generalize hHe : s.heap = H at hM ⊢
  have hS : va_S (Ab bs) s.heap H [] := by rw [← hHe]; exact va_S.rf
  clear hHe
  refine lv_iconst (v := 0) hx hb dX12_copies_0 (by decide) ?_
  refine lv_istore_n (lv' := [(1, .int 0), (0, .ref (ad bs o))]) hx hb dX12_copies_1 rfl hl (by decide) rfl (fun ls hl => ?_)
  refine lv_iconst (v := 0) hx hb dX12_copies_2 (by decide) ?_
  refine lv_istore_n (lv' := [(2, .int 0), (1, .int 0), (0, .ref (ad bs o))]) hx hb dX12_copies_3 rfl hl (by decide) rfl (fun ls hl => ?_)
  exact s_X12_copies_4 E hr hlk ho  hw hM hS (lv_sub hl [2, 1, 0] rfl)
theorem dX12_tells_0 : decode cX12_tells 0 = .ok (.iconst 0, 1) := by decide +kernel
theorem dX12_tells_1 : decode cX12_tells 1 = .ok (.istore_n 2, 1) := by decide +kernel
theorem dX12_tells_2 : decode cX12_tells 2 = .ok (.iconst 0, 1) := by decide +kernel
theorem dX12_tells_3 : decode cX12_tells 3 = .ok (.istore_n 3, 1) := by decide +kernel
theorem dX12_tells_4 : decode cX12_tells 4 = .ok (.iload_n 3, 1) := by decide +kernel
theorem dX12_tells_5 : decode cX12_tells 5 = .ok (.aload_n 0, 1) := by decide +kernel
theorem dX12_tells_6 : decode cX12_tells 6 = .ok (.getfield 262, 3) := by decide +kernel
theorem dX12_tells_9 : decode cX12_tells 9 = .ok (.if_icmp .ge 38, 3) := by decide +kernel
theorem dX12_tells_12 : decode cX12_tells 12 = .ok (.iload_n 2, 1) := by decide +kernel
theorem dX12_tells_13 : decode cX12_tells 13 = .ok (.aload_n 0, 1) := by decide +kernel
theorem dX12_tells_14 : decode cX12_tells 14 = .ok (.getfield 38, 3) := by decide +kernel
theorem dX12_tells_17 : decode cX12_tells 17 = .ok (.iload_n 3, 1) := by decide +kernel
theorem dX12_tells_18 : decode cX12_tells 18 = .ok (.iaload, 1) := by decide +kernel
theorem dX12_tells_19 : decode cX12_tells 19 = .ok (.iload_n 1, 1) := by decide +kernel
theorem dX12_tells_20 : decode cX12_tells 20 = .ok (.ishr, 1) := by decide +kernel
theorem dX12_tells_21 : decode cX12_tells 21 = .ok (.iconst 1, 1) := by decide +kernel
theorem dX12_tells_22 : decode cX12_tells 22 = .ok (.iand, 1) := by decide +kernel
theorem dX12_tells_23 : decode cX12_tells 23 = .ok (.iconst 1, 1) := by decide +kernel
theorem dX12_tells_24 : decode cX12_tells 24 = .ok (.if_icmp .ne 14, 3) := by decide +kernel
theorem dX12_tells_27 : decode cX12_tells 27 = .ok (.iconst 1, 1) := by decide +kernel
theorem dX12_tells_28 : decode cX12_tells 28 = .ok (.aload_n 0, 1) := by decide +kernel
theorem dX12_tells_29 : decode cX12_tells 29 = .ok (.getfield 29, 3) := by decide +kernel
theorem dX12_tells_32 : decode cX12_tells 32 = .ok (.iload_n 3, 1) := by decide +kernel
theorem dX12_tells_33 : decode cX12_tells 33 = .ok (.iaload, 1) := by decide +kernel
theorem dX12_tells_34 : decode cX12_tells 34 = .ok (.ishl, 1) := by decide +kernel
theorem dX12_tells_35 : decode cX12_tells 35 = .ok (.goto 4, 3) := by decide +kernel
theorem dX12_tells_38 : decode cX12_tells 38 = .ok (.iconst 0, 1) := by decide +kernel
theorem dX12_tells_39 : decode cX12_tells 39 = .ok (.ior, 1) := by decide +kernel
theorem dX12_tells_40 : decode cX12_tells 40 = .ok (.istore_n 2, 1) := by decide +kernel
theorem dX12_tells_41 : decode cX12_tells 41 = .ok (.iinc 3 1, 3) := by decide +kernel
theorem dX12_tells_44 : decode cX12_tells 44 = .ok (.goto (-40), 3) := by decide +kernel
theorem dX12_tells_47 : decode cX12_tells 47 = .ok (.iload_n 2, 1) := by decide +kernel
theorem dX12_tells_48 : decode cX12_tells 48 = .ok (.invokestatic 415, 3) := by decide +kernel
theorem dX12_tells_51 : decode cX12_tells 51 = .ok (.ireturn, 1) := by decide +kernel
def w_X12_tells_4 (I : mI) (o : Nat) (a1 : Int32) (post : Int32 → Prop) (k47 : Int32 → Prop) (v2 : Int32) (v3 : Int32) : Prop := ∀ ZZ : (Int32 → Int32 → Prop), (∀ (v2 : Int32) (v3 : Int32), (((I o 25) ≤ v3 → k47 v2) ∧ (¬ (I o 25) ≤ v3 → vp_in v3 640 ∧ (¬ (((I (o + 10) v3.toNatClampNeg) >>> (a1 &&& 31)) &&& 1) = 1 → ∀ x1, x1 = (v2 ||| 0) → ∀ x2, x2 = v3 + 1 → ZZ x1 x2) ∧ ((((I (o + 10) v3.toNatClampNeg) >>> (a1 &&& 31)) &&& 1) = 1 → vp_in v3 640 ∧ ∀ x3, x3 = (v2 ||| (1 <<< ((I (o + 7) v3.toNatClampNeg) &&& 31))) → ∀ x4, x4 = v3 + 1 → ZZ x3 x4))) → ZZ v2 v3) → ZZ v2 v3
set_option maxRecDepth 100000 in
set_option maxHeartbeats 4000000 in
theorem s_X12_tells_4 {p : Program} {l : Launch} {e : Env} {s : State} {m : MethodId} {args : Array Value} {below : List Frame} {meth : Method} {c : Code} {D : va_G} {cA : Nat → ClassId} {Z : mZ} {bs : Ad} {n : Nat} {K : mK} {R : mR} {I : mI} {L : mL} (E : Ev p s m args c cX12_tells 4 RX12 D cA Z bs) (hr : meth.sig.returnType = (some .int)) (hlk : meth.locks = false) {o : Nat} {a1 : Int32} (ho : isX12 K R o) {post : Int32 → Prop} {k47 : Int32 → Prop} (hk47 : ∀ (v2 : Int32) (H : Heap) (locs : List Loc) (ls : Array Slot), k47 v2 → mm D cA bs (n, K, R, I, L) H → va_S (Ab bs) s.heap H locs → lv_has ls 4 [(2, .int v2)] → W p l e ({ frames := 1, cells := 0, slots := 0, locals := 22 } : Room) s m args below meth c H locs 0 0 (MQ below (QI D cA bs (fun r u => u = (n, K, R, I, L) ∧ post r)) args s 0 0 (Ab bs)) (F0 m 47 ls [])) {v2 : Int32} {v3 : Int32} {H : Heap} {locs : List Loc} {ls : Array Slot} (hw : w_X12_tells_4 I o a1 post k47 v2 v3) (hM : mm D cA bs (n, K, R, I, L) H) (hS : va_S (Ab bs) s.heap H locs) (hl : lv_has ls 4 [(0, .ref (ad bs o)), (1, .int a1), (2, .int v2), (3, .int v3)]) : W p l e ({ frames := 1, cells := 0, slots := 0, locals := 22 } : Room) s m args below meth c H locs 0 0 (MQ below (QI D cA bs (fun r u => u = (n, K, R, I, L) ∧ post r)) args s 0 0 (Ab bs)) (F0 m 4 ls []) := by
  have hx := E.1.1
  have hb := E.1.2.1
  refine hw (fun v2 v3 => ∀ (H : Heap) (locs : List Loc) (ls : Array Slot), mm D cA bs (n, K, R, I, L) H → va_S (Ab bs) s.heap H locs → lv_has ls 4 [(0, .ref (ad bs o)), (1, .int a1), (2, .int v2), (3, .int v3)] → W p l e ({ frames := 1, cells := 0, slots := 0, locals := 22 } : Room) s m args below meth c H locs 0 0 (MQ below (QI D cA bs (fun r u => u = (n, K, R, I, L) ∧ post r)) args s 0 0 (Ab bs)) (F0 m 4 ls [])) ?_ H locs ls hM hS hl
  clear hw hM hS hl
  intro v2 v3 hw H locs ls hM hS hl
  refine lv_iload_n hx hb dX12_tells_4 rfl (lv_at hl 3 rfl) ?_
  refine lv_aload_n hx hb dX12_tells_5 rfl (lv_at hl 0 rfl) ?_
  refine m_geti E hM fs_X12_262 ho.1 dX12_tells_6 ?_
  refine lv_icmp_ge (tgt := 47) hx hb dX12_tells_9 (by decide) (fun cq => ?_) (fun cq => ?_)
  · have hw := hw.1 cq
    exact hk47 _ H locs ls  hw hM hS (lv_sub hl [2] rfl)
  · have hw := hw.2 cq
    refine lv_iload_n hx hb dX12_tells_12 rfl (lv_at hl 2 rfl) ?_
    refine lv_aload_n hx hb dX12_tells_13 rfl (lv_at hl 0 rfl) ?_
    refine m_getr E hM fs_X12_38 ho.1 (isO_at ho 9 rfl).1 dX12_tells_14 ?_
    refine lv_iload_n hx hb dX12_tells_17 rfl (lv_at hl 3 rfl) ?_
    obtain ⟨hv, hw⟩ := hw
    refine m_iald E hM (isO_at ho 9 rfl).2 hv dX12_tells_18 ?_
    refine lv_iload_n hx hb dX12_tells_19 rfl (lv_at hl 1 rfl) ?_
    refine lv_ishr hx hb dX12_tells_20 ?_
    refine lv_iconst (v := 1) hx hb dX12_tells_21 (by decide) ?_
    refine lv_iand hx hb dX12_tells_22 ?_
    refine lv_iconst (v := 1) hx hb dX12_tells_23 (by decide) ?_
    refine lv_icmp_ne (tgt := 38) hx hb dX12_tells_24 (by decide) (fun cq => ?_) (fun cq => ?_)
    · have hw := hw.1 cq
      refine lv_iconst (v := 0) hx hb dX12_tells_38 (by decide) ?_
      refine lv_ior hx hb dX12_tells_39 ?_
      refine lv_topi (fun x1 ex1 => ?_)
      have hw := hw x1 ex1
      refine lv_istore_n (lv' := [(2, .int x1), (0, .ref (ad bs o)), (1, .int a1), (3, .int v3)]) hx hb dX12_tells_40 rfl hl (by decide) rfl (fun ls hl => ?_)
      obtain ⟨x2, ex2⟩ : ∃ y : Int32, y = v3 + 1 := ⟨_, rfl⟩
      have hw := hw x2 ex2
      refine lv_iinc (v := x2) (lv' := [(3, .int x2), (2, .int x1), (0, .ref (ad bs o)), (1, .int a1)]) hx hb dX12_tells_41 hl (k := 3) rfl (by rw [ex2]; rfl) (by decide) rfl (fun ls hl => ?_)
      refine lv_goto (tgt := 4) hx hb dX12_tells_44 (by decide) ?_
      exact hw H locs ls  hM hS (lv_sub hl [2, 3, 1, 0] rfl)
    · have hw := hw.2 cq
      refine lv_iconst (v := 1) hx hb dX12_tells_27 (by decide) ?_
      refine lv_aload_n hx hb dX12_tells_28 rfl (lv_at hl 0 rfl) ?_
      refine m_getr E hM fs_X12_29 ho.1 (isO_at ho 6 rfl).1 dX12_tells_29 ?_
      refine lv_iload_n hx hb dX12_tells_32 rfl (lv_at hl 3 rfl) ?_
      obtain ⟨hv, hw⟩ := hw
      refine m_iald E hM (isO_at ho 6 rfl).2 hv dX12_tells_33 ?_
      refine lv_ishl hx hb dX12_tells_34 ?_
      refine lv_goto (tgt := 39) hx hb dX12_tells_35 (by decide) ?_
      refine lv_ior hx hb dX12_tells_39 ?_
      refine lv_topi (fun x3 ex3 => ?_)
      have hw := hw x3 ex3
      refine lv_istore_n (lv' := [(2, .int x3), (0, .ref (ad bs o)), (1, .int a1), (3, .int v3)]) hx hb dX12_tells_40 rfl hl (by decide) rfl (fun ls hl => ?_)
      obtain ⟨x4, ex4⟩ : ∃ y : Int32, y = v3 + 1 := ⟨_, rfl⟩
      have hw := hw x4 ex4
      refine lv_iinc (v := x4) (lv' := [(3, .int x4), (2, .int x3), (0, .ref (ad bs o)), (1, .int a1)]) hx hb dX12_tells_41 hl (k := 3) rfl (by rw [ex4]; rfl) (by decide) rfl (fun ls hl => ?_)
      refine lv_goto (tgt := 4) hx hb dX12_tells_44 (by decide) ?_
      exact hw H locs ls  hM hS (lv_sub hl [2, 3, 1, 0] rfl)
def w_X12_tells_47 (I : mI) (o : Nat) (a1 : Int32) (post : Int32 → Prop) (v2 : Int32) : Prop := w_X12_bits v2 (fun r5 => post r5)
set_option maxRecDepth 100000 in
set_option maxHeartbeats 4000000 in
theorem s_X12_tells_47 {p : Program} {l : Launch} {e : Env} {s : State} {m : MethodId} {args : Array Value} {below : List Frame} {meth : Method} {c : Code} {D : va_G} {cA : Nat → ClassId} {Z : mZ} {bs : Ad} {n : Nat} {K : mK} {R : mR} {I : mI} {L : mL} (E : Ev p s m args c cX12_tells 4 RX12 D cA Z bs) (hr : meth.sig.returnType = (some .int)) (hlk : meth.locks = false) {o : Nat} {a1 : Int32} (ho : isX12 K R o) {post : Int32 → Prop} {v2 : Int32} {H : Heap} {locs : List Loc} {ls : Array Slot} (hw : w_X12_tells_47 I o a1 post v2) (hM : mm D cA bs (n, K, R, I, L) H) (hS : va_S (Ab bs) s.heap H locs) (hl : lv_has ls 4 [(2, .int v2)]) : W p l e ({ frames := 1, cells := 0, slots := 0, locals := 22 } : Room) s m args below meth c H locs 0 0 (MQ below (QI D cA bs (fun r u => u = (n, K, R, I, L) ∧ post r)) args s 0 0 (Ab bs)) (F0 m 47 ls []) := by
  have hx := E.1.1
  have hb := E.1.2.1
  refine lv_iload_n hx hb dX12_tells_47 rfl (lv_at hl 0 rfl) ?_
  refine m_ci (m_runS E hM hS cs_X12_415 (c_X12_bits  hw) rfl rfl ⟨Nat.le_of_ble_eq_true rfl, Nat.le_of_ble_eq_true rfl⟩ rfl hl.1 rfl (Nat.le_of_ble_eq_true rfl) dX12_tells_48 ⟨Nat.le_of_ble_eq_true rfl, Nat.le_of_ble_eq_true rfl⟩) hS (fun r5 u H locs hp hM hS => ?_)
  obtain ⟨rfl, hw⟩ := hp
  exact m_reti hx hb hr hlk hM hS ⟨rfl, hw⟩ dX12_tells_51
def w_X12_tells (I : mI) (o : Nat) (a1 : Int32) (post : Int32 → Prop) : Prop := (w_X12_tells_4 I o a1 post (w_X12_tells_47 I o a1 post)) 0 0
set_option maxRecDepth 100000 in
set_option maxHeartbeats 4000000 in
theorem c_X12_tells {l : Launch} {D : va_G} {cA : Nat → ClassId} {Z : mZ} {bs : Ad} {n : Nat} {K : mK} {R : mR} {I : mI} {L : mL} {o : Nat} {a1 : Int32} {post : Int32 → Prop} (ho : isX12 K R o) (hw : w_X12_tells I o a1 post) : Met l yX12_tells (.code yX12_tells cX12_tells 4 (some .int) :: gw) ({ frames := 1, cells := 0, slots := 0, locals := 22 } : Room) (PreM D cA Z bs (n, K, R, I, L) [.ref (ad bs o), .int a1]) (QI D cA bs (fun r u => u = (n, K, R, I, L) ∧ post r)) 0 0 (Ab bs) := by
  refine m_met (by decide) (Nat.le_of_ble_eq_true rfl) (fun p e s m below meth c ls E hr hlk hM hS hl => ?_)
  have E : Ev p s m _ c cX12_tells 4 RX12 D cA Z bs := E
  have hl : lv_has ls 4 [(0, .ref (ad bs o)), (1, .int a1)] := hl
  have hx := E.1.1
  have hb := E.1.2.1
  generalize hHe : s.heap = H at hM ⊢
  have hS : va_S (Ab bs) s.heap H [] := by rw [← hHe]; exact va_S.rf
  clear hHe
  refine lv_iconst (v := 0) hx hb dX12_tells_0 (by decide) ?_
  refine lv_istore_n (lv' := [(2, .int 0), (0, .ref (ad bs o)), (1, .int a1)]) hx hb dX12_tells_1 rfl hl (by decide) rfl (fun ls hl => ?_)
  refine lv_iconst (v := 0) hx hb dX12_tells_2 (by decide) ?_
  refine lv_istore_n (lv' := [(3, .int 0), (2, .int 0), (0, .ref (ad bs o)), (1, .int a1)]) hx hb dX12_tells_3 rfl hl (by decide) rfl (fun ls hl => ?_)
  exact s_X12_tells_4 E hr hlk ho (fun v2 H locs ls  hw hM hS hl => s_X12_tells_47 E hr hlk ho  hw hM hS hl)  hw hM hS (lv_sub hl [2, 3, 1, 0] rfl)
theorem dX12_move_0 : decode cX12_move 0 = .ok (.iconst (-1), 1) := by decide +kernel
theorem dX12_move_1 : decode cX12_move 1 = .ok (.istore_n 2, 1) := by decide +kernel
theorem dX12_move_2 : decode cX12_move 2 = .ok (.iconst 0, 1) := by decide +kernel
theorem dX12_move_3 : decode cX12_move 3 = .ok (.istore_n 3, 1) := by decide +kernel
theorem dX12_move_4 : decode cX12_move 4 = .ok (.aload_n 0, 1) := by decide +kernel
theorem dX12_move_5 : decode cX12_move 5 = .ok (.iload_n 1, 1) := by decide +kernel
theorem dX12_move_6 : decode cX12_move 6 = .ok (.putfield 232, 3) := by decide +kernel
theorem dX12_move_9 : decode cX12_move 9 = .ok (.iconst 0, 1) := by decide +kernel
theorem dX12_move_10 : decode cX12_move 10 = .ok (.istore 4, 2) := by decide +kernel
theorem dX12_move_12 : decode cX12_move 12 = .ok (.iload 4, 2) := by decide +kernel
theorem dX12_move_14 : decode cX12_move 14 = .ok (.aload_n 0, 1) := by decide +kernel
theorem dX12_move_15 : decode cX12_move 15 = .ok (.iconst 0, 1) := by decide +kernel
theorem dX12_move_16 : decode cX12_move 16 = .ok (.invokevirtual 205, 3) := by decide +kernel
theorem dX12_move_19 : decode cX12_move 19 = .ok (.if_icmp .ge 45, 3) := by decide +kernel
theorem dX12_move_22 : decode cX12_move 22 = .ok (.aload_n 0, 1) := by decide +kernel
theorem dX12_move_23 : decode cX12_move 23 = .ok (.iload 4, 2) := by decide +kernel
theorem dX12_move_25 : decode cX12_move 25 = .ok (.putfield 250, 3) := by decide +kernel
theorem dX12_move_28 : decode cX12_move 28 = .ok (.aload_n 0, 1) := by decide +kernel
theorem dX12_move_29 : decode cX12_move 29 = .ok (.invokevirtual 306, 3) := by decide +kernel
theorem dX12_move_32 : decode cX12_move 32 = .ok (.aload_n 0, 1) := by decide +kernel
theorem dX12_move_33 : decode cX12_move 33 = .ok (.iload_n 1, 1) := by decide +kernel
theorem dX12_move_34 : decode cX12_move 34 = .ok (.invokevirtual 318, 3) := by decide +kernel
theorem dX12_move_37 : decode cX12_move 37 = .ok (.istore 5, 2) := by decide +kernel
theorem dX12_move_39 : decode cX12_move 39 = .ok (.iload_n 2, 1) := by decide +kernel
theorem dX12_move_40 : decode cX12_move 40 = .ok (.ifCond .lt 12, 3) := by decide +kernel
theorem dX12_move_43 : decode cX12_move 43 = .ok (.iload 5, 2) := by decide +kernel
theorem dX12_move_45 : decode cX12_move 45 = .ok (.iload_n 3, 1) := by decide +kernel
theorem dX12_move_46 : decode cX12_move 46 = .ok (.if_icmp .lt 6, 3) := by decide +kernel
theorem dX12_move_49 : decode cX12_move 49 = .ok (.goto 9, 3) := by decide +kernel
theorem dX12_move_52 : decode cX12_move 52 = .ok (.iload 4, 2) := by decide +kernel
theorem dX12_move_54 : decode cX12_move 54 = .ok (.istore_n 2, 1) := by decide +kernel
theorem dX12_move_55 : decode cX12_move 55 = .ok (.iload 5, 2) := by decide +kernel
theorem dX12_move_57 : decode cX12_move 57 = .ok (.istore_n 3, 1) := by decide +kernel
theorem dX12_move_58 : decode cX12_move 58 = .ok (.iinc 4 1, 3) := by decide +kernel
theorem dX12_move_61 : decode cX12_move 61 = .ok (.goto (-49), 3) := by decide +kernel
theorem dX12_move_64 : decode cX12_move 64 = .ok (.iload_n 2, 1) := by decide +kernel
theorem dX12_move_65 : decode cX12_move 65 = .ok (.ireturn, 1) := by decide +kernel
def w_X12_move_12 (o : Nat) (a1 : Int32) (post : Int32 → mI → Prop) (I : mI) (v2 : Int32) (v3 : Int32) (v4 : Int32) : Prop := ∀ ZZ : (mI → Int32 → Int32 → Int32 → Prop), (∀ (I : mI) (v2 : Int32) (v3 : Int32) (v4 : Int32), (w_X12_of I o 0 (fun r2 => (r2 ≤ v4 → post v2 I) ∧ (¬ r2 ≤ v4 → ∀ I3, I3 = up2 I o 21 v4 → w_X12_runs I3 o (fun I4 => w_X12_notesOf I4 o a1 (fun r5 => (v2 < 0 → ∀ x6, x6 = v4 + 1 → ZZ I4 v4 r5 x6) ∧ (¬ v2 < 0 → (r5 < v3 → ∀ x7, x7 = v4 + 1 → ZZ I4 v4 r5 x7) ∧ (¬ r5 < v3 → ∀ x8, x8 = v4 + 1 → ZZ I4 v2 v3 x8))))))) → ZZ I v2 v3 v4) → ZZ I v2 v3 v4
set_option maxRecDepth 100000 in
set_option maxHeartbeats 4000000 in
theorem s_X12_move_12 {p : Program} {l : Launch} {e : Env} {s : State} {m : MethodId} {args : Array Value} {below : List Frame} {meth : Method} {c : Code} {D : va_G} {cA : Nat → ClassId} {Z : mZ} {bs : Ad} {n : Nat} {K : mK} {R : mR} {L : mL} (E : Ev p s m args c cX12_move 6 RX12 D cA Z bs) (hr : meth.sig.returnType = (some .int)) (hlk : meth.locks = false) {o : Nat} {a1 : Int32} (ho : isX12 K R o) {post : Int32 → mI → Prop} {I : mI} {v2 : Int32} {v3 : Int32} {v4 : Int32} {H : Heap} {locs : List Loc} {ls : Array Slot} (hw : w_X12_move_12 o a1 post I v2 v3 v4) (hM : mm D cA bs (n, K, R, I, L) H) (hS : va_S (Ab bs) s.heap H locs) (hl : lv_has ls 6 [(0, .ref (ad bs o)), (1, .int a1), (2, .int v2), (3, .int v3), (4, .int v4)]) : W p l e ({ frames := 7, cells := 0, slots := 0, locals := 159 } : Room) s m args below meth c H locs 0 0 (MQ below (QI D cA bs (fun r u => ∃ I', u = (n, K, R, I', L) ∧ post r I')) args s 0 0 (Ab bs)) (F0 m 12 ls []) := by
  have hx := E.1.1
  have hb := E.1.2.1
  refine hw (fun I v2 v3 v4 => ∀ (H : Heap) (locs : List Loc) (ls : Array Slot), mm D cA bs (n, K, R, I, L) H → va_S (Ab bs) s.heap H locs → lv_has ls 6 [(0, .ref (ad bs o)), (1, .int a1), (2, .int v2), (3, .int v3), (4, .int v4)] → W p l e ({ frames := 7, cells := 0, slots := 0, locals := 159 } : Room) s m args below meth c H locs 0 0 (MQ below (QI D cA bs (fun r u => ∃ I', u = (n, K, R, I', L) ∧ post r I')) args s 0 0 (Ab bs)) (F0 m 12 ls [])) ?_ H locs ls hM hS hl
  clear hw hM hS hl
  intro I v2 v3 v4 hw H locs ls hM hS hl
  refine lv_iload hx hb dX12_move_12 (lv_at hl 4 rfl) ?_
  refine lv_aload_n hx hb dX12_move_14 rfl (lv_at hl 0 rfl) ?_
  refine lv_iconst (v := 0) hx hb dX12_move_15 (by decide) ?_
  refine m_ci (m_runV E hM hS cs_X12_205 ho.1 (by decide) rfl rfl (c_X12_of ho hw) rfl rfl ⟨Nat.le_of_ble_eq_true rfl, Nat.le_of_ble_eq_true rfl⟩ rfl hl.1 rfl (Nat.le_of_ble_eq_true rfl) dX12_move_16 ⟨Nat.le_of_ble_eq_true rfl, Nat.le_of_ble_eq_true rfl⟩) hS (fun r2 u H locs hp hM hS => ?_)
  obtain ⟨rfl, hw⟩ := hp
  refine lv_icmp_ge (tgt := 64) hx hb dX12_move_19 (by decide) (fun cq => ?_) (fun cq => ?_)
  · have hw := hw.1 cq
    refine lv_iload_n hx hb dX12_move_64 rfl (lv_at hl 2 rfl) ?_
    exact m_reti hx hb hr hlk hM hS ⟨_, rfl, hw⟩ dX12_move_65
  · have hw := hw.2 cq
    refine lv_aload_n hx hb dX12_move_22 rfl (lv_at hl 0 rfl) ?_
    refine lv_iload hx hb dX12_move_23 (lv_at hl 4 rfl) ?_
    refine m_puti E hM hS fp_X12_250 ho.1 rfl rfl dX12_move_25 (fun I3 H locs eI3 hM hS => ?_)
    have hw := hw I3 eI3
    refine lv_aload_n hx hb dX12_move_28 rfl (lv_at hl 0 rfl) ?_
    refine m_cv (m_runV E hM hS cs_X12_306 ho.1 (by decide) rfl rfl (c_X12_runs ho hw) rfl rfl ⟨Nat.le_of_ble_eq_true rfl, Nat.le_of_ble_eq_true rfl⟩ rfl hl.1 rfl (Nat.le_of_ble_eq_true rfl) dX12_move_29 ⟨Nat.le_of_ble_eq_true rfl, Nat.le_of_ble_eq_true rfl⟩) hS (fun u H locs hp hM hS => ?_)
    obtain ⟨I4, rfl, hw⟩ := hp
    refine lv_aload_n hx hb dX12_move_32 rfl (lv_at hl 0 rfl) ?_
    refine lv_iload_n hx hb dX12_move_33 rfl (lv_at hl 1 rfl) ?_
    refine m_ci (m_runV E hM hS cs_X12_318 ho.1 (by decide) rfl rfl (c_X12_notesOf ho hw) rfl rfl ⟨Nat.le_of_ble_eq_true rfl, Nat.le_of_ble_eq_true rfl⟩ rfl hl.1 rfl (Nat.le_of_ble_eq_true rfl) dX12_move_34 ⟨Nat.le_of_ble_eq_true rfl, Nat.le_of_ble_eq_true rfl⟩) hS (fun r5 u H locs hp hM hS => ?_)
    obtain ⟨rfl, hw⟩ := hp
    refine lv_istore (lv' := [(5, .int r5), (0, .ref (ad bs o)), (1, .int a1), (2, .int v2), (3, .int v3), (4, .int v4)]) hx hb dX12_move_37 hl (by decide) rfl (fun ls hl => ?_)
    refine lv_iload_n hx hb dX12_move_39 rfl (lv_at hl 3 rfl) ?_
    refine lv_if_lt (tgt := 52) hx hb dX12_move_40 (by decide) (fun cq => ?_) (fun cq => ?_)
    · have hw := hw.1 cq
      refine lv_iload hx hb dX12_move_52 (lv_at hl 5 rfl) ?_
      refine lv_istore_n (lv' := [(2, .int v4), (5, .int r5), (0, .ref (ad bs o)), (1, .int a1), (3, .int v3), (4, .int v4)]) hx hb dX12_move_54 rfl hl (by decide) rfl (fun ls hl => ?_)
      refine lv_iload hx hb dX12_move_55 (lv_at hl 1 rfl) ?_
      refine lv_istore_n (lv' := [(3, .int r5), (2, .int v4), (5, .int r5), (0, .ref (ad bs o)), (1, .int a1), (4, .int v4)]) hx hb dX12_move_57 rfl hl (by decide) rfl (fun ls hl => ?_)
      obtain ⟨x6, ex6⟩ : ∃ y : Int32, y = v4 + 1 := ⟨_, rfl⟩
      have hw := hw x6 ex6
      refine lv_iinc (v := x6) (lv' := [(4, .int x6), (3, .int r5), (2, .int v4), (5, .int r5), (0, .ref (ad bs o)), (1, .int a1)]) hx hb dX12_move_58 hl (k := 5) rfl (by rw [ex6]; rfl) (by decide) rfl (fun ls hl => ?_)
      refine lv_goto (tgt := 12) hx hb dX12_move_61 (by decide) ?_
      exact hw H locs ls  hM hS (lv_sub hl [4, 5, 2, 1, 0] rfl)
    · have hw := hw.2 cq
      refine lv_iload hx hb dX12_move_43 (lv_at hl 0 rfl) ?_
      refine lv_iload_n hx hb dX12_move_45 rfl (lv_at hl 4 rfl) ?_
      refine lv_icmp_lt (tgt := 52) hx hb dX12_move_46 (by decide) (fun cq => ?_) (fun cq => ?_)
      · have hw := hw.1 cq
        refine lv_iload hx hb dX12_move_52 (lv_at hl 5 rfl) ?_
        refine lv_istore_n (lv' := [(2, .int v4), (5, .int r5), (0, .ref (ad bs o)), (1, .int a1), (3, .int v3), (4, .int v4)]) hx hb dX12_move_54 rfl hl (by decide) rfl (fun ls hl => ?_)
        refine lv_iload hx hb dX12_move_55 (lv_at hl 1 rfl) ?_
        refine lv_istore_n (lv' := [(3, .int r5), (2, .int v4), (5, .int r5), (0, .ref (ad bs o)), (1, .int a1), (4, .int v4)]) hx hb dX12_move_57 rfl hl (by decide) rfl (fun ls hl => ?_)
        obtain ⟨x7, ex7⟩ : ∃ y : Int32, y = v4 + 1 := ⟨_, rfl⟩
        have hw := hw x7 ex7
        refine lv_iinc (v := x7) (lv' := [(4, .int x7), (3, .int r5), (2, .int v4), (5, .int r5), (0, .ref (ad bs o)), (1, .int a1)]) hx hb dX12_move_58 hl (k := 5) rfl (by rw [ex7]; rfl) (by decide) rfl (fun ls hl => ?_)
        refine lv_goto (tgt := 12) hx hb dX12_move_61 (by decide) ?_
        exact hw H locs ls  hM hS (lv_sub hl [4, 5, 2, 1, 0] rfl)
      · have hw := hw.2 cq
        refine lv_goto (tgt := 58) hx hb dX12_move_49 (by decide) ?_
        obtain ⟨x8, ex8⟩ : ∃ y : Int32, y = v4 + 1 := ⟨_, rfl⟩
        have hw := hw x8 ex8
        refine lv_iinc (v := x8) (lv' := [(4, .int x8), (5, .int r5), (0, .ref (ad bs o)), (1, .int a1), (2, .int v2), (3, .int v3)]) hx hb dX12_move_58 hl (k := 5) rfl (by rw [ex8]; rfl) (by decide) rfl (fun ls hl => ?_)
        refine lv_goto (tgt := 12) hx hb dX12_move_61 (by decide) ?_
        exact hw H locs ls  hM hS (lv_sub hl [2, 3, 4, 5, 0] rfl)
def w_X12_move (I : mI) (o : Nat) (a1 : Int32) (post : Int32 → mI → Prop) : Prop := ∀ I1, I1 = up2 I o 20 a1 → (w_X12_move_12 o a1 post) I1 (-1) 0 0
set_option maxRecDepth 100000 in
set_option maxHeartbeats 4000000 in
theorem c_X12_move {l : Launch} {D : va_G} {cA : Nat → ClassId} {Z : mZ} {bs : Ad} {n : Nat} {K : mK} {R : mR} {I : mI} {L : mL} {o : Nat} {a1 : Int32} {post : Int32 → mI → Prop} (ho : isX12 K R o) (hw : w_X12_move I o a1 post) : Met l yX12_move (.code yX12_move cX12_move 6 (some .int) :: gw) ({ frames := 7, cells := 0, slots := 0, locals := 159 } : Room) (PreM D cA Z bs (n, K, R, I, L) [.ref (ad bs o), .int a1]) (QI D cA bs (fun r u => ∃ I', u = (n, K, R, I', L) ∧ post r I')) 0 0 (Ab bs) := by
  refine m_met (by decide) (Nat.le_of_ble_eq_true rfl) (fun p e s m below meth c ls E hr hlk hM hS hl => ?_)
  have E : Ev p s m _ c cX12_move 6 RX12 D cA Z bs := E
  have hl : lv_has ls 6 [(0, .ref (ad bs o)), (1, .int a1)] := hl
  have hx := E.1.1
  have hb := E.1.2.1
  generalize hHe : s.heap = H at hM ⊢
  have hS : va_S (Ab bs) s.heap H [] := by rw [← hHe]; exact va_S.rf
  clear hHe
  refine lv_iconst (v := (-1)) hx hb dX12_move_0 (by decide) ?_
  refine lv_istore_n (lv' := [(2, .int (-1)), (0, .ref (ad bs o)), (1, .int a1)]) hx hb dX12_move_1 rfl hl (by decide) rfl (fun ls hl => ?_)
  refine lv_iconst (v := 0) hx hb dX12_move_2 (by decide) ?_
  refine lv_istore_n (lv' := [(3, .int 0), (2, .int (-1)), (0, .ref (ad bs o)), (1, .int a1)]) hx hb dX12_move_3 rfl hl (by decide) rfl (fun ls hl => ?_)
  refine lv_aload_n hx hb dX12_move_4 rfl (lv_at hl 2 rfl) ?_
  refine lv_iload_n hx hb dX12_move_5 rfl (lv_at hl 3 rfl) ?_
  refine m_puti E hM hS fp_X12_232 ho.1 rfl rfl dX12_move_6 (fun I1 H locs eI1 hM hS => ?_)
  have hw := hw I1 eI1
  refine lv_iconst (v := 0) hx hb dX12_move_9 (by decide) ?_
  refine lv_istore (lv' := [(4, .int 0), (3, .int 0), (2, .int (-1)), (0, .ref (ad bs o)), (1, .int a1)]) hx hb dX12_move_10 hl (by decide) rfl (fun ls hl => ?_)
  exact s_X12_move_12 E hr hlk ho  hw hM hS (lv_sub hl [3, 4, 2, 1, 0] rfl)
theorem dX12_hire_0 : decode cX12_hire 0 = .ok (.aload_n 0, 1) := by decide +kernel
theorem dX12_hire_1 : decode cX12_hire 1 = .ok (.iload_n 1, 1) := by decide +kernel
theorem dX12_hire_2 : decode cX12_hire 2 = .ok (.putfield 220, 3) := by decide +kernel
theorem dX12_hire_5 : decode cX12_hire 5 = .ok (.aload_n 0, 1) := by decide +kernel
theorem dX12_hire_6 : decode cX12_hire 6 = .ok (.bipush 9, 2) := by decide +kernel
theorem dX12_hire_8 : decode cX12_hire 8 = .ok (.putfield 238, 3) := by decide +kernel
theorem dX12_hire_11 : decode cX12_hire 11 = .ok (.aload_n 0, 1) := by decide +kernel
theorem dX12_hire_12 : decode cX12_hire 12 = .ok (.getfield 238, 3) := by decide +kernel
theorem dX12_hire_15 : decode cX12_hire 15 = .ok (.ifCond .lt 33, 3) := by decide +kernel
theorem dX12_hire_18 : decode cX12_hire 18 = .ok (.aload_n 0, 1) := by decide +kernel
theorem dX12_hire_19 : decode cX12_hire 19 = .ok (.invokevirtual 306, 3) := by decide +kernel
theorem dX12_hire_22 : decode cX12_hire 22 = .ok (.aload_n 0, 1) := by decide +kernel
theorem dX12_hire_23 : decode cX12_hire 23 = .ok (.iload_n 1, 1) := by decide +kernel
theorem dX12_hire_24 : decode cX12_hire 24 = .ok (.invokevirtual 327, 3) := by decide +kernel
theorem dX12_hire_27 : decode cX12_hire 27 = .ok (.ifCond .ne 8, 3) := by decide +kernel
theorem dX12_hire_30 : decode cX12_hire 30 = .ok (.aload_n 0, 1) := by decide +kernel
theorem dX12_hire_31 : decode cX12_hire 31 = .ok (.getfield 238, 3) := by decide +kernel
theorem dX12_hire_34 : decode cX12_hire 34 = .ok (.ireturn, 1) := by decide +kernel
theorem dX12_hire_35 : decode cX12_hire 35 = .ok (.aload_n 0, 1) := by decide +kernel
theorem dX12_hire_36 : decode cX12_hire 36 = .ok (.dup, 1) := by decide +kernel
theorem dX12_hire_37 : decode cX12_hire 37 = .ok (.getfield 238, 3) := by decide +kernel
theorem dX12_hire_40 : decode cX12_hire 40 = .ok (.iconst 1, 1) := by decide +kernel
theorem dX12_hire_41 : decode cX12_hire 41 = .ok (.isub, 1) := by decide +kernel
theorem dX12_hire_42 : decode cX12_hire 42 = .ok (.putfield 238, 3) := by decide +kernel
theorem dX12_hire_45 : decode cX12_hire 45 = .ok (.goto (-34), 3) := by decide +kernel
theorem dX12_hire_48 : decode cX12_hire 48 = .ok (.iconst (-1), 1) := by decide +kernel
theorem dX12_hire_49 : decode cX12_hire 49 = .ok (.ireturn, 1) := by decide +kernel
def w_X12_hire_11 (o : Nat) (a1 : Int32) (post : Int32 → mI → Prop) (I : mI) : Prop := ∀ ZZ : (mI → Prop), (∀ (I : mI), (((I o 14) < 0 → post (-1) I) ∧ (¬ (I o 14) < 0 → w_X12_runs I o (fun I3 => w_X12_heardOf I3 o a1 (fun r4 => (¬ r4 = 0 → ∀ I5, I5 = up2 I3 o 14 ((I3 o 14) - 1) → ZZ I5) ∧ (r4 = 0 → post (I3 o 14) I3))))) → ZZ I) → ZZ I
set_option maxRecDepth 100000 in
set_option maxHeartbeats 4000000 in
theorem s_X12_hire_11 {p : Program} {l : Launch} {e : Env} {s : State} {m : MethodId} {args : Array Value} {below : List Frame} {meth : Method} {c : Code} {D : va_G} {cA : Nat → ClassId} {Z : mZ} {bs : Ad} {n : Nat} {K : mK} {R : mR} {L : mL} (E : Ev p s m args c cX12_hire 2 RX12 D cA Z bs) (hr : meth.sig.returnType = (some .int)) (hlk : meth.locks = false) {o : Nat} {a1 : Int32} (ho : isX12 K R o) {post : Int32 → mI → Prop} {I : mI} {H : Heap} {locs : List Loc} {ls : Array Slot} (hw : w_X12_hire_11 o a1 post I) (hM : mm D cA bs (n, K, R, I, L) H) (hS : va_S (Ab bs) s.heap H locs) (hl : lv_has ls 2 [(0, .ref (ad bs o)), (1, .int a1)]) : W p l e ({ frames := 7, cells := 0, slots := 0, locals := 159 } : Room) s m args below meth c H locs 0 0 (MQ below (QI D cA bs (fun r u => ∃ I', u = (n, K, R, I', L) ∧ post r I')) args s 0 0 (Ab bs)) (F0 m 11 ls []) := by
  have hx := E.1.1
  have hb := E.1.2.1
  refine hw (fun I => ∀ (H : Heap) (locs : List Loc) (ls : Array Slot), mm D cA bs (n, K, R, I, L) H → va_S (Ab bs) s.heap H locs → lv_has ls 2 [(0, .ref (ad bs o)), (1, .int a1)] → W p l e ({ frames := 7, cells := 0, slots := 0, locals := 159 } : Room) s m args below meth c H locs 0 0 (MQ below (QI D cA bs (fun r u => ∃ I', u = (n, K, R, I', L) ∧ post r I')) args s 0 0 (Ab bs)) (F0 m 11 ls [])) ?_ H locs ls hM hS hl
  clear hw hM hS hl
  intro I hw H locs ls hM hS hl
  refine lv_aload_n hx hb dX12_hire_11 rfl (lv_at hl 0 rfl) ?_
  refine m_geti E hM fs_X12_238 ho.1 dX12_hire_12 ?_
  refine lv_if_lt (tgt := 48) hx hb dX12_hire_15 (by decide) (fun cq => ?_) (fun cq => ?_)
  · have hw := hw.1 cq
    refine lv_iconst (v := (-1)) hx hb dX12_hire_48 (by decide) ?_
    exact m_reti hx hb hr hlk hM hS ⟨_, rfl, hw⟩ dX12_hire_49
  · have hw := hw.2 cq
    refine lv_aload_n hx hb dX12_hire_18 rfl (lv_at hl 0 rfl) ?_
    refine m_cv (m_runV E hM hS cs_X12_306 ho.1 (by decide) rfl rfl (c_X12_runs ho hw) rfl rfl ⟨Nat.le_of_ble_eq_true rfl, Nat.le_of_ble_eq_true rfl⟩ rfl hl.1 rfl (Nat.le_of_ble_eq_true rfl) dX12_hire_19 ⟨Nat.le_of_ble_eq_true rfl, Nat.le_of_ble_eq_true rfl⟩) hS (fun u H locs hp hM hS => ?_)
    obtain ⟨I3, rfl, hw⟩ := hp
    refine lv_aload_n hx hb dX12_hire_22 rfl (lv_at hl 0 rfl) ?_
    refine lv_iload_n hx hb dX12_hire_23 rfl (lv_at hl 1 rfl) ?_
    refine m_ci (m_runV E hM hS cs_X12_327 ho.1 (by decide) rfl rfl (c_X12_heardOf ho hw) rfl rfl ⟨Nat.le_of_ble_eq_true rfl, Nat.le_of_ble_eq_true rfl⟩ rfl hl.1 rfl (Nat.le_of_ble_eq_true rfl) dX12_hire_24 ⟨Nat.le_of_ble_eq_true rfl, Nat.le_of_ble_eq_true rfl⟩) hS (fun r4 u H locs hp hM hS => ?_)
    obtain ⟨rfl, hw⟩ := hp
    refine lv_if_ne (tgt := 35) hx hb dX12_hire_27 (by decide) (fun cq => ?_) (fun cq => ?_)
    · have hw := hw.1 cq
      refine lv_aload_n hx hb dX12_hire_35 rfl (lv_at hl 0 rfl) ?_
      refine lv_dup hx hb dX12_hire_36 rfl ?_
      refine m_geti E hM fs_X12_238 ho.1 dX12_hire_37 ?_
      refine lv_iconst (v := 1) hx hb dX12_hire_40 (by decide) ?_
      refine lv_isub hx hb dX12_hire_41 ?_
      refine m_puti E hM hS fp_X12_238 ho.1 rfl rfl dX12_hire_42 (fun I5 H locs eI5 hM hS => ?_)
      have hw := hw I5 eI5
      refine lv_goto (tgt := 11) hx hb dX12_hire_45 (by decide) ?_
      exact hw H locs ls  hM hS (lv_sub hl [0, 1] rfl)
    · have hw := hw.2 cq
      refine lv_aload_n hx hb dX12_hire_30 rfl (lv_at hl 0 rfl) ?_
      refine m_geti E hM fs_X12_238 ho.1 dX12_hire_31 ?_
      exact m_reti hx hb hr hlk hM hS ⟨_, rfl, hw⟩ dX12_hire_34
def w_X12_hire (I : mI) (o : Nat) (a1 : Int32) (post : Int32 → mI → Prop) : Prop := ∀ I1, I1 = up2 I o 13 a1 → ∀ I2, I2 = up2 I1 o 14 9 → (w_X12_hire_11 o a1 post) I2
set_option maxRecDepth 100000 in
set_option maxHeartbeats 4000000 in
theorem c_X12_hire {l : Launch} {D : va_G} {cA : Nat → ClassId} {Z : mZ} {bs : Ad} {n : Nat} {K : mK} {R : mR} {I : mI} {L : mL} {o : Nat} {a1 : Int32} {post : Int32 → mI → Prop} (ho : isX12 K R o) (hw : w_X12_hire I o a1 post) : Met l yX12_hire (.code yX12_hire cX12_hire 2 (some .int) :: gw) ({ frames := 7, cells := 0, slots := 0, locals := 159 } : Room) (PreM D cA Z bs (n, K, R, I, L) [.ref (ad bs o), .int a1]) (QI D cA bs (fun r u => ∃ I', u = (n, K, R, I', L) ∧ post r I')) 0 0 (Ab bs) := by
  refine m_met (by decide) (Nat.le_of_ble_eq_true rfl) (fun p e s m below meth c ls E hr hlk hM hS hl => ?_)
  have E : Ev p s m _ c cX12_hire 2 RX12 D cA Z bs := E
  have hl : lv_has ls 2 [(0, .ref (ad bs o)), (1, .int a1)] := hl
  have hx := E.1.1
  have hb := E.1.2.1
  generalize hHe : s.heap = H at hM ⊢
  have hS : va_S (Ab bs) s.heap H [] := by rw [← hHe]; exact va_S.rf
  clear hHe
  refine lv_aload_n hx hb dX12_hire_0 rfl (lv_at hl 0 rfl) ?_
  refine lv_iload_n hx hb dX12_hire_1 rfl (lv_at hl 1 rfl) ?_
  refine m_puti E hM hS fp_X12_220 ho.1 rfl rfl dX12_hire_2 (fun I1 H locs eI1 hM hS => ?_)
  have hw := hw I1 eI1
  refine lv_aload_n hx hb dX12_hire_5 rfl (lv_at hl 0 rfl) ?_
  refine lv_bipush (v := 9) hx hb dX12_hire_6 (by decide) ?_
  refine m_puti E hM hS fp_X12_238 ho.1 rfl rfl dX12_hire_8 (fun I2 H locs eI2 hM hS => ?_)
  have hw := hw I2 eI2
  exact s_X12_hire_11 E hr hlk ho  hw hM hS (lv_sub hl [0, 1] rfl)
theorem dX12_late_0 : decode cX12_late 0 = .ok (.aload_n 0, 1) := by decide +kernel
theorem dX12_late_1 : decode cX12_late 1 = .ok (.iload_n 1, 1) := by decide +kernel
theorem dX12_late_2 : decode cX12_late 2 = .ok (.iconst 3, 1) := by decide +kernel
theorem dX12_late_3 : decode cX12_late 3 = .ok (.invokevirtual 241, 3) := by decide +kernel
theorem dX12_late_6 : decode cX12_late 6 = .ok (.iconst (-1), 1) := by decide +kernel
theorem dX12_late_7 : decode cX12_late 7 = .ok (.if_icmp .ne 5, 3) := by decide +kernel
theorem dX12_late_10 : decode cX12_late 10 = .ok (.iconst (-1), 1) := by decide +kernel
theorem dX12_late_11 : decode cX12_late 11 = .ok (.ireturn, 1) := by decide +kernel
theorem dX12_late_12 : decode cX12_late 12 = .ok (.iconst (-1), 1) := by decide +kernel
theorem dX12_late_13 : decode cX12_late 13 = .ok (.istore_n 2, 1) := by decide +kernel
theorem dX12_late_14 : decode cX12_late 14 = .ok (.iconst 0, 1) := by decide +kernel
theorem dX12_late_15 : decode cX12_late 15 = .ok (.istore_n 3, 1) := by decide +kernel
theorem dX12_late_16 : decode cX12_late 16 = .ok (.aload_n 0, 1) := by decide +kernel
theorem dX12_late_17 : decode cX12_late 17 = .ok (.iload_n 1, 1) := by decide +kernel
theorem dX12_late_18 : decode cX12_late 18 = .ok (.putfield 223, 3) := by decide +kernel
theorem dX12_late_21 : decode cX12_late 21 = .ok (.aload_n 0, 1) := by decide +kernel
theorem dX12_late_22 : decode cX12_late 22 = .ok (.iconst 0, 1) := by decide +kernel
theorem dX12_late_23 : decode cX12_late 23 = .ok (.putfield 259, 3) := by decide +kernel
theorem dX12_late_26 : decode cX12_late 26 = .ok (.aload_n 0, 1) := by decide +kernel
theorem dX12_late_27 : decode cX12_late 27 = .ok (.getfield 259, 3) := by decide +kernel
theorem dX12_late_30 : decode cX12_late 30 = .ok (.bipush 60, 2) := by decide +kernel
theorem dX12_late_32 : decode cX12_late 32 = .ok (.if_icmp .gt 100, 3) := by decide +kernel
theorem dX12_late_35 : decode cX12_late 35 = .ok (.aload_n 0, 1) := by decide +kernel
theorem dX12_late_36 : decode cX12_late 36 = .ok (.invokevirtual 306, 3) := by decide +kernel
theorem dX12_late_39 : decode cX12_late 39 = .ok (.iconst 0, 1) := by decide +kernel
theorem dX12_late_40 : decode cX12_late 40 = .ok (.istore 4, 2) := by decide +kernel
theorem dX12_late_42 : decode cX12_late 42 = .ok (.iconst 0, 1) := by decide +kernel
theorem dX12_late_43 : decode cX12_late 43 = .ok (.istore 5, 2) := by decide +kernel
theorem dX12_late_45 : decode cX12_late 45 = .ok (.iload 5, 2) := by decide +kernel
theorem dX12_late_47 : decode cX12_late 47 = .ok (.aload_n 0, 1) := by decide +kernel
theorem dX12_late_48 : decode cX12_late 48 = .ok (.getfield 262, 3) := by decide +kernel
theorem dX12_late_51 : decode cX12_late 51 = .ok (.if_icmp .ge 47, 3) := by decide +kernel
theorem dX12_late_54 : decode cX12_late 54 = .ok (.iload 4, 2) := by decide +kernel
theorem dX12_late_56 : decode cX12_late 56 = .ok (.aload_n 0, 1) := by decide +kernel
theorem dX12_late_57 : decode cX12_late 57 = .ok (.getfield 20, 3) := by decide +kernel
theorem dX12_late_60 : decode cX12_late 60 = .ok (.iload 5, 2) := by decide +kernel
theorem dX12_late_62 : decode cX12_late 62 = .ok (.iaload, 1) := by decide +kernel
theorem dX12_late_63 : decode cX12_late 63 = .ok (.iload_n 1, 1) := by decide +kernel
theorem dX12_late_64 : decode cX12_late 64 = .ok (.if_icmp .ne 24, 3) := by decide +kernel
theorem dX12_late_67 : decode cX12_late 67 = .ok (.aload_n 0, 1) := by decide +kernel
theorem dX12_late_68 : decode cX12_late 68 = .ok (.getfield 38, 3) := by decide +kernel
theorem dX12_late_71 : decode cX12_late 71 = .ok (.iload 5, 2) := by decide +kernel
theorem dX12_late_73 : decode cX12_late 73 = .ok (.iaload, 1) := by decide +kernel
theorem dX12_late_74 : decode cX12_late 74 = .ok (.aload_n 0, 1) := by decide +kernel
theorem dX12_late_75 : decode cX12_late 75 = .ok (.getfield 41, 3) := by decide +kernel
theorem dX12_late_78 : decode cX12_late 78 = .ok (.iload 5, 2) := by decide +kernel
theorem dX12_late_80 : decode cX12_late 80 = .ok (.iaload, 1) := by decide +kernel
theorem dX12_late_81 : decode cX12_late 81 = .ok (.ior, 1) := by decide +kernel
theorem dX12_late_82 : decode cX12_late 82 = .ok (.invokestatic 415, 3) := by decide +kernel
theorem dX12_late_85 : decode cX12_late 85 = .ok (.goto 4, 3) := by decide +kernel
theorem dX12_late_88 : decode cX12_late 88 = .ok (.iconst 0, 1) := by decide +kernel
theorem dX12_late_89 : decode cX12_late 89 = .ok (.iadd, 1) := by decide +kernel
theorem dX12_late_90 : decode cX12_late 90 = .ok (.istore 4, 2) := by decide +kernel
theorem dX12_late_92 : decode cX12_late 92 = .ok (.iinc 5 1, 3) := by decide +kernel
theorem dX12_late_95 : decode cX12_late 95 = .ok (.goto (-50), 3) := by decide +kernel
theorem dX12_late_98 : decode cX12_late 98 = .ok (.iload_n 2, 1) := by decide +kernel
theorem dX12_late_99 : decode cX12_late 99 = .ok (.ifCond .lt 12, 3) := by decide +kernel
theorem dX12_late_102 : decode cX12_late 102 = .ok (.iload 4, 2) := by decide +kernel
theorem dX12_late_104 : decode cX12_late 104 = .ok (.iload_n 3, 1) := by decide +kernel
theorem dX12_late_105 : decode cX12_late 105 = .ok (.if_icmp .lt 6, 3) := by decide +kernel
theorem dX12_late_108 : decode cX12_late 108 = .ok (.goto 11, 3) := by decide +kernel
theorem dX12_late_111 : decode cX12_late 111 = .ok (.aload_n 0, 1) := by decide +kernel
theorem dX12_late_112 : decode cX12_late 112 = .ok (.getfield 259, 3) := by decide +kernel
theorem dX12_late_115 : decode cX12_late 115 = .ok (.istore_n 2, 1) := by decide +kernel
theorem dX12_late_116 : decode cX12_late 116 = .ok (.iload 4, 2) := by decide +kernel
theorem dX12_late_118 : decode cX12_late 118 = .ok (.istore_n 3, 1) := by decide +kernel
theorem dX12_late_119 : decode cX12_late 119 = .ok (.aload_n 0, 1) := by decide +kernel
theorem dX12_late_120 : decode cX12_late 120 = .ok (.dup, 1) := by decide +kernel
theorem dX12_late_121 : decode cX12_late 121 = .ok (.getfield 259, 3) := by decide +kernel
theorem dX12_late_124 : decode cX12_late 124 = .ok (.iconst 1, 1) := by decide +kernel
theorem dX12_late_125 : decode cX12_late 125 = .ok (.iadd, 1) := by decide +kernel
theorem dX12_late_126 : decode cX12_late 126 = .ok (.putfield 259, 3) := by decide +kernel
theorem dX12_late_129 : decode cX12_late 129 = .ok (.goto (-103), 3) := by decide +kernel
theorem dX12_late_132 : decode cX12_late 132 = .ok (.iload_n 2, 1) := by decide +kernel
theorem dX12_late_133 : decode cX12_late 133 = .ok (.ireturn, 1) := by decide +kernel
def w_X12_late_45 (o : Nat) (a1 : Int32) (post : Int32 → mI → Prop) (k98 : mI → Int32 → Int32 → Int32 → Prop) (I : mI) (v2 : Int32) (v3 : Int32) (v4 : Int32) (v5 : Int32) : Prop := ∀ ZZ : (mI → Int32 → Int32 → Int32 → Int32 → Prop), (∀ (I : mI) (v2 : Int32) (v3 : Int32) (v4 : Int32) (v5 : Int32), (((I o 25) ≤ v5 → k98 I v2 v3 v4) ∧ (¬ (I o 25) ≤ v5 → vp_in v5 640 ∧ (¬ (I (o + 4) v5.toNatClampNeg) = a1 → ∀ x5, x5 = (v4 + 0) → ∀ x6, x6 = v5 + 1 → ZZ I v2 v3 x5 x6) ∧ ((I (o + 4) v5.toNatClampNeg) = a1 → vp_in v5 640 ∧ vp_in v5 640 ∧ w_X12_bits ((I (o + 10) v5.toNatClampNeg) ||| (I (o + 11) v5.toNatClampNeg)) (fun r7 => ∀ x8, x8 = (v4 + r7) → ∀ x9, x9 = v5 + 1 → ZZ I v2 v3 x8 x9)))) → ZZ I v2 v3 v4 v5) → ZZ I v2 v3 v4 v5
set_option maxRecDepth 100000 in
set_option maxHeartbeats 4000000 in
theorem s_X12_late_45 {p : Program} {l : Launch} {e : Env} {s : State} {m : MethodId} {args : Array Value} {below : List Frame} {meth : Method} {c : Code} {D : va_G} {cA : Nat → ClassId} {Z : mZ} {bs : Ad} {n : Nat} {K : mK} {R : mR} {L : mL} (E : Ev p s m args c cX12_late 6 RX12 D cA Z bs) (hr : meth.sig.returnType = (some .int)) (hlk : meth.locks = false) {o : Nat} {a1 : Int32} (ho : isX12 K R o) {post : Int32 → mI → Prop} {k98 : mI → Int32 → Int32 → Int32 → Prop} (hk98 : ∀ (I : mI) (v2 : Int32) (v3 : Int32) (v4 : Int32) (H : Heap) (locs : List Loc) (ls : Array Slot), k98 I v2 v3 v4 → mm D cA bs (n, K, R, I, L) H → va_S (Ab bs) s.heap H locs → lv_has ls 6 [(0, .ref (ad bs o)), (1, .int a1), (2, .int v2), (3, .int v3), (4, .int v4)] → W p l e ({ frames := 7, cells := 0, slots := 0, locals := 159 } : Room) s m args below meth c H locs 0 0 (MQ below (QI D cA bs (fun r u => ∃ I', u = (n, K, R, I', L) ∧ post r I')) args s 0 0 (Ab bs)) (F0 m 98 ls [])) {I : mI} {v2 : Int32} {v3 : Int32} {v4 : Int32} {v5 : Int32} {H : Heap} {locs : List Loc} {ls : Array Slot} (hw : w_X12_late_45 o a1 post k98 I v2 v3 v4 v5) (hM : mm D cA bs (n, K, R, I, L) H) (hS : va_S (Ab bs) s.heap H locs) (hl : lv_has ls 6 [(0, .ref (ad bs o)), (1, .int a1), (2, .int v2), (3, .int v3), (4, .int v4), (5, .int v5)]) : W p l e ({ frames := 7, cells := 0, slots := 0, locals := 159 } : Room) s m args below meth c H locs 0 0 (MQ below (QI D cA bs (fun r u => ∃ I', u = (n, K, R, I', L) ∧ post r I')) args s 0 0 (Ab bs)) (F0 m 45 ls []) := by
  have hx := E.1.1
  have hb := E.1.2.1
  refine hw (fun I v2 v3 v4 v5 => ∀ (H : Heap) (locs : List Loc) (ls : Array Slot), mm D cA bs (n, K, R, I, L) H → va_S (Ab bs) s.heap H locs → lv_has ls 6 [(0, .ref (ad bs o)), (1, .int a1), (2, .int v2), (3, .int v3), (4, .int v4), (5, .int v5)] → W p l e ({ frames := 7, cells := 0, slots := 0, locals := 159 } : Room) s m args below meth c H locs 0 0 (MQ below (QI D cA bs (fun r u => ∃ I', u = (n, K, R, I', L) ∧ post r I')) args s 0 0 (Ab bs)) (F0 m 45 ls [])) ?_ H locs ls hM hS hl
  clear hw hM hS hl
  intro I v2 v3 v4 v5 hw H locs ls hM hS hl
  refine lv_iload hx hb dX12_late_45 (lv_at hl 5 rfl) ?_
  refine lv_aload_n hx hb dX12_late_47 rfl (lv_at hl 0 rfl) ?_
  refine m_geti E hM fs_X12_262 ho.1 dX12_late_48 ?_
  refine lv_icmp_ge (tgt := 98) hx hb dX12_late_51 (by decide) (fun cq => ?_) (fun cq => ?_)
  · have hw := hw.1 cq
    exact hk98 _ _ _ _ H locs ls  hw hM hS (lv_sub hl [0, 1, 2, 3, 4] rfl)
  · have hw := hw.2 cq
    refine lv_iload hx hb dX12_late_54 (lv_at hl 4 rfl) ?_
    refine lv_aload_n hx hb dX12_late_56 rfl (lv_at hl 0 rfl) ?_
    refine m_getr E hM fs_X12_20 ho.1 (isO_at ho 3 rfl).1 dX12_late_57 ?_
    refine lv_iload hx hb dX12_late_60 (lv_at hl 5 rfl) ?_
    obtain ⟨hv, hw⟩ := hw
    refine m_iald E hM (isO_at ho 3 rfl).2 hv dX12_late_62 ?_
    refine lv_iload_n hx hb dX12_late_63 rfl (lv_at hl 1 rfl) ?_
    refine lv_icmp_ne (tgt := 88) hx hb dX12_late_64 (by decide) (fun cq => ?_) (fun cq => ?_)
    · have hw := hw.1 cq
      refine lv_iconst (v := 0) hx hb dX12_late_88 (by decide) ?_
      refine lv_iadd hx hb dX12_late_89 ?_
      refine lv_topi (fun x5 ex5 => ?_)
      have hw := hw x5 ex5
      refine lv_istore (lv' := [(4, .int x5), (0, .ref (ad bs o)), (1, .int a1), (2, .int v2), (3, .int v3), (5, .int v5)]) hx hb dX12_late_90 hl (by decide) rfl (fun ls hl => ?_)
      obtain ⟨x6, ex6⟩ : ∃ y : Int32, y = v5 + 1 := ⟨_, rfl⟩
      have hw := hw x6 ex6
      refine lv_iinc (v := x6) (lv' := [(5, .int x6), (4, .int x5), (0, .ref (ad bs o)), (1, .int a1), (2, .int v2), (3, .int v3)]) hx hb dX12_late_92 hl (k := 5) rfl (by rw [ex6]; rfl) (by decide) rfl (fun ls hl => ?_)
      refine lv_goto (tgt := 45) hx hb dX12_late_95 (by decide) ?_
      exact hw H locs ls  hM hS (lv_sub hl [2, 3, 4, 5, 1, 0] rfl)
    · have hw := hw.2 cq
      refine lv_aload_n hx hb dX12_late_67 rfl (lv_at hl 0 rfl) ?_
      refine m_getr E hM fs_X12_38 ho.1 (isO_at ho 9 rfl).1 dX12_late_68 ?_
      refine lv_iload hx hb dX12_late_71 (lv_at hl 5 rfl) ?_
      obtain ⟨hv, hw⟩ := hw
      refine m_iald E hM (isO_at ho 9 rfl).2 hv dX12_late_73 ?_
      refine lv_aload_n hx hb dX12_late_74 rfl (lv_at hl 0 rfl) ?_
      refine m_getr E hM fs_X12_41 ho.1 (isO_at ho 10 rfl).1 dX12_late_75 ?_
      refine lv_iload hx hb dX12_late_78 (lv_at hl 5 rfl) ?_
      obtain ⟨hv, hw⟩ := hw
      refine m_iald E hM (isO_at ho 10 rfl).2 hv dX12_late_80 ?_
      refine lv_ior hx hb dX12_late_81 ?_
      refine m_ci (m_runS E hM hS cs_X12_415 (c_X12_bits  hw) rfl rfl ⟨Nat.le_of_ble_eq_true rfl, Nat.le_of_ble_eq_true rfl⟩ rfl hl.1 rfl (Nat.le_of_ble_eq_true rfl) dX12_late_82 ⟨Nat.le_of_ble_eq_true rfl, Nat.le_of_ble_eq_true rfl⟩) hS (fun r7 u H locs hp hM hS => ?_)
      obtain ⟨rfl, hw⟩ := hp
      refine lv_goto (tgt := 89) hx hb dX12_late_85 (by decide) ?_
      refine lv_iadd hx hb dX12_late_89 ?_
      refine lv_topi (fun x8 ex8 => ?_)
      have hw := hw x8 ex8
      refine lv_istore (lv' := [(4, .int x8), (0, .ref (ad bs o)), (1, .int a1), (2, .int v2), (3, .int v3), (5, .int v5)]) hx hb dX12_late_90 hl (by decide) rfl (fun ls hl => ?_)
      obtain ⟨x9, ex9⟩ : ∃ y : Int32, y = v5 + 1 := ⟨_, rfl⟩
      have hw := hw x9 ex9
      refine lv_iinc (v := x9) (lv' := [(5, .int x9), (4, .int x8), (0, .ref (ad bs o)), (1, .int a1), (2, .int v2), (3, .int v3)]) hx hb dX12_late_92 hl (k := 5) rfl (by rw [ex9]; rfl) (by decide) rfl (fun ls hl => ?_)
      refine lv_goto (tgt := 45) hx hb dX12_late_95 (by decide) ?_
      exact hw H locs ls  hM hS (lv_sub hl [2, 3, 4, 5, 1, 0] rfl)
def w_X12_late_119 (o : Nat) (a1 : Int32) (post : Int32 → mI → Prop) (k26 : mI → Int32 → Int32 → Prop) (I : mI) (v2 : Int32) (v3 : Int32) : Prop := ∀ I10, I10 = up2 I o 16 ((I o 16) + 1) → k26 I10 v2 v3
set_option maxRecDepth 100000 in
set_option maxHeartbeats 4000000 in
theorem s_X12_late_119 {p : Program} {l : Launch} {e : Env} {s : State} {m : MethodId} {args : Array Value} {below : List Frame} {meth : Method} {c : Code} {D : va_G} {cA : Nat → ClassId} {Z : mZ} {bs : Ad} {n : Nat} {K : mK} {R : mR} {L : mL} (E : Ev p s m args c cX12_late 6 RX12 D cA Z bs) (hr : meth.sig.returnType = (some .int)) (hlk : meth.locks = false) {o : Nat} {a1 : Int32} (ho : isX12 K R o) {post : Int32 → mI → Prop} {k26 : mI → Int32 → Int32 → Prop} (hk26 : ∀ (I : mI) (v2 : Int32) (v3 : Int32) (H : Heap) (locs : List Loc) (ls : Array Slot), k26 I v2 v3 → mm D cA bs (n, K, R, I, L) H → va_S (Ab bs) s.heap H locs → lv_has ls 6 [(0, .ref (ad bs o)), (1, .int a1), (2, .int v2), (3, .int v3)] → W p l e ({ frames := 7, cells := 0, slots := 0, locals := 159 } : Room) s m args below meth c H locs 0 0 (MQ below (QI D cA bs (fun r u => ∃ I', u = (n, K, R, I', L) ∧ post r I')) args s 0 0 (Ab bs)) (F0 m 26 ls [])) {I : mI} {v2 : Int32} {v3 : Int32} {H : Heap} {locs : List Loc} {ls : Array Slot} (hw : w_X12_late_119 o a1 post k26 I v2 v3) (hM : mm D cA bs (n, K, R, I, L) H) (hS : va_S (Ab bs) s.heap H locs) (hl : lv_has ls 6 [(0, .ref (ad bs o)), (1, .int a1), (2, .int v2), (3, .int v3)]) : W p l e ({ frames := 7, cells := 0, slots := 0, locals := 159 } : Room) s m args below meth c H locs 0 0 (MQ below (QI D cA bs (fun r u => ∃ I', u = (n, K, R, I', L) ∧ post r I')) args s 0 0 (Ab bs)) (F0 m 119 ls []) := by
  have hx := E.1.1
  have hb := E.1.2.1
  refine lv_aload_n hx hb dX12_late_119 rfl (lv_at hl 0 rfl) ?_
  refine lv_dup hx hb dX12_late_120 rfl ?_
  refine m_geti E hM fs_X12_259 ho.1 dX12_late_121 ?_
  refine lv_iconst (v := 1) hx hb dX12_late_124 (by decide) ?_
  refine lv_iadd hx hb dX12_late_125 ?_
  refine m_puti E hM hS fp_X12_259 ho.1 rfl rfl dX12_late_126 (fun I10 H locs eI10 hM hS => ?_)
  have hw := hw I10 eI10
  refine lv_goto (tgt := 26) hx hb dX12_late_129 (by decide) ?_
  exact hk26 _ _ _ H locs ls  hw hM hS (lv_sub hl [0, 1, 2, 3] rfl)
def w_X12_late_111 (o : Nat) (a1 : Int32) (post : Int32 → mI → Prop) (k26 : mI → Int32 → Int32 → Prop) (I : mI) (v4 : Int32) : Prop := ∀ x11, x11 = (I o 16) → (w_X12_late_119 o a1 post k26) I x11 v4
set_option maxRecDepth 100000 in
set_option maxHeartbeats 4000000 in
theorem s_X12_late_111 {p : Program} {l : Launch} {e : Env} {s : State} {m : MethodId} {args : Array Value} {below : List Frame} {meth : Method} {c : Code} {D : va_G} {cA : Nat → ClassId} {Z : mZ} {bs : Ad} {n : Nat} {K : mK} {R : mR} {L : mL} (E : Ev p s m args c cX12_late 6 RX12 D cA Z bs) (hr : meth.sig.returnType = (some .int)) (hlk : meth.locks = false) {o : Nat} {a1 : Int32} (ho : isX12 K R o) {post : Int32 → mI → Prop} {k26 : mI → Int32 → Int32 → Prop} (hk26 : ∀ (I : mI) (v2 : Int32) (v3 : Int32) (H : Heap) (locs : List Loc) (ls : Array Slot), k26 I v2 v3 → mm D cA bs (n, K, R, I, L) H → va_S (Ab bs) s.heap H locs → lv_has ls 6 [(0, .ref (ad bs o)), (1, .int a1), (2, .int v2), (3, .int v3)] → W p l e ({ frames := 7, cells := 0, slots := 0, locals := 159 } : Room) s m args below meth c H locs 0 0 (MQ below (QI D cA bs (fun r u => ∃ I', u = (n, K, R, I', L) ∧ post r I')) args s 0 0 (Ab bs)) (F0 m 26 ls [])) {I : mI} {v4 : Int32} {H : Heap} {locs : List Loc} {ls : Array Slot} (hw : w_X12_late_111 o a1 post k26 I v4) (hM : mm D cA bs (n, K, R, I, L) H) (hS : va_S (Ab bs) s.heap H locs) (hl : lv_has ls 6 [(0, .ref (ad bs o)), (1, .int a1), (4, .int v4)]) : W p l e ({ frames := 7, cells := 0, slots := 0, locals := 159 } : Room) s m args below meth c H locs 0 0 (MQ below (QI D cA bs (fun r u => ∃ I', u = (n, K, R, I', L) ∧ post r I')) args s 0 0 (Ab bs)) (F0 m 111 ls []) := by
  have hx := E.1.1
  have hb := E.1.2.1
  refine lv_aload_n hx hb dX12_late_111 rfl (lv_at hl 0 rfl) ?_
  refine m_geti E hM fs_X12_259 ho.1 dX12_late_112 ?_
  refine lv_topi (fun x11 ex11 => ?_)
  have hw := hw x11 ex11
  refine lv_istore_n (lv' := [(2, .int x11), (0, .ref (ad bs o)), (1, .int a1), (4, .int v4)]) hx hb dX12_late_115 rfl hl (by decide) rfl (fun ls hl => ?_)
  refine lv_iload hx hb dX12_late_116 (lv_at hl 3 rfl) ?_
  refine lv_istore_n (lv' := [(3, .int v4), (2, .int x11), (0, .ref (ad bs o)), (1, .int a1), (4, .int v4)]) hx hb dX12_late_118 rfl hl (by decide) rfl (fun ls hl => ?_)
  exact s_X12_late_119 E hr hlk ho hk26  hw hM hS (lv_sub hl [2, 3, 1, 0] rfl)
def w_X12_late_98 (o : Nat) (a1 : Int32) (post : Int32 → mI → Prop) (k26 : mI → Int32 → Int32 → Prop) (I : mI) (v2 : Int32) (v3 : Int32) (v4 : Int32) : Prop := (v2 < 0 → (w_X12_late_111 o a1 post k26) I v4) ∧ (¬ v2 < 0 → (v4 < v3 → (w_X12_late_111 o a1 post k26) I v4) ∧ (¬ v4 < v3 → (w_X12_late_119 o a1 post k26) I v2 v3))
set_option maxRecDepth 100000 in
set_option maxHeartbeats 4000000 in
theorem s_X12_late_98 {p : Program} {l : Launch} {e : Env} {s : State} {m : MethodId} {args : Array Value} {below : List Frame} {meth : Method} {c : Code} {D : va_G} {cA : Nat → ClassId} {Z : mZ} {bs : Ad} {n : Nat} {K : mK} {R : mR} {L : mL} (E : Ev p s m args c cX12_late 6 RX12 D cA Z bs) (hr : meth.sig.returnType = (some .int)) (hlk : meth.locks = false) {o : Nat} {a1 : Int32} (ho : isX12 K R o) {post : Int32 → mI → Prop} {k26 : mI → Int32 → Int32 → Prop} (hk26 : ∀ (I : mI) (v2 : Int32) (v3 : Int32) (H : Heap) (locs : List Loc) (ls : Array Slot), k26 I v2 v3 → mm D cA bs (n, K, R, I, L) H → va_S (Ab bs) s.heap H locs → lv_has ls 6 [(0, .ref (ad bs o)), (1, .int a1), (2, .int v2), (3, .int v3)] → W p l e ({ frames := 7, cells := 0, slots := 0, locals := 159 } : Room) s m args below meth c H locs 0 0 (MQ below (QI D cA bs (fun r u => ∃ I', u = (n, K, R, I', L) ∧ post r I')) args s 0 0 (Ab bs)) (F0 m 26 ls [])) {I : mI} {v2 : Int32} {v3 : Int32} {v4 : Int32} {H : Heap} {locs : List Loc} {ls : Array Slot} (hw : w_X12_late_98 o a1 post k26 I v2 v3 v4) (hM : mm D cA bs (n, K, R, I, L) H) (hS : va_S (Ab bs) s.heap H locs) (hl : lv_has ls 6 [(0, .ref (ad bs o)), (1, .int a1), (2, .int v2), (3, .int v3), (4, .int v4)]) : W p l e ({ frames := 7, cells := 0, slots := 0, locals := 159 } : Room) s m args below meth c H locs 0 0 (MQ below (QI D cA bs (fun r u => ∃ I', u = (n, K, R, I', L) ∧ post r I')) args s 0 0 (Ab bs)) (F0 m 98 ls []) := by
  have hx := E.1.1
  have hb := E.1.2.1
  refine lv_iload_n hx hb dX12_late_98 rfl (lv_at hl 2 rfl) ?_
  refine lv_if_lt (tgt := 111) hx hb dX12_late_99 (by decide) (fun cq => ?_) (fun cq => ?_)
  · have hw := hw.1 cq
    exact s_X12_late_111 E hr hlk ho hk26  hw hM hS (lv_sub hl [0, 1, 4] rfl)
  · have hw := hw.2 cq
    refine lv_iload hx hb dX12_late_102 (lv_at hl 4 rfl) ?_
    refine lv_iload_n hx hb dX12_late_104 rfl (lv_at hl 3 rfl) ?_
    refine lv_icmp_lt (tgt := 111) hx hb dX12_late_105 (by decide) (fun cq => ?_) (fun cq => ?_)
    · have hw := hw.1 cq
      exact s_X12_late_111 E hr hlk ho hk26  hw hM hS (lv_sub hl [0, 1, 4] rfl)
    · have hw := hw.2 cq
      refine lv_goto (tgt := 119) hx hb dX12_late_108 (by decide) ?_
      exact s_X12_late_119 E hr hlk ho hk26  hw hM hS (lv_sub hl [0, 1, 2, 3] rfl)
def w_X12_late_26 (o : Nat) (a1 : Int32) (post : Int32 → mI → Prop) (I : mI) (v2 : Int32) (v3 : Int32) : Prop := ∀ ZZ : (mI → Int32 → Int32 → Prop), (∀ (I : mI) (v2 : Int32) (v3 : Int32), ((60 < (I o 16) → post v2 I) ∧ (¬ 60 < (I o 16) → w_X12_runs I o (fun I4 => (w_X12_late_45 o a1 post (w_X12_late_98 o a1 post ZZ)) I4 v2 v3 0 0))) → ZZ I v2 v3) → ZZ I v2 v3
set_option maxRecDepth 100000 in
set_option maxHeartbeats 4000000 in
theorem s_X12_late_26 {p : Program} {l : Launch} {e : Env} {s : State} {m : MethodId} {args : Array Value} {below : List Frame} {meth : Method} {c : Code} {D : va_G} {cA : Nat → ClassId} {Z : mZ} {bs : Ad} {n : Nat} {K : mK} {R : mR} {L : mL} (E : Ev p s m args c cX12_late 6 RX12 D cA Z bs) (hr : meth.sig.returnType = (some .int)) (hlk : meth.locks = false) {o : Nat} {a1 : Int32} (ho : isX12 K R o) {post : Int32 → mI → Prop} {I : mI} {v2 : Int32} {v3 : Int32} {H : Heap} {locs : List Loc} {ls : Array Slot} (hw : w_X12_late_26 o a1 post I v2 v3) (hM : mm D cA bs (n, K, R, I, L) H) (hS : va_S (Ab bs) s.heap H locs) (hl : lv_has ls 6 [(0, .ref (ad bs o)), (1, .int a1), (2, .int v2), (3, .int v3)]) : W p l e ({ frames := 7, cells := 0, slots := 0, locals := 159 } : Room) s m args below meth c H locs 0 0 (MQ below (QI D cA bs (fun r u => ∃ I', u = (n, K, R, I', L) ∧ post r I')) args s 0 0 (Ab bs)) (F0 m 26 ls []) := by
  have hx := E.1.1
  have hb := E.1.2.1
  refine hw (fun I v2 v3 => ∀ (H : Heap) (locs : List Loc) (ls : Array Slot), mm D cA bs (n, K, R, I, L) H → va_S (Ab bs) s.heap H locs → lv_has ls 6 [(0, .ref (ad bs o)), (1, .int a1), (2, .int v2), (3, .int v3)] → W p l e ({ frames := 7, cells := 0, slots := 0, locals := 159 } : Room) s m args below meth c H locs 0 0 (MQ below (QI D cA bs (fun r u => ∃ I', u = (n, K, R, I', L) ∧ post r I')) args s 0 0 (Ab bs)) (F0 m 26 ls [])) ?_ H locs ls hM hS hl
  clear hw hM hS hl
  intro I v2 v3 hw H locs ls hM hS hl
  refine lv_aload_n hx hb dX12_late_26 rfl (lv_at hl 0 rfl) ?_
  refine m_geti E hM fs_X12_259 ho.1 dX12_late_27 ?_
  refine lv_bipush (v := 60) hx hb dX12_late_30 (by decide) ?_
  refine lv_icmp_gt (tgt := 132) hx hb dX12_late_32 (by decide) (fun cq => ?_) (fun cq => ?_)
  · have hw := hw.1 cq
    refine lv_iload_n hx hb dX12_late_132 rfl (lv_at hl 2 rfl) ?_
    exact m_reti hx hb hr hlk hM hS ⟨_, rfl, hw⟩ dX12_late_133
  · have hw := hw.2 cq
    refine lv_aload_n hx hb dX12_late_35 rfl (lv_at hl 0 rfl) ?_
    refine m_cv (m_runV E hM hS cs_X12_306 ho.1 (by decide) rfl rfl (c_X12_runs ho hw) rfl rfl ⟨Nat.le_of_ble_eq_true rfl, Nat.le_of_ble_eq_true rfl⟩ rfl hl.1 rfl (Nat.le_of_ble_eq_true rfl) dX12_late_36 ⟨Nat.le_of_ble_eq_true rfl, Nat.le_of_ble_eq_true rfl⟩) hS (fun u H locs hp hM hS => ?_)
    obtain ⟨I4, rfl, hw⟩ := hp
    refine lv_iconst (v := 0) hx hb dX12_late_39 (by decide) ?_
    refine lv_istore (lv' := [(4, .int 0), (0, .ref (ad bs o)), (1, .int a1), (2, .int v2), (3, .int v3)]) hx hb dX12_late_40 hl (by decide) rfl (fun ls hl => ?_)
    refine lv_iconst (v := 0) hx hb dX12_late_42 (by decide) ?_
    refine lv_istore (lv' := [(5, .int 0), (4, .int 0), (0, .ref (ad bs o)), (1, .int a1), (2, .int v2), (3, .int v3)]) hx hb dX12_late_43 hl (by decide) rfl (fun ls hl => ?_)
    exact s_X12_late_45 E hr hlk ho (fun I v2 v3 v4 H locs ls  hw hM hS hl => s_X12_late_98 E hr hlk ho (fun I v2 v3 H locs ls  hw hM hS hl => hw H locs ls  hM hS hl)  hw hM hS hl)  hw hM hS (lv_sub hl [2, 3, 4, 5, 1, 0] rfl)
def w_X12_late (I : mI) (o : Nat) (a1 : Int32) (post : Int32 → mI → Prop) : Prop := w_X12_told I o a1 3 (fun r1 => (¬ r1 = (-1) → ∀ I2, I2 = up2 I o 15 a1 → ∀ I3, I3 = up2 I2 o 16 0 → (w_X12_late_26 o a1 post) I3 (-1) 0) ∧ (r1 = (-1) → post (-1) I))
set_option maxRecDepth 100000 in
set_option maxHeartbeats 4000000 in
theorem c_X12_late {l : Launch} {D : va_G} {cA : Nat → ClassId} {Z : mZ} {bs : Ad} {n : Nat} {K : mK} {R : mR} {I : mI} {L : mL} {o : Nat} {a1 : Int32} {post : Int32 → mI → Prop} (ho : isX12 K R o) (hw : w_X12_late I o a1 post) : Met l yX12_late (.code yX12_late cX12_late 6 (some .int) :: gw) ({ frames := 7, cells := 0, slots := 0, locals := 159 } : Room) (PreM D cA Z bs (n, K, R, I, L) [.ref (ad bs o), .int a1]) (QI D cA bs (fun r u => ∃ I', u = (n, K, R, I', L) ∧ post r I')) 0 0 (Ab bs) := by
  refine m_met (by decide) (Nat.le_of_ble_eq_true rfl) (fun p e s m below meth c ls E hr hlk hM hS hl => ?_)
  have E : Ev p s m _ c cX12_late 6 RX12 D cA Z bs := E
  have hl : lv_has ls 6 [(0, .ref (ad bs o)), (1, .int a1)] := hl
  have hx := E.1.1
  have hb := E.1.2.1
  generalize hHe : s.heap = H at hM ⊢
  have hS : va_S (Ab bs) s.heap H [] := by rw [← hHe]; exact va_S.rf
  clear hHe
  refine lv_aload_n hx hb dX12_late_0 rfl (lv_at hl 0 rfl) ?_
  refine lv_iload_n hx hb dX12_late_1 rfl (lv_at hl 1 rfl) ?_
  refine lv_iconst (v := 3) hx hb dX12_late_2 (by decide) ?_
  refine m_ci (m_runV E hM hS cs_X12_241 ho.1 (by decide) rfl rfl (c_X12_told ho hw) rfl rfl ⟨Nat.le_of_ble_eq_true rfl, Nat.le_of_ble_eq_true rfl⟩ rfl hl.1 rfl (Nat.le_of_ble_eq_true rfl) dX12_late_3 ⟨Nat.le_of_ble_eq_true rfl, Nat.le_of_ble_eq_true rfl⟩) hS (fun r1 u H locs hp hM hS => ?_)
  obtain ⟨rfl, hw⟩ := hp
  refine lv_iconst (v := (-1)) hx hb dX12_late_6 (by decide) ?_
  refine lv_icmp_ne (tgt := 12) hx hb dX12_late_7 (by decide) (fun cq => ?_) (fun cq => ?_)
  · have hw := hw.1 cq
    refine lv_iconst (v := (-1)) hx hb dX12_late_12 (by decide) ?_
    refine lv_istore_n (lv' := [(2, .int (-1)), (0, .ref (ad bs o)), (1, .int a1)]) hx hb dX12_late_13 rfl hl (by decide) rfl (fun ls hl => ?_)
    refine lv_iconst (v := 0) hx hb dX12_late_14 (by decide) ?_
    refine lv_istore_n (lv' := [(3, .int 0), (2, .int (-1)), (0, .ref (ad bs o)), (1, .int a1)]) hx hb dX12_late_15 rfl hl (by decide) rfl (fun ls hl => ?_)
    refine lv_aload_n hx hb dX12_late_16 rfl (lv_at hl 2 rfl) ?_
    refine lv_iload_n hx hb dX12_late_17 rfl (lv_at hl 3 rfl) ?_
    refine m_puti E hM hS fp_X12_223 ho.1 rfl rfl dX12_late_18 (fun I2 H locs eI2 hM hS => ?_)
    have hw := hw I2 eI2
    refine lv_aload_n hx hb dX12_late_21 rfl (lv_at hl 2 rfl) ?_
    refine lv_iconst (v := 0) hx hb dX12_late_22 (by decide) ?_
    refine m_puti E hM hS fp_X12_259 ho.1 rfl rfl dX12_late_23 (fun I3 H locs eI3 hM hS => ?_)
    have hw := hw I3 eI3
    exact s_X12_late_26 E hr hlk ho  hw hM hS (lv_sub hl [2, 3, 1, 0] rfl)
  · have hw := hw.2 cq
    refine lv_iconst (v := (-1)) hx hb dX12_late_10 (by decide) ?_
    exact m_reti hx hb hr hlk hM hS ⟨_, rfl, hw⟩ dX12_late_11
theorem dX12_look_0 : decode cX12_look 0 = .ok (.aload_n 0, 1) := by decide +kernel
theorem dX12_look_1 : decode cX12_look 1 = .ok (.iload_n 1, 1) := by decide +kernel
theorem dX12_look_2 : decode cX12_look 2 = .ok (.invokevirtual 214, 3) := by decide +kernel
theorem dX12_look_5 : decode cX12_look 5 = .ok (.ifCond .ne 6, 3) := by decide +kernel
theorem dX12_look_8 : decode cX12_look 8 = .ok (.bipush (-2), 2) := by decide +kernel
theorem dX12_look_10 : decode cX12_look 10 = .ok (.ireturn, 1) := by decide +kernel
theorem dX12_look_11 : decode cX12_look 11 = .ok (.aload_n 0, 1) := by decide +kernel
theorem dX12_look_12 : decode cX12_look 12 = .ok (.invokevirtual 306, 3) := by decide +kernel
theorem dX12_look_15 : decode cX12_look 15 = .ok (.iload_n 2, 1) := by decide +kernel
theorem dX12_look_16 : decode cX12_look 16 = .ok (.ifCond .ne 8, 3) := by decide +kernel
theorem dX12_look_19 : decode cX12_look 19 = .ok (.aload_n 0, 1) := by decide +kernel
theorem dX12_look_20 : decode cX12_look 20 = .ok (.invokevirtual 424, 3) := by decide +kernel
theorem dX12_look_23 : decode cX12_look 23 = .ok (.ireturn, 1) := by decide +kernel
theorem dX12_look_24 : decode cX12_look 24 = .ok (.iload_n 2, 1) := by decide +kernel
theorem dX12_look_25 : decode cX12_look 25 = .ok (.iconst 1, 1) := by decide +kernel
theorem dX12_look_26 : decode cX12_look 26 = .ok (.if_icmp .ne 8, 3) := by decide +kernel
theorem dX12_look_29 : decode cX12_look 29 = .ok (.aload_n 0, 1) := by decide +kernel
theorem dX12_look_30 : decode cX12_look 30 = .ok (.invokevirtual 427, 3) := by decide +kernel
theorem dX12_look_33 : decode cX12_look 33 = .ok (.ireturn, 1) := by decide +kernel
theorem dX12_look_34 : decode cX12_look 34 = .ok (.iload_n 2, 1) := by decide +kernel
theorem dX12_look_35 : decode cX12_look 35 = .ok (.iconst 2, 1) := by decide +kernel
theorem dX12_look_36 : decode cX12_look 36 = .ok (.if_icmp .ne 8, 3) := by decide +kernel
theorem dX12_look_39 : decode cX12_look 39 = .ok (.aload_n 0, 1) := by decide +kernel
theorem dX12_look_40 : decode cX12_look 40 = .ok (.invokevirtual 430, 3) := by decide +kernel
theorem dX12_look_43 : decode cX12_look 43 = .ok (.ireturn, 1) := by decide +kernel
theorem dX12_look_44 : decode cX12_look 44 = .ok (.aload_n 0, 1) := by decide +kernel
theorem dX12_look_45 : decode cX12_look 45 = .ok (.iload_n 2, 1) := by decide +kernel
theorem dX12_look_46 : decode cX12_look 46 = .ok (.bipush 10, 2) := by decide +kernel
theorem dX12_look_48 : decode cX12_look 48 = .ok (.isub, 1) := by decide +kernel
theorem dX12_look_49 : decode cX12_look 49 = .ok (.invokevirtual 217, 3) := by decide +kernel
theorem dX12_look_52 : decode cX12_look 52 = .ok (.ifCond .eq 12, 3) := by decide +kernel
theorem dX12_look_55 : decode cX12_look 55 = .ok (.aload_n 0, 1) := by decide +kernel
theorem dX12_look_56 : decode cX12_look 56 = .ok (.iload_n 2, 1) := by decide +kernel
theorem dX12_look_57 : decode cX12_look 57 = .ok (.bipush 10, 2) := by decide +kernel
theorem dX12_look_59 : decode cX12_look 59 = .ok (.isub, 1) := by decide +kernel
theorem dX12_look_60 : decode cX12_look 60 = .ok (.invokevirtual 433, 3) := by decide +kernel
theorem dX12_look_63 : decode cX12_look 63 = .ok (.ireturn, 1) := by decide +kernel
theorem dX12_look_64 : decode cX12_look 64 = .ok (.aload_n 0, 1) := by decide +kernel
theorem dX12_look_65 : decode cX12_look 65 = .ok (.iload_n 2, 1) := by decide +kernel
theorem dX12_look_66 : decode cX12_look 66 = .ok (.bipush 20, 2) := by decide +kernel
theorem dX12_look_68 : decode cX12_look 68 = .ok (.isub, 1) := by decide +kernel
theorem dX12_look_69 : decode cX12_look 69 = .ok (.invokevirtual 217, 3) := by decide +kernel
theorem dX12_look_72 : decode cX12_look 72 = .ok (.ifCond .eq 12, 3) := by decide +kernel
theorem dX12_look_75 : decode cX12_look 75 = .ok (.aload_n 0, 1) := by decide +kernel
theorem dX12_look_76 : decode cX12_look 76 = .ok (.iload_n 2, 1) := by decide +kernel
theorem dX12_look_77 : decode cX12_look 77 = .ok (.bipush 20, 2) := by decide +kernel
theorem dX12_look_79 : decode cX12_look 79 = .ok (.isub, 1) := by decide +kernel
theorem dX12_look_80 : decode cX12_look 80 = .ok (.invokevirtual 436, 3) := by decide +kernel
theorem dX12_look_83 : decode cX12_look 83 = .ok (.ireturn, 1) := by decide +kernel
theorem dX12_look_84 : decode cX12_look 84 = .ok (.aload_n 0, 1) := by decide +kernel
theorem dX12_look_85 : decode cX12_look 85 = .ok (.iload_n 2, 1) := by decide +kernel
theorem dX12_look_86 : decode cX12_look 86 = .ok (.bipush 30, 2) := by decide +kernel
theorem dX12_look_88 : decode cX12_look 88 = .ok (.isub, 1) := by decide +kernel
theorem dX12_look_89 : decode cX12_look 89 = .ok (.invokevirtual 303, 3) := by decide +kernel
theorem dX12_look_92 : decode cX12_look 92 = .ok (.ifCond .eq 14, 3) := by decide +kernel
theorem dX12_look_95 : decode cX12_look 95 = .ok (.aload_n 0, 1) := by decide +kernel
theorem dX12_look_96 : decode cX12_look 96 = .ok (.iload_n 2, 1) := by decide +kernel
theorem dX12_look_97 : decode cX12_look 97 = .ok (.bipush 30, 2) := by decide +kernel
theorem dX12_look_99 : decode cX12_look 99 = .ok (.isub, 1) := by decide +kernel
theorem dX12_look_100 : decode cX12_look 100 = .ok (.invokevirtual 439, 3) := by decide +kernel
theorem dX12_look_103 : decode cX12_look 103 = .ok (.goto 27, 3) := by decide +kernel
theorem dX12_look_106 : decode cX12_look 106 = .ok (.aload_n 0, 1) := by decide +kernel
theorem dX12_look_107 : decode cX12_look 107 = .ok (.iload_n 2, 1) := by decide +kernel
theorem dX12_look_108 : decode cX12_look 108 = .ok (.bipush 40, 2) := by decide +kernel
theorem dX12_look_110 : decode cX12_look 110 = .ok (.isub, 1) := by decide +kernel
theorem dX12_look_111 : decode cX12_look 111 = .ok (.invokevirtual 303, 3) := by decide +kernel
theorem dX12_look_114 : decode cX12_look 114 = .ok (.ifCond .eq 14, 3) := by decide +kernel
theorem dX12_look_117 : decode cX12_look 117 = .ok (.aload_n 0, 1) := by decide +kernel
theorem dX12_look_118 : decode cX12_look 118 = .ok (.iload_n 2, 1) := by decide +kernel
theorem dX12_look_119 : decode cX12_look 119 = .ok (.bipush 40, 2) := by decide +kernel
theorem dX12_look_121 : decode cX12_look 121 = .ok (.isub, 1) := by decide +kernel
theorem dX12_look_122 : decode cX12_look 122 = .ok (.invokevirtual 442, 3) := by decide +kernel
theorem dX12_look_125 : decode cX12_look 125 = .ok (.goto 5, 3) := by decide +kernel
theorem dX12_look_128 : decode cX12_look 128 = .ok (.bipush (-2), 2) := by decide +kernel
theorem dX12_look_130 : decode cX12_look 130 = .ok (.ireturn, 1) := by decide +kernel
def w_X12_look (I : mI) (o : Nat) (a1 : Int32) (a2 : Int32) (post : Int32 → mI → Prop) : Prop := w_X12_isHouse I o a1 (fun b1 I2 => (b1 = true → w_X12_runs I2 o (fun I3 => (¬ a2 = 0 → (¬ a2 = 1 → (¬ a2 = 2 → w_X12_isFlat I3 o (a2 - 10) (fun b4 => (b4 = false → w_X12_isFlat I3 o (a2 - 20) (fun b5 => (b5 = false → w_X12_isPerson I3 o (a2 - 30) (fun b6 => (b6 = false → w_X12_isPerson I3 o (a2 - 40) (fun b7 => (b7 = false → post (-2) I3) ∧ (b7 = true → w_X12_late I3 o (a2 - 40) (fun r8 I9 => post r8 I9)))) ∧ (b6 = true → w_X12_hire I3 o (a2 - 30) (fun r10 I11 => post r10 I11)))) ∧ (b5 = true → w_X12_move I3 o (a2 - 20) (fun r12 I13 => post r12 I13)))) ∧ (b4 = true → w_X12_tells I3 o (a2 - 10) (fun r14 => post r14 I3)))) ∧ (a2 = 2 → w_X12_copies I3 o (fun r15 => post r15 I3))) ∧ (a2 = 1 → w_X12_busy I3 o (fun r16 => post r16 I3))) ∧ (a2 = 0 → w_X12_hollow I3 o (fun r17 => post r17 I3)))) ∧ (b1 = false → post (-2) I2))
set_option maxRecDepth 100000 in
set_option maxHeartbeats 4000000 in
theorem c_X12_look {l : Launch} {D : va_G} {cA : Nat → ClassId} {Z : mZ} {bs : Ad} {n : Nat} {K : mK} {R : mR} {I : mI} {L : mL} {o : Nat} {a1 : Int32} {a2 : Int32} {post : Int32 → mI → Prop} (ho : isX12 K R o) (hw : w_X12_look I o a1 a2 post) : Met l yX12_look (.code yX12_look cX12_look 3 (some .int) :: gw) ({ frames := 8, cells := 0, slots := 0, locals := 184 } : Room) (PreM D cA Z bs (n, K, R, I, L) [.ref (ad bs o), .int a1, .int a2]) (QI D cA bs (fun r u => ∃ I', u = (n, K, R, I', L) ∧ post r I')) 0 0 (Ab bs) := by
  refine m_met (by decide) (Nat.le_of_ble_eq_true rfl) (fun p e s m below meth c ls E hr hlk hM hS hl => ?_)
  have E : Ev p s m _ c cX12_look 3 RX12 D cA Z bs := E
  have hl : lv_has ls 3 [(0, .ref (ad bs o)), (1, .int a1), (2, .int a2)] := hl
  have hx := E.1.1
  have hb := E.1.2.1
  generalize hHe : s.heap = H at hM ⊢
  have hS : va_S (Ab bs) s.heap H [] := by rw [← hHe]; exact va_S.rf
  clear hHe
  refine lv_aload_n hx hb dX12_look_0 rfl (lv_at hl 0 rfl) ?_
  refine lv_iload_n hx hb dX12_look_1 rfl (lv_at hl 1 rfl) ?_
  refine m_ci (m_runV E hM hS cs_X12_214 ho.1 (by decide) rfl rfl (c_X12_isHouse ho hw) rfl rfl ⟨Nat.le_of_ble_eq_true rfl, Nat.le_of_ble_eq_true rfl⟩ rfl hl.1 rfl (Nat.le_of_ble_eq_true rfl) dX12_look_2 ⟨Nat.le_of_ble_eq_true rfl, Nat.le_of_ble_eq_true rfl⟩) hS (fun r9 u H locs hp hM hS => ?_)
  obtain ⟨b1, rfl, I2, rfl, hw⟩ := hp
  refine lv_if_ne (tgt := 11) hx hb dX12_look_5 (by decide) (fun cq => ?_) (fun cq => ?_)
  · have hw := hw.1 (bI_t cq)
    refine lv_aload_n hx hb dX12_look_11 rfl (lv_at hl 0 rfl) ?_
    refine m_cv (m_runV E hM hS cs_X12_306 ho.1 (by decide) rfl rfl (c_X12_runs ho hw) rfl rfl ⟨Nat.le_of_ble_eq_true rfl, Nat.le_of_ble_eq_true rfl⟩ rfl hl.1 rfl (Nat.le_of_ble_eq_true rfl) dX12_look_12 ⟨Nat.le_of_ble_eq_true rfl, Nat.le_of_ble_eq_true rfl⟩) hS (fun u H locs hp hM hS => ?_)
    obtain ⟨I3, rfl, hw⟩ := hp
    refine lv_iload_n hx hb dX12_look_15 rfl (lv_at hl 2 rfl) ?_
    refine lv_if_ne (tgt := 24) hx hb dX12_look_16 (by decide) (fun cq => ?_) (fun cq => ?_)
    · have hw := hw.1 cq
      refine lv_iload_n hx hb dX12_look_24 rfl (lv_at hl 2 rfl) ?_
      refine lv_iconst (v := 1) hx hb dX12_look_25 (by decide) ?_
      refine lv_icmp_ne (tgt := 34) hx hb dX12_look_26 (by decide) (fun cq => ?_) (fun cq => ?_)
      · have hw := hw.1 cq
        refine lv_iload_n hx hb dX12_look_34 rfl (lv_at hl 2 rfl) ?_
        refine lv_iconst (v := 2) hx hb dX12_look_35 (by decide) ?_
        refine lv_icmp_ne (tgt := 44) hx hb dX12_look_36 (by decide) (fun cq => ?_) (fun cq => ?_)
        · have hw := hw.1 cq
          refine lv_aload_n hx hb dX12_look_44 rfl (lv_at hl 0 rfl) ?_
          refine lv_iload_n hx hb dX12_look_45 rfl (lv_at hl 2 rfl) ?_
          refine lv_bipush (v := 10) hx hb dX12_look_46 (by decide) ?_
          refine lv_isub hx hb dX12_look_48 ?_
          refine m_ci (m_runV E hM hS cs_X12_217 ho.1 (by decide) rfl rfl (c_X12_isFlat ho hw) rfl rfl ⟨Nat.le_of_ble_eq_true rfl, Nat.le_of_ble_eq_true rfl⟩ rfl hl.1 rfl (Nat.le_of_ble_eq_true rfl) dX12_look_49 ⟨Nat.le_of_ble_eq_true rfl, Nat.le_of_ble_eq_true rfl⟩) hS (fun r9 u H locs hp hM hS => ?_)
          obtain ⟨b4, rfl, rfl, hw⟩ := hp
          refine lv_if_eq (tgt := 64) hx hb dX12_look_52 (by decide) (fun cq => ?_) (fun cq => ?_)
          · have hw := hw.1 (bI_f cq)
            refine lv_aload_n hx hb dX12_look_64 rfl (lv_at hl 0 rfl) ?_
            refine lv_iload_n hx hb dX12_look_65 rfl (lv_at hl 2 rfl) ?_
            refine lv_bipush (v := 20) hx hb dX12_look_66 (by decide) ?_
            refine lv_isub hx hb dX12_look_68 ?_
            refine m_ci (m_runV E hM hS cs_X12_217 ho.1 (by decide) rfl rfl (c_X12_isFlat ho hw) rfl rfl ⟨Nat.le_of_ble_eq_true rfl, Nat.le_of_ble_eq_true rfl⟩ rfl hl.1 rfl (Nat.le_of_ble_eq_true rfl) dX12_look_69 ⟨Nat.le_of_ble_eq_true rfl, Nat.le_of_ble_eq_true rfl⟩) hS (fun r9 u H locs hp hM hS => ?_)
            obtain ⟨b5, rfl, rfl, hw⟩ := hp
            refine lv_if_eq (tgt := 84) hx hb dX12_look_72 (by decide) (fun cq => ?_) (fun cq => ?_)
            · have hw := hw.1 (bI_f cq)
              refine lv_aload_n hx hb dX12_look_84 rfl (lv_at hl 0 rfl) ?_
              refine lv_iload_n hx hb dX12_look_85 rfl (lv_at hl 2 rfl) ?_
              refine lv_bipush (v := 30) hx hb dX12_look_86 (by decide) ?_
              refine lv_isub hx hb dX12_look_88 ?_
              refine m_ci (m_runV E hM hS cs_X12_303 ho.1 (by decide) rfl rfl (c_X12_isPerson ho hw) rfl rfl ⟨Nat.le_of_ble_eq_true rfl, Nat.le_of_ble_eq_true rfl⟩ rfl hl.1 rfl (Nat.le_of_ble_eq_true rfl) dX12_look_89 ⟨Nat.le_of_ble_eq_true rfl, Nat.le_of_ble_eq_true rfl⟩) hS (fun r9 u H locs hp hM hS => ?_)
              obtain ⟨b6, rfl, rfl, hw⟩ := hp
              refine lv_if_eq (tgt := 106) hx hb dX12_look_92 (by decide) (fun cq => ?_) (fun cq => ?_)
              · have hw := hw.1 (bI_f cq)
                refine lv_aload_n hx hb dX12_look_106 rfl (lv_at hl 0 rfl) ?_
                refine lv_iload_n hx hb dX12_look_107 rfl (lv_at hl 2 rfl) ?_
                refine lv_bipush (v := 40) hx hb dX12_look_108 (by decide) ?_
                refine lv_isub hx hb dX12_look_110 ?_
                refine m_ci (m_runV E hM hS cs_X12_303 ho.1 (by decide) rfl rfl (c_X12_isPerson ho hw) rfl rfl ⟨Nat.le_of_ble_eq_true rfl, Nat.le_of_ble_eq_true rfl⟩ rfl hl.1 rfl (Nat.le_of_ble_eq_true rfl) dX12_look_111 ⟨Nat.le_of_ble_eq_true rfl, Nat.le_of_ble_eq_true rfl⟩) hS (fun r9 u H locs hp hM hS => ?_)
                obtain ⟨b7, rfl, rfl, hw⟩ := hp
                refine lv_if_eq (tgt := 128) hx hb dX12_look_114 (by decide) (fun cq => ?_) (fun cq => ?_)
                · have hw := hw.1 (bI_f cq)
                  refine lv_bipush (v := (-2)) hx hb dX12_look_128 (by decide) ?_
                  exact m_reti hx hb hr hlk hM hS ⟨_, rfl, hw⟩ dX12_look_130
                · have hw := hw.2 (bI_t cq)
                  refine lv_aload_n hx hb dX12_look_117 rfl (lv_at hl 0 rfl) ?_
                  refine lv_iload_n hx hb dX12_look_118 rfl (lv_at hl 2 rfl) ?_
                  refine lv_bipush (v := 40) hx hb dX12_look_119 (by decide) ?_
                  refine lv_isub hx hb dX12_look_121 ?_
                  refine m_ci (m_runV E hM hS cs_X12_442 ho.1 (by decide) rfl rfl (c_X12_late ho hw) rfl rfl ⟨Nat.le_of_ble_eq_true rfl, Nat.le_of_ble_eq_true rfl⟩ rfl hl.1 rfl (Nat.le_of_ble_eq_true rfl) dX12_look_122 ⟨Nat.le_of_ble_eq_true rfl, Nat.le_of_ble_eq_true rfl⟩) hS (fun r8 u H locs hp hM hS => ?_)
                  obtain ⟨I9, rfl, hw⟩ := hp
                  refine lv_goto (tgt := 130) hx hb dX12_look_125 (by decide) ?_
                  exact m_reti hx hb hr hlk hM hS ⟨_, rfl, hw⟩ dX12_look_130
              · have hw := hw.2 (bI_t cq)
                refine lv_aload_n hx hb dX12_look_95 rfl (lv_at hl 0 rfl) ?_
                refine lv_iload_n hx hb dX12_look_96 rfl (lv_at hl 2 rfl) ?_
                refine lv_bipush (v := 30) hx hb dX12_look_97 (by decide) ?_
                refine lv_isub hx hb dX12_look_99 ?_
                refine m_ci (m_runV E hM hS cs_X12_439 ho.1 (by decide) rfl rfl (c_X12_hire ho hw) rfl rfl ⟨Nat.le_of_ble_eq_true rfl, Nat.le_of_ble_eq_true rfl⟩ rfl hl.1 rfl (Nat.le_of_ble_eq_true rfl) dX12_look_100 ⟨Nat.le_of_ble_eq_true rfl, Nat.le_of_ble_eq_true rfl⟩) hS (fun r10 u H locs hp hM hS => ?_)
                obtain ⟨I11, rfl, hw⟩ := hp
                refine lv_goto (tgt := 130) hx hb dX12_look_103 (by decide) ?_
                exact m_reti hx hb hr hlk hM hS ⟨_, rfl, hw⟩ dX12_look_130
            · have hw := hw.2 (bI_t cq)
              refine lv_aload_n hx hb dX12_look_75 rfl (lv_at hl 0 rfl) ?_
              refine lv_iload_n hx hb dX12_look_76 rfl (lv_at hl 2 rfl) ?_
              refine lv_bipush (v := 20) hx hb dX12_look_77 (by decide) ?_
              refine lv_isub hx hb dX12_look_79 ?_
              refine m_ci (m_runV E hM hS cs_X12_436 ho.1 (by decide) rfl rfl (c_X12_move ho hw) rfl rfl ⟨Nat.le_of_ble_eq_true rfl, Nat.le_of_ble_eq_true rfl⟩ rfl hl.1 rfl (Nat.le_of_ble_eq_true rfl) dX12_look_80 ⟨Nat.le_of_ble_eq_true rfl, Nat.le_of_ble_eq_true rfl⟩) hS (fun r12 u H locs hp hM hS => ?_)
              obtain ⟨I13, rfl, hw⟩ := hp
              exact m_reti hx hb hr hlk hM hS ⟨_, rfl, hw⟩ dX12_look_83
          · have hw := hw.2 (bI_t cq)
            refine lv_aload_n hx hb dX12_look_55 rfl (lv_at hl 0 rfl) ?_
            refine lv_iload_n hx hb dX12_look_56 rfl (lv_at hl 2 rfl) ?_
            refine lv_bipush (v := 10) hx hb dX12_look_57 (by decide) ?_
            refine lv_isub hx hb dX12_look_59 ?_
            refine m_ci (m_runV E hM hS cs_X12_433 ho.1 (by decide) rfl rfl (c_X12_tells ho hw) rfl rfl ⟨Nat.le_of_ble_eq_true rfl, Nat.le_of_ble_eq_true rfl⟩ rfl hl.1 rfl (Nat.le_of_ble_eq_true rfl) dX12_look_60 ⟨Nat.le_of_ble_eq_true rfl, Nat.le_of_ble_eq_true rfl⟩) hS (fun r14 u H locs hp hM hS => ?_)
            obtain ⟨rfl, hw⟩ := hp
            exact m_reti hx hb hr hlk hM hS ⟨_, rfl, hw⟩ dX12_look_63
        · have hw := hw.2 cq
          refine lv_aload_n hx hb dX12_look_39 rfl (lv_at hl 0 rfl) ?_
          refine m_ci (m_runV E hM hS cs_X12_430 ho.1 (by decide) rfl rfl (c_X12_copies ho hw) rfl rfl ⟨Nat.le_of_ble_eq_true rfl, Nat.le_of_ble_eq_true rfl⟩ rfl hl.1 rfl (Nat.le_of_ble_eq_true rfl) dX12_look_40 ⟨Nat.le_of_ble_eq_true rfl, Nat.le_of_ble_eq_true rfl⟩) hS (fun r15 u H locs hp hM hS => ?_)
          obtain ⟨rfl, hw⟩ := hp
          exact m_reti hx hb hr hlk hM hS ⟨_, rfl, hw⟩ dX12_look_43
      · have hw := hw.2 cq
        refine lv_aload_n hx hb dX12_look_29 rfl (lv_at hl 0 rfl) ?_
        refine m_ci (m_runV E hM hS cs_X12_427 ho.1 (by decide) rfl rfl (c_X12_busy ho hw) rfl rfl ⟨Nat.le_of_ble_eq_true rfl, Nat.le_of_ble_eq_true rfl⟩ rfl hl.1 rfl (Nat.le_of_ble_eq_true rfl) dX12_look_30 ⟨Nat.le_of_ble_eq_true rfl, Nat.le_of_ble_eq_true rfl⟩) hS (fun r16 u H locs hp hM hS => ?_)
        obtain ⟨rfl, hw⟩ := hp
        exact m_reti hx hb hr hlk hM hS ⟨_, rfl, hw⟩ dX12_look_33
    · have hw := hw.2 cq
      refine lv_aload_n hx hb dX12_look_19 rfl (lv_at hl 0 rfl) ?_
      refine m_ci (m_runV E hM hS cs_X12_424 ho.1 (by decide) rfl rfl (c_X12_hollow ho hw) rfl rfl ⟨Nat.le_of_ble_eq_true rfl, Nat.le_of_ble_eq_true rfl⟩ rfl hl.1 rfl (Nat.le_of_ble_eq_true rfl) dX12_look_20 ⟨Nat.le_of_ble_eq_true rfl, Nat.le_of_ble_eq_true rfl⟩) hS (fun r17 u H locs hp hM hS => ?_)
      obtain ⟨rfl, hw⟩ := hp
      exact m_reti hx hb hr hlk hM hS ⟨_, rfl, hw⟩ dX12_look_23
  · have hw := hw.2 (bI_f cq)
    refine lv_bipush (v := (-2)) hx hb dX12_look_8 (by decide) ?_
    exact m_reti hx hb hr hlk hM hS ⟨_, rfl, hw⟩ dX12_look_10
theorem dX12_count_0 : decode cX12_count 0 = .ok (.iload_n 1, 1) := by decide +kernel
theorem dX12_count_1 : decode cX12_count 1 = .ok (.iconst 0, 1) := by decide +kernel
theorem dX12_count_2 : decode cX12_count 2 = .ok (.iconst 1, 1) := by decide +kernel
theorem dX12_count_3 : decode cX12_count 3 = .ok (.invokestatic 133, 3) := by decide +kernel
theorem dX12_count_6 : decode cX12_count 6 = .ok (.ifCond .eq 12, 3) := by decide +kernel
theorem dX12_count_9 : decode cX12_count 9 = .ok (.aload_n 0, 1) := by decide +kernel
theorem dX12_count_10 : decode cX12_count 10 = .ok (.getfield 7, 3) := by decide +kernel
theorem dX12_count_13 : decode cX12_count 13 = .ok (.iload_n 1, 1) := by decide +kernel
theorem dX12_count_14 : decode cX12_count 14 = .ok (.iaload, 1) := by decide +kernel
theorem dX12_count_15 : decode cX12_count 15 = .ok (.goto 5, 3) := by decide +kernel
theorem dX12_count_18 : decode cX12_count 18 = .ok (.bipush (-2), 2) := by decide +kernel
theorem dX12_count_20 : decode cX12_count 20 = .ok (.ireturn, 1) := by decide +kernel
def w_X12_count (I : mI) (o : Nat) (a1 : Int32) (post : Int32 → Prop) : Prop := w_X12_isIn a1 0 1 (fun b1 => (b1 = false → post (-2)) ∧ (b1 = true → vp_in a1 3960 ∧ post (I (o + 1) a1.toNatClampNeg)))
set_option maxRecDepth 100000 in
set_option maxHeartbeats 4000000 in
theorem c_X12_count {l : Launch} {D : va_G} {cA : Nat → ClassId} {Z : mZ} {bs : Ad} {n : Nat} {K : mK} {R : mR} {I : mI} {L : mL} {o : Nat} {a1 : Int32} {post : Int32 → Prop} (ho : isX12 K R o) (hw : w_X12_count I o a1 post) : Met l yX12_count (.code yX12_count cX12_count 2 (some .int) :: gw) ({ frames := 1, cells := 0, slots := 0, locals := 22 } : Room) (PreM D cA Z bs (n, K, R, I, L) [.ref (ad bs o), .int a1]) (QI D cA bs (fun r u => u = (n, K, R, I, L) ∧ post r)) 0 0 (Ab bs) := by
  refine m_met (by decide) (Nat.le_of_ble_eq_true rfl) (fun p e s m below meth c ls E hr hlk hM hS hl => ?_)
  have E : Ev p s m _ c cX12_count 2 RX12 D cA Z bs := E
  have hl : lv_has ls 2 [(0, .ref (ad bs o)), (1, .int a1)] := hl
  have hx := E.1.1
  have hb := E.1.2.1
  generalize hHe : s.heap = H at hM ⊢
  have hS : va_S (Ab bs) s.heap H [] := by rw [← hHe]; exact va_S.rf
  clear hHe
  refine lv_iload_n hx hb dX12_count_0 rfl (lv_at hl 1 rfl) ?_
  refine lv_iconst (v := 0) hx hb dX12_count_1 (by decide) ?_
  refine lv_iconst (v := 1) hx hb dX12_count_2 (by decide) ?_
  refine m_ci (m_runS E hM hS cs_X12_133 (c_X12_isIn  hw) rfl rfl ⟨Nat.le_of_ble_eq_true rfl, Nat.le_of_ble_eq_true rfl⟩ rfl hl.1 rfl (Nat.le_of_ble_eq_true rfl) dX12_count_3 ⟨Nat.le_of_ble_eq_true rfl, Nat.le_of_ble_eq_true rfl⟩) hS (fun r9 u H locs hp hM hS => ?_)
  obtain ⟨b1, rfl, rfl, hw⟩ := hp
  refine lv_if_eq (tgt := 18) hx hb dX12_count_6 (by decide) (fun cq => ?_) (fun cq => ?_)
  · have hw := hw.1 (bI_f cq)
    refine lv_bipush (v := (-2)) hx hb dX12_count_18 (by decide) ?_
    exact m_reti hx hb hr hlk hM hS ⟨rfl, hw⟩ dX12_count_20
  · have hw := hw.2 (bI_t cq)
    refine lv_aload_n hx hb dX12_count_9 rfl (lv_at hl 0 rfl) ?_
    refine m_getr E hM fs_X12_7 ho.1 (isO_at ho 0 rfl).1 dX12_count_10 ?_
    refine lv_iload_n hx hb dX12_count_13 rfl (lv_at hl 1 rfl) ?_
    obtain ⟨hv, hw⟩ := hw
    refine m_iald E hM (isO_at ho 0 rfl).2 hv dX12_count_14 ?_
    refine lv_goto (tgt := 20) hx hb dX12_count_15 (by decide) ?_
    exact m_reti hx hb hr hlk hM hS ⟨rfl, hw⟩ dX12_count_20
theorem dX12_image_0 : decode cX12_image 0 = .ok (.iload_n 1, 1) := by decide +kernel
theorem dX12_image_1 : decode cX12_image 1 = .ok (.iconst 0, 1) := by decide +kernel
theorem dX12_image_2 : decode cX12_image 2 = .ok (.iconst 2, 1) := by decide +kernel
theorem dX12_image_3 : decode cX12_image 3 = .ok (.invokestatic 133, 3) := by decide +kernel
theorem dX12_image_6 : decode cX12_image 6 = .ok (.ifCond .ne 5, 3) := by decide +kernel
theorem dX12_image_9 : decode cX12_image 9 = .ok (.iconst 0, 1) := by decide +kernel
theorem dX12_image_10 : decode cX12_image 10 = .ok (.ireturn, 1) := by decide +kernel
theorem dX12_image_11 : decode cX12_image 11 = .ok (.aload_n 0, 1) := by decide +kernel
theorem dX12_image_12 : decode cX12_image 12 = .ok (.getfield 13, 3) := by decide +kernel
theorem dX12_image_15 : decode cX12_image 15 = .ok (.iload_n 1, 1) := by decide +kernel
theorem dX12_image_16 : decode cX12_image 16 = .ok (.iconst 1, 1) := by decide +kernel
theorem dX12_image_17 : decode cX12_image 17 = .ok (.bastore, 1) := by decide +kernel
theorem dX12_image_18 : decode cX12_image 18 = .ok (.iconst 0, 1) := by decide +kernel
theorem dX12_image_19 : decode cX12_image 19 = .ok (.istore_n 2, 1) := by decide +kernel
theorem dX12_image_20 : decode cX12_image 20 = .ok (.iload_n 2, 1) := by decide +kernel
theorem dX12_image_21 : decode cX12_image 21 = .ok (.sipush 990, 3) := by decide +kernel
theorem dX12_image_24 : decode cX12_image 24 = .ok (.if_icmp .ge 29, 3) := by decide +kernel
theorem dX12_image_27 : decode cX12_image 27 = .ok (.aload_n 0, 1) := by decide +kernel
theorem dX12_image_28 : decode cX12_image 28 = .ok (.getfield 7, 3) := by decide +kernel
theorem dX12_image_31 : decode cX12_image 31 = .ok (.sipush 990, 3) := by decide +kernel
theorem dX12_image_34 : decode cX12_image 34 = .ok (.iload_n 1, 1) := by decide +kernel
theorem dX12_image_35 : decode cX12_image 35 = .ok (.iconst 1, 1) := by decide +kernel
theorem dX12_image_36 : decode cX12_image 36 = .ok (.iadd, 1) := by decide +kernel
theorem dX12_image_37 : decode cX12_image 37 = .ok (.imul, 1) := by decide +kernel
theorem dX12_image_38 : decode cX12_image 38 = .ok (.iload_n 2, 1) := by decide +kernel
theorem dX12_image_39 : decode cX12_image 39 = .ok (.iadd, 1) := by decide +kernel
theorem dX12_image_40 : decode cX12_image 40 = .ok (.aload_n 0, 1) := by decide +kernel
theorem dX12_image_41 : decode cX12_image 41 = .ok (.getfield 7, 3) := by decide +kernel
theorem dX12_image_44 : decode cX12_image 44 = .ok (.iload_n 2, 1) := by decide +kernel
theorem dX12_image_45 : decode cX12_image 45 = .ok (.iaload, 1) := by decide +kernel
theorem dX12_image_46 : decode cX12_image 46 = .ok (.iastore, 1) := by decide +kernel
theorem dX12_image_47 : decode cX12_image 47 = .ok (.iinc 2 1, 3) := by decide +kernel
theorem dX12_image_50 : decode cX12_image 50 = .ok (.goto (-30), 3) := by decide +kernel
theorem dX12_image_53 : decode cX12_image 53 = .ok (.iconst 1, 1) := by decide +kernel
theorem dX12_image_54 : decode cX12_image 54 = .ok (.ireturn, 1) := by decide +kernel
def w_X12_image_20 (o : Nat) (a1 : Int32) (post : Bool → mI → Prop) (I : mI) (v2 : Int32) : Prop := ∀ ZZ : (mI → Int32 → Prop), (∀ (I : mI) (v2 : Int32), ((990 ≤ v2 → post true I) ∧ (¬ 990 ≤ v2 → vp_in v2 3960 ∧ vp_in ((990 * (a1 + 1)) + v2) 3960 ∧ ∀ I3, I3 = up2 I (o + 1) (((990 * (a1 + 1)) + v2).toNatClampNeg) (I (o + 1) v2.toNatClampNeg) → ∀ x4, x4 = v2 + 1 → ZZ I3 x4)) → ZZ I v2) → ZZ I v2
set_option maxRecDepth 100000 in
set_option maxHeartbeats 4000000 in
theorem s_X12_image_20 {p : Program} {l : Launch} {e : Env} {s : State} {m : MethodId} {args : Array Value} {below : List Frame} {meth : Method} {c : Code} {D : va_G} {cA : Nat → ClassId} {Z : mZ} {bs : Ad} {n : Nat} {K : mK} {R : mR} {L : mL} (E : Ev p s m args c cX12_image 3 RX12 D cA Z bs) (hr : meth.sig.returnType = (some .boolean)) (hlk : meth.locks = false) {o : Nat} {a1 : Int32} (ho : isX12 K R o) {post : Bool → mI → Prop} {I : mI} {v2 : Int32} {H : Heap} {locs : List Loc} {ls : Array Slot} (hw : w_X12_image_20 o a1 post I v2) (hM : mm D cA bs (n, K, R, I, L) H) (hS : va_S (Ab bs) s.heap H locs) (hl : lv_has ls 3 [(0, .ref (ad bs o)), (1, .int a1), (2, .int v2)]) : W p l e ({ frames := 1, cells := 0, slots := 0, locals := 22 } : Room) s m args below meth c H locs 0 0 (MQ below (QI D cA bs (fun r u => ∃ b, r = bI b ∧ ∃ I', u = (n, K, R, I', L) ∧ post b I')) args s 0 0 (Ab bs)) (F0 m 20 ls []) := by
  have hx := E.1.1
  have hb := E.1.2.1
  refine hw (fun I v2 => ∀ (H : Heap) (locs : List Loc) (ls : Array Slot), mm D cA bs (n, K, R, I, L) H → va_S (Ab bs) s.heap H locs → lv_has ls 3 [(0, .ref (ad bs o)), (1, .int a1), (2, .int v2)] → W p l e ({ frames := 1, cells := 0, slots := 0, locals := 22 } : Room) s m args below meth c H locs 0 0 (MQ below (QI D cA bs (fun r u => ∃ b, r = bI b ∧ ∃ I', u = (n, K, R, I', L) ∧ post b I')) args s 0 0 (Ab bs)) (F0 m 20 ls [])) ?_ H locs ls hM hS hl
  clear hw hM hS hl
  intro I v2 hw H locs ls hM hS hl
  refine lv_iload_n hx hb dX12_image_20 rfl (lv_at hl 2 rfl) ?_
  refine lv_sipush (v := 990) hx hb dX12_image_21 (by decide) ?_
  refine lv_icmp_ge (tgt := 53) hx hb dX12_image_24 (by decide) (fun cq => ?_) (fun cq => ?_)
  · have hw := hw.1 cq
    refine lv_iconst (v := 1) hx hb dX12_image_53 (by decide) ?_
    exact m_retz hx hb hr hlk (Or.inr rfl) hM hS ⟨true, rfl, _, rfl, hw⟩ dX12_image_54
  · have hw := hw.2 cq
    refine lv_aload_n hx hb dX12_image_27 rfl (lv_at hl 0 rfl) ?_
    refine m_getr E hM fs_X12_7 ho.1 (isO_at ho 0 rfl).1 dX12_image_28 ?_
    refine lv_sipush (v := 990) hx hb dX12_image_31 (by decide) ?_
    refine lv_iload_n hx hb dX12_image_34 rfl (lv_at hl 1 rfl) ?_
    refine lv_iconst (v := 1) hx hb dX12_image_35 (by decide) ?_
    refine lv_iadd hx hb dX12_image_36 ?_
    refine lv_imul hx hb dX12_image_37 ?_
    refine lv_iload_n hx hb dX12_image_38 rfl (lv_at hl 2 rfl) ?_
    refine lv_iadd hx hb dX12_image_39 ?_
    refine lv_aload_n hx hb dX12_image_40 rfl (lv_at hl 0 rfl) ?_
    refine m_getr E hM fs_X12_7 ho.1 (isO_at ho 0 rfl).1 dX12_image_41 ?_
    refine lv_iload_n hx hb dX12_image_44 rfl (lv_at hl 2 rfl) ?_
    obtain ⟨hv, hw⟩ := hw
    refine m_iald E hM (isO_at ho 0 rfl).2 hv dX12_image_45 ?_
    obtain ⟨hv, hw⟩ := hw
    refine m_iast E hM hS (isO_at ho 0 rfl).2 hv dX12_image_46 (fun I3 H locs eI3 hM hS => ?_)
    have hw := hw I3 eI3
    obtain ⟨x4, ex4⟩ : ∃ y : Int32, y = v2 + 1 := ⟨_, rfl⟩
    have hw := hw x4 ex4
    refine lv_iinc (v := x4) (lv' := [(2, .int x4), (0, .ref (ad bs o)), (1, .int a1)]) hx hb dX12_image_47 hl (k := 2) rfl (by rw [ex4]; rfl) (by decide) rfl (fun ls hl => ?_)
    refine lv_goto (tgt := 20) hx hb dX12_image_50 (by decide) ?_
    exact hw H locs ls  hM hS (lv_sub hl [1, 2, 0] rfl)
def w_X12_image (I : mI) (o : Nat) (a1 : Int32) (post : Bool → mI → Prop) : Prop := w_X12_isIn a1 0 2 (fun b1 => (b1 = true → vp_in a1 3 ∧ ∀ I2, I2 = up2 I (o + 2) a1.toNatClampNeg 1 → (w_X12_image_20 o a1 post) I2 0) ∧ (b1 = false → post false I))
set_option maxRecDepth 100000 in
set_option maxHeartbeats 4000000 in
theorem c_X12_image {l : Launch} {D : va_G} {cA : Nat → ClassId} {Z : mZ} {bs : Ad} {n : Nat} {K : mK} {R : mR} {I : mI} {L : mL} {o : Nat} {a1 : Int32} {post : Bool → mI → Prop} (ho : isX12 K R o) (hw : w_X12_image I o a1 post) : Met l yX12_image (.code yX12_image cX12_image 3 (some .boolean) :: gw) ({ frames := 1, cells := 0, slots := 0, locals := 22 } : Room) (PreM D cA Z bs (n, K, R, I, L) [.ref (ad bs o), .int a1]) (QI D cA bs (fun r u => ∃ b, r = bI b ∧ ∃ I', u = (n, K, R, I', L) ∧ post b I')) 0 0 (Ab bs) := by
  refine m_met (by decide) (Nat.le_of_ble_eq_true rfl) (fun p e s m below meth c ls E hr hlk hM hS hl => ?_)
  have E : Ev p s m _ c cX12_image 3 RX12 D cA Z bs := E
  have hl : lv_has ls 3 [(0, .ref (ad bs o)), (1, .int a1)] := hl
  have hx := E.1.1
  have hb := E.1.2.1
  generalize hHe : s.heap = H at hM ⊢
  have hS : va_S (Ab bs) s.heap H [] := by rw [← hHe]; exact va_S.rf
  clear hHe
  refine lv_iload_n hx hb dX12_image_0 rfl (lv_at hl 1 rfl) ?_
  refine lv_iconst (v := 0) hx hb dX12_image_1 (by decide) ?_
  refine lv_iconst (v := 2) hx hb dX12_image_2 (by decide) ?_
  refine m_ci (m_runS E hM hS cs_X12_133 (c_X12_isIn  hw) rfl rfl ⟨Nat.le_of_ble_eq_true rfl, Nat.le_of_ble_eq_true rfl⟩ rfl hl.1 rfl (Nat.le_of_ble_eq_true rfl) dX12_image_3 ⟨Nat.le_of_ble_eq_true rfl, Nat.le_of_ble_eq_true rfl⟩) hS (fun r9 u H locs hp hM hS => ?_)
  obtain ⟨b1, rfl, rfl, hw⟩ := hp
  refine lv_if_ne (tgt := 11) hx hb dX12_image_6 (by decide) (fun cq => ?_) (fun cq => ?_)
  · have hw := hw.1 (bI_t cq)
    refine lv_aload_n hx hb dX12_image_11 rfl (lv_at hl 0 rfl) ?_
    refine m_getr E hM fs_X12_13 ho.1 (isO_at ho 1 rfl).1 dX12_image_12 ?_
    refine lv_iload_n hx hb dX12_image_15 rfl (lv_at hl 1 rfl) ?_
    refine lv_iconst (v := 1) hx hb dX12_image_16 (by decide) ?_
    obtain ⟨hv, hw⟩ := hw
    refine m_zast E hM hS (isO_at ho 1 rfl).2 hv dX12_image_17 (fun I2 H locs eI2 hM hS => ?_)
    have hw := hw I2 eI2
    refine lv_iconst (v := 0) hx hb dX12_image_18 (by decide) ?_
    refine lv_istore_n (lv' := [(2, .int 0), (0, .ref (ad bs o)), (1, .int a1)]) hx hb dX12_image_19 rfl hl (by decide) rfl (fun ls hl => ?_)
    exact s_X12_image_20 E hr hlk ho  hw hM hS (lv_sub hl [1, 2, 0] rfl)
  · have hw := hw.2 (bI_f cq)
    refine lv_iconst (v := 0) hx hb dX12_image_9 (by decide) ?_
    exact m_retz hx hb hr hlk (Or.inl rfl) hM hS ⟨false, rfl, _, rfl, hw⟩ dX12_image_10
theorem dX12_again_0 : decode cX12_again 0 = .ok (.iload_n 1, 1) := by decide +kernel
theorem dX12_again_1 : decode cX12_again 1 = .ok (.iconst 0, 1) := by decide +kernel
theorem dX12_again_2 : decode cX12_again 2 = .ok (.iconst 2, 1) := by decide +kernel
theorem dX12_again_3 : decode cX12_again 3 = .ok (.invokestatic 133, 3) := by decide +kernel
theorem dX12_again_6 : decode cX12_again 6 = .ok (.ifCond .eq 12, 3) := by decide +kernel
theorem dX12_again_9 : decode cX12_again 9 = .ok (.aload_n 0, 1) := by decide +kernel
theorem dX12_again_10 : decode cX12_again 10 = .ok (.getfield 13, 3) := by decide +kernel
theorem dX12_again_13 : decode cX12_again 13 = .ok (.iload_n 1, 1) := by decide +kernel
theorem dX12_again_14 : decode cX12_again 14 = .ok (.baload, 1) := by decide +kernel
theorem dX12_again_15 : decode cX12_again 15 = .ok (.ifCond .ne 5, 3) := by decide +kernel
theorem dX12_again_18 : decode cX12_again 18 = .ok (.iconst 0, 1) := by decide +kernel
theorem dX12_again_19 : decode cX12_again 19 = .ok (.ireturn, 1) := by decide +kernel
theorem dX12_again_20 : decode cX12_again 20 = .ok (.iconst 0, 1) := by decide +kernel
theorem dX12_again_21 : decode cX12_again 21 = .ok (.istore_n 2, 1) := by decide +kernel
theorem dX12_again_22 : decode cX12_again 22 = .ok (.iload_n 2, 1) := by decide +kernel
theorem dX12_again_23 : decode cX12_again 23 = .ok (.sipush 990, 3) := by decide +kernel
theorem dX12_again_26 : decode cX12_again 26 = .ok (.if_icmp .ge 29, 3) := by decide +kernel
theorem dX12_again_29 : decode cX12_again 29 = .ok (.aload_n 0, 1) := by decide +kernel
theorem dX12_again_30 : decode cX12_again 30 = .ok (.getfield 7, 3) := by decide +kernel
theorem dX12_again_33 : decode cX12_again 33 = .ok (.iload_n 2, 1) := by decide +kernel
theorem dX12_again_34 : decode cX12_again 34 = .ok (.aload_n 0, 1) := by decide +kernel
theorem dX12_again_35 : decode cX12_again 35 = .ok (.getfield 7, 3) := by decide +kernel
theorem dX12_again_38 : decode cX12_again 38 = .ok (.sipush 990, 3) := by decide +kernel
theorem dX12_again_41 : decode cX12_again 41 = .ok (.iload_n 1, 1) := by decide +kernel
theorem dX12_again_42 : decode cX12_again 42 = .ok (.iconst 1, 1) := by decide +kernel
theorem dX12_again_43 : decode cX12_again 43 = .ok (.iadd, 1) := by decide +kernel
theorem dX12_again_44 : decode cX12_again 44 = .ok (.imul, 1) := by decide +kernel
theorem dX12_again_45 : decode cX12_again 45 = .ok (.iload_n 2, 1) := by decide +kernel
theorem dX12_again_46 : decode cX12_again 46 = .ok (.iadd, 1) := by decide +kernel
theorem dX12_again_47 : decode cX12_again 47 = .ok (.iaload, 1) := by decide +kernel
theorem dX12_again_48 : decode cX12_again 48 = .ok (.iastore, 1) := by decide +kernel
theorem dX12_again_49 : decode cX12_again 49 = .ok (.iinc 2 1, 3) := by decide +kernel
theorem dX12_again_52 : decode cX12_again 52 = .ok (.goto (-30), 3) := by decide +kernel
theorem dX12_again_55 : decode cX12_again 55 = .ok (.iconst 1, 1) := by decide +kernel
theorem dX12_again_56 : decode cX12_again 56 = .ok (.ireturn, 1) := by decide +kernel
def w_X12_again_22 (o : Nat) (a1 : Int32) (post : Bool → mI → Prop) (I : mI) (v2 : Int32) : Prop := ∀ ZZ : (mI → Int32 → Prop), (∀ (I : mI) (v2 : Int32), ((990 ≤ v2 → post true I) ∧ (¬ 990 ≤ v2 → vp_in ((990 * (a1 + 1)) + v2) 3960 ∧ vp_in v2 3960 ∧ ∀ I2, I2 = up2 I (o + 1) v2.toNatClampNeg (I (o + 1) ((990 * (a1 + 1)) + v2).toNatClampNeg) → ∀ x3, x3 = v2 + 1 → ZZ I2 x3)) → ZZ I v2) → ZZ I v2
set_option maxRecDepth 100000 in
set_option maxHeartbeats 4000000 in
theorem s_X12_again_22 {p : Program} {l : Launch} {e : Env} {s : State} {m : MethodId} {args : Array Value} {below : List Frame} {meth : Method} {c : Code} {D : va_G} {cA : Nat → ClassId} {Z : mZ} {bs : Ad} {n : Nat} {K : mK} {R : mR} {L : mL} (E : Ev p s m args c cX12_again 3 RX12 D cA Z bs) (hr : meth.sig.returnType = (some .boolean)) (hlk : meth.locks = false) {o : Nat} {a1 : Int32} (ho : isX12 K R o) {post : Bool → mI → Prop} {I : mI} {v2 : Int32} {H : Heap} {locs : List Loc} {ls : Array Slot} (hw : w_X12_again_22 o a1 post I v2) (hM : mm D cA bs (n, K, R, I, L) H) (hS : va_S (Ab bs) s.heap H locs) (hl : lv_has ls 3 [(0, .ref (ad bs o)), (1, .int a1), (2, .int v2)]) : W p l e ({ frames := 1, cells := 0, slots := 0, locals := 22 } : Room) s m args below meth c H locs 0 0 (MQ below (QI D cA bs (fun r u => ∃ b, r = bI b ∧ ∃ I', u = (n, K, R, I', L) ∧ post b I')) args s 0 0 (Ab bs)) (F0 m 22 ls []) := by
  have hx := E.1.1
  have hb := E.1.2.1
  refine hw (fun I v2 => ∀ (H : Heap) (locs : List Loc) (ls : Array Slot), mm D cA bs (n, K, R, I, L) H → va_S (Ab bs) s.heap H locs → lv_has ls 3 [(0, .ref (ad bs o)), (1, .int a1), (2, .int v2)] → W p l e ({ frames := 1, cells := 0, slots := 0, locals := 22 } : Room) s m args below meth c H locs 0 0 (MQ below (QI D cA bs (fun r u => ∃ b, r = bI b ∧ ∃ I', u = (n, K, R, I', L) ∧ post b I')) args s 0 0 (Ab bs)) (F0 m 22 ls [])) ?_ H locs ls hM hS hl
  clear hw hM hS hl
  intro I v2 hw H locs ls hM hS hl
  refine lv_iload_n hx hb dX12_again_22 rfl (lv_at hl 2 rfl) ?_
  refine lv_sipush (v := 990) hx hb dX12_again_23 (by decide) ?_
  refine lv_icmp_ge (tgt := 55) hx hb dX12_again_26 (by decide) (fun cq => ?_) (fun cq => ?_)
  · have hw := hw.1 cq
    refine lv_iconst (v := 1) hx hb dX12_again_55 (by decide) ?_
    exact m_retz hx hb hr hlk (Or.inr rfl) hM hS ⟨true, rfl, _, rfl, hw⟩ dX12_again_56
  · have hw := hw.2 cq
    refine lv_aload_n hx hb dX12_again_29 rfl (lv_at hl 0 rfl) ?_
    refine m_getr E hM fs_X12_7 ho.1 (isO_at ho 0 rfl).1 dX12_again_30 ?_
    refine lv_iload_n hx hb dX12_again_33 rfl (lv_at hl 2 rfl) ?_
    refine lv_aload_n hx hb dX12_again_34 rfl (lv_at hl 0 rfl) ?_
    refine m_getr E hM fs_X12_7 ho.1 (isO_at ho 0 rfl).1 dX12_again_35 ?_
    refine lv_sipush (v := 990) hx hb dX12_again_38 (by decide) ?_
    refine lv_iload_n hx hb dX12_again_41 rfl (lv_at hl 1 rfl) ?_
    refine lv_iconst (v := 1) hx hb dX12_again_42 (by decide) ?_
    refine lv_iadd hx hb dX12_again_43 ?_
    refine lv_imul hx hb dX12_again_44 ?_
    refine lv_iload_n hx hb dX12_again_45 rfl (lv_at hl 2 rfl) ?_
    refine lv_iadd hx hb dX12_again_46 ?_
    obtain ⟨hv, hw⟩ := hw
    refine m_iald E hM (isO_at ho 0 rfl).2 hv dX12_again_47 ?_
    obtain ⟨hv, hw⟩ := hw
    refine m_iast E hM hS (isO_at ho 0 rfl).2 hv dX12_again_48 (fun I2 H locs eI2 hM hS => ?_)
    have hw := hw I2 eI2
    obtain ⟨x3, ex3⟩ : ∃ y : Int32, y = v2 + 1 := ⟨_, rfl⟩
    have hw := hw x3 ex3
    refine lv_iinc (v := x3) (lv' := [(2, .int x3), (0, .ref (ad bs o)), (1, .int a1)]) hx hb dX12_again_49 hl (k := 2) rfl (by rw [ex3]; rfl) (by decide) rfl (fun ls hl => ?_)
    refine lv_goto (tgt := 22) hx hb dX12_again_52 (by decide) ?_
    exact hw H locs ls  hM hS (lv_sub hl [1, 2, 0] rfl)
def w_X12_again (I : mI) (o : Nat) (a1 : Int32) (post : Bool → mI → Prop) : Prop := w_X12_isIn a1 0 2 (fun b1 => (b1 = false → post false I) ∧ (b1 = true → vp_in a1 3 ∧ (¬ (I (o + 2) a1.toNatClampNeg) = 0 → (w_X12_again_22 o a1 post) I 0) ∧ ((I (o + 2) a1.toNatClampNeg) = 0 → post false I)))
set_option maxRecDepth 100000 in
set_option maxHeartbeats 4000000 in
theorem c_X12_again {l : Launch} {D : va_G} {cA : Nat → ClassId} {Z : mZ} {bs : Ad} {n : Nat} {K : mK} {R : mR} {I : mI} {L : mL} {o : Nat} {a1 : Int32} {post : Bool → mI → Prop} (ho : isX12 K R o) (hw : w_X12_again I o a1 post) : Met l yX12_again (.code yX12_again cX12_again 3 (some .boolean) :: gw) ({ frames := 1, cells := 0, slots := 0, locals := 22 } : Room) (PreM D cA Z bs (n, K, R, I, L) [.ref (ad bs o), .int a1]) (QI D cA bs (fun r u => ∃ b, r = bI b ∧ ∃ I', u = (n, K, R, I', L) ∧ post b I')) 0 0 (Ab bs) := by
  refine m_met (by decide) (Nat.le_of_ble_eq_true rfl) (fun p e s m below meth c ls E hr hlk hM hS hl => ?_)
  have E : Ev p s m _ c cX12_again 3 RX12 D cA Z bs := E
  have hl : lv_has ls 3 [(0, .ref (ad bs o)), (1, .int a1)] := hl
  have hx := E.1.1
  have hb := E.1.2.1
  generalize hHe : s.heap = H at hM ⊢
  have hS : va_S (Ab bs) s.heap H [] := by rw [← hHe]; exact va_S.rf
  clear hHe
  refine lv_iload_n hx hb dX12_again_0 rfl (lv_at hl 1 rfl) ?_
  refine lv_iconst (v := 0) hx hb dX12_again_1 (by decide) ?_
  refine lv_iconst (v := 2) hx hb dX12_again_2 (by decide) ?_
  refine m_ci (m_runS E hM hS cs_X12_133 (c_X12_isIn  hw) rfl rfl ⟨Nat.le_of_ble_eq_true rfl, Nat.le_of_ble_eq_true rfl⟩ rfl hl.1 rfl (Nat.le_of_ble_eq_true rfl) dX12_again_3 ⟨Nat.le_of_ble_eq_true rfl, Nat.le_of_ble_eq_true rfl⟩) hS (fun r9 u H locs hp hM hS => ?_)
  obtain ⟨b1, rfl, rfl, hw⟩ := hp
  refine lv_if_eq (tgt := 18) hx hb dX12_again_6 (by decide) (fun cq => ?_) (fun cq => ?_)
  · have hw := hw.1 (bI_f cq)
    refine lv_iconst (v := 0) hx hb dX12_again_18 (by decide) ?_
    exact m_retz hx hb hr hlk (Or.inl rfl) hM hS ⟨false, rfl, _, rfl, hw⟩ dX12_again_19
  · have hw := hw.2 (bI_t cq)
    refine lv_aload_n hx hb dX12_again_9 rfl (lv_at hl 0 rfl) ?_
    refine m_getr E hM fs_X12_13 ho.1 (isO_at ho 1 rfl).1 dX12_again_10 ?_
    refine lv_iload_n hx hb dX12_again_13 rfl (lv_at hl 1 rfl) ?_
    obtain ⟨hv, hw⟩ := hw
    refine m_zald E hM (isO_at ho 1 rfl).2 hv dX12_again_14 ?_
    refine lv_if_ne (tgt := 20) hx hb dX12_again_15 (by decide) (fun cq => ?_) (fun cq => ?_)
    · have hw := hw.1 cq
      refine lv_iconst (v := 0) hx hb dX12_again_20 (by decide) ?_
      refine lv_istore_n (lv' := [(2, .int 0), (0, .ref (ad bs o)), (1, .int a1)]) hx hb dX12_again_21 rfl hl (by decide) rfl (fun ls hl => ?_)
      exact s_X12_again_22 E hr hlk ho  hw hM hS (lv_sub hl [1, 2, 0] rfl)
    · have hw := hw.2 cq
      refine lv_iconst (v := 0) hx hb dX12_again_18 (by decide) ?_
      exact m_retz hx hb hr hlk (Or.inl rfl) hM hS ⟨false, rfl, _, rfl, hw⟩ dX12_again_19
