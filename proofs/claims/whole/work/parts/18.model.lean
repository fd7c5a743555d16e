theorem dX12_houseLine_0 : decode cX12_houseLine 0 = .ok (.aload_n 0, 1) := by decide +kernel
theorem dX12_houseLine_1 : decode cX12_houseLine 1 = .ok (.getfield 99, 3) := by decide +kernel
theorem dX12_houseLine_4 : decode cX12_houseLine 4 = .ok (.istore_n 1, 1) := by decide +kernel
theorem dX12_houseLine_5 : decode cX12_houseLine 5 = .ok (.aload_n 0, 1) := by decide +kernel
theorem dX12_houseLine_6 : decode cX12_houseLine 6 = .ok (.iconst 1, 1) := by decide +kernel
theorem dX12_houseLine_7 : decode cX12_houseLine 7 = .ok (.bipush 7, 2) := by decide +kernel
theorem dX12_houseLine_9 : decode cX12_houseLine 9 = .ok (.invokevirtual 161, 3) := by decide +kernel
theorem dX12_houseLine_12 : decode cX12_houseLine 12 = .ok (.istore_n 2, 1) := by decide +kernel
theorem dX12_houseLine_13 : decode cX12_houseLine 13 = .ok (.iload_n 2, 1) := by decide +kernel
theorem dX12_houseLine_14 : decode cX12_houseLine 14 = .ok (.iconst 1, 1) := by decide +kernel
theorem dX12_houseLine_15 : decode cX12_houseLine 15 = .ok (.if_icmp .ne 16, 3) := by decide +kernel
theorem dX12_houseLine_18 : decode cX12_houseLine 18 = .ok (.aload_n 0, 1) := by decide +kernel
theorem dX12_houseLine_19 : decode cX12_houseLine 19 = .ok (.getfield 17, 3) := by decide +kernel
theorem dX12_houseLine_22 : decode cX12_houseLine 22 = .ok (.iconst 0, 1) := by decide +kernel
theorem dX12_houseLine_23 : decode cX12_houseLine 23 = .ok (.aload_n 0, 1) := by decide +kernel
theorem dX12_houseLine_24 : decode cX12_houseLine 24 = .ok (.iconst 2, 1) := by decide +kernel
theorem dX12_houseLine_25 : decode cX12_houseLine 25 = .ok (.bipush 24, 2) := by decide +kernel
theorem dX12_houseLine_27 : decode cX12_houseLine 27 = .ok (.invokevirtual 144, 3) := by decide +kernel
theorem dX12_houseLine_30 : decode cX12_houseLine 30 = .ok (.iastore, 1) := by decide +kernel
theorem dX12_houseLine_31 : decode cX12_houseLine 31 = .ok (.iload_n 2, 1) := by decide +kernel
theorem dX12_houseLine_32 : decode cX12_houseLine 32 = .ok (.iconst 2, 1) := by decide +kernel
theorem dX12_houseLine_33 : decode cX12_houseLine 33 = .ok (.if_icmp .ne 16, 3) := by decide +kernel
theorem dX12_houseLine_36 : decode cX12_houseLine 36 = .ok (.aload_n 0, 1) := by decide +kernel
theorem dX12_houseLine_37 : decode cX12_houseLine 37 = .ok (.getfield 17, 3) := by decide +kernel
theorem dX12_houseLine_40 : decode cX12_houseLine 40 = .ok (.iconst 1, 1) := by decide +kernel
theorem dX12_houseLine_41 : decode cX12_houseLine 41 = .ok (.aload_n 0, 1) := by decide +kernel
theorem dX12_houseLine_42 : decode cX12_houseLine 42 = .ok (.iconst 0, 1) := by decide +kernel
theorem dX12_houseLine_43 : decode cX12_houseLine 43 = .ok (.bipush 99, 2) := by decide +kernel
theorem dX12_houseLine_45 : decode cX12_houseLine 45 = .ok (.invokevirtual 144, 3) := by decide +kernel
theorem dX12_houseLine_48 : decode cX12_houseLine 48 = .ok (.iastore, 1) := by decide +kernel
theorem dX12_houseLine_49 : decode cX12_houseLine 49 = .ok (.iload_n 2, 1) := by decide +kernel
theorem dX12_houseLine_50 : decode cX12_houseLine 50 = .ok (.iconst 3, 1) := by decide +kernel
theorem dX12_houseLine_51 : decode cX12_houseLine 51 = .ok (.if_icmp .ne 23, 3) := by decide +kernel
theorem dX12_houseLine_54 : decode cX12_houseLine 54 = .ok (.aload_n 0, 1) := by decide +kernel
theorem dX12_houseLine_55 : decode cX12_houseLine 55 = .ok (.invokevirtual 154, 3) := by decide +kernel
theorem dX12_houseLine_58 : decode cX12_houseLine 58 = .ok (.istore_n 3, 1) := by decide +kernel
theorem dX12_houseLine_59 : decode cX12_houseLine 59 = .ok (.aload_n 0, 1) := by decide +kernel
theorem dX12_houseLine_60 : decode cX12_houseLine 60 = .ok (.getfield 17, 3) := by decide +kernel
theorem dX12_houseLine_63 : decode cX12_houseLine 63 = .ok (.iconst 5, 1) := by decide +kernel
theorem dX12_houseLine_64 : decode cX12_houseLine 64 = .ok (.iload_n 3, 1) := by decide +kernel
theorem dX12_houseLine_65 : decode cX12_houseLine 65 = .ok (.iadd, 1) := by decide +kernel
theorem dX12_houseLine_66 : decode cX12_houseLine 66 = .ok (.aload_n 0, 1) := by decide +kernel
theorem dX12_houseLine_67 : decode cX12_houseLine 67 = .ok (.iconst 0, 1) := by decide +kernel
theorem dX12_houseLine_68 : decode cX12_houseLine 68 = .ok (.bipush 9, 2) := by decide +kernel
theorem dX12_houseLine_70 : decode cX12_houseLine 70 = .ok (.invokevirtual 144, 3) := by decide +kernel
theorem dX12_houseLine_73 : decode cX12_houseLine 73 = .ok (.iastore, 1) := by decide +kernel
theorem dX12_houseLine_74 : decode cX12_houseLine 74 = .ok (.iload_n 2, 1) := by decide +kernel
theorem dX12_houseLine_75 : decode cX12_houseLine 75 = .ok (.iconst 4, 1) := by decide +kernel
theorem dX12_houseLine_76 : decode cX12_houseLine 76 = .ok (.if_icmp .ne 8, 3) := by decide +kernel
theorem dX12_houseLine_79 : decode cX12_houseLine 79 = .ok (.aload_n 0, 1) := by decide +kernel
theorem dX12_houseLine_80 : decode cX12_houseLine 80 = .ok (.iload_n 1, 1) := by decide +kernel
theorem dX12_houseLine_81 : decode cX12_houseLine 81 = .ok (.invokevirtual 164, 3) := by decide +kernel
theorem dX12_houseLine_84 : decode cX12_houseLine 84 = .ok (.iload_n 2, 1) := by decide +kernel
theorem dX12_houseLine_85 : decode cX12_houseLine 85 = .ok (.iconst 5, 1) := by decide +kernel
theorem dX12_houseLine_86 : decode cX12_houseLine 86 = .ok (.if_icmp .ne 8, 3) := by decide +kernel
theorem dX12_houseLine_89 : decode cX12_houseLine 89 = .ok (.aload_n 0, 1) := by decide +kernel
theorem dX12_houseLine_90 : decode cX12_houseLine 90 = .ok (.iload_n 1, 1) := by decide +kernel
theorem dX12_houseLine_91 : decode cX12_houseLine 91 = .ok (.invokevirtual 168, 3) := by decide +kernel
theorem dX12_houseLine_94 : decode cX12_houseLine 94 = .ok (.iload_n 2, 1) := by decide +kernel
theorem dX12_houseLine_95 : decode cX12_houseLine 95 = .ok (.bipush 6, 2) := by decide +kernel
theorem dX12_houseLine_97 : decode cX12_houseLine 97 = .ok (.if_icmp .ne 7, 3) := by decide +kernel
theorem dX12_houseLine_100 : decode cX12_houseLine 100 = .ok (.aload_n 0, 1) := by decide +kernel
theorem dX12_houseLine_101 : decode cX12_houseLine 101 = .ok (.invokevirtual 171, 3) := by decide +kernel
theorem dX12_houseLine_104 : decode cX12_houseLine 104 = .ok (.iload_n 2, 1) := by decide +kernel
theorem dX12_houseLine_105 : decode cX12_houseLine 105 = .ok (.bipush 7, 2) := by decide +kernel
theorem dX12_houseLine_107 : decode cX12_houseLine 107 = .ok (.if_icmp .ne 8, 3) := by decide +kernel
theorem dX12_houseLine_110 : decode cX12_houseLine 110 = .ok (.aload_n 0, 1) := by decide +kernel
theorem dX12_houseLine_111 : decode cX12_houseLine 111 = .ok (.iload_n 1, 1) := by decide +kernel
theorem dX12_houseLine_112 : decode cX12_houseLine 112 = .ok (.invokevirtual 174, 3) := by decide +kernel
theorem dX12_houseLine_115 : decode cX12_houseLine 115 = .ok (.aload_n 0, 1) := by decide +kernel
theorem dX12_houseLine_116 : decode cX12_houseLine 116 = .ok (.invokevirtual 177, 3) := by decide +kernel
theorem dX12_houseLine_119 : decode cX12_houseLine 119 = .ok (.return_, 1) := by decide +kernel
def w_X12_houseLine_115 (o : Nat) (post : mI → Prop) (I : mI) : Prop := w_X12_endsLine I o (fun I19 => post I19)
set_option maxRecDepth 100000 in
set_option maxHeartbeats 4000000 in
theorem s_X12_houseLine_115 {p : Program} {l : Launch} {e : Env} {s : State} {m : MethodId} {args : Array Value} {below : List Frame} {meth : Method} {c : Code} {D : va_G} {cA : Nat → ClassId} {Z : mZ} {bs : Ad} {n : Nat} {K : mK} {R : mR} {L : mL} (E : Ev p s m args c cX12_houseLine 4 RX12 D cA Z bs) (hr : meth.sig.returnType = none) (hlk : meth.locks = false) {o : Nat} (ho : isX12 K R o) {post : mI → Prop} {I : mI} {H : Heap} {locs : List Loc} {ls : Array Slot} (hw : w_X12_houseLine_115 o post I) (hM : mm D cA bs (n, K, R, I, L) H) (hS : va_S (Ab bs) s.heap H locs) (hl : lv_has ls 4 [(0, .ref (ad bs o))]) : W p l e ({ frames := 7, cells := 0, slots := 0, locals := 164 } : Room) s m args below meth c H locs 0 0 (MQ below (QV D cA bs (fun u => ∃ I', u = (n, K, R, I', L) ∧ post I')) args s 0 0 (Ab bs)) (F0 m 115 ls []) := by
  have hx := E.1.1
  have hb := E.1.2.1
  refine lv_aload_n hx hb dX12_houseLine_115 rfl (lv_at hl 0 rfl) ?_
  refine m_cv (m_runV E hM hS cs_X12_177 ho.1 (by decide) rfl rfl (c_X12_endsLine ho hw) rfl rfl ⟨Nat.le_of_ble_eq_true rfl, Nat.le_of_ble_eq_true rfl⟩ rfl hl.1 rfl (Nat.le_of_ble_eq_true rfl) dX12_houseLine_116 ⟨Nat.le_of_ble_eq_true rfl, Nat.le_of_ble_eq_true rfl⟩) hS (fun u H locs hp hM hS => ?_)
  obtain ⟨I19, rfl, hw⟩ := hp
  exact m_retv hx hb hr hlk hM hS ⟨_, rfl, hw⟩ dX12_houseLine_119
def w_X12_houseLine_104 (o : Nat) (post : mI → Prop) (I : mI) (v1 : Int32) (v2 : Int32) : Prop := (¬ v2 = 7 → (w_X12_houseLine_115 o post) I) ∧ (v2 = 7 → w_X12_changeLine I o v1 (fun I18 => (w_X12_houseLine_115 o post) I18))
set_option maxRecDepth 100000 in
set_option maxHeartbeats 4000000 in
theorem s_X12_houseLine_104 {p : Program} {l : Launch} {e : Env} {s : State} {m : MethodId} {args : Array Value} {below : List Frame} {meth : Method} {c : Code} {D : va_G} {cA : Nat → ClassId} {Z : mZ} {bs : Ad} {n : Nat} {K : mK} {R : mR} {L : mL} (E : Ev p s m args c cX12_houseLine 4 RX12 D cA Z bs) (hr : meth.sig.returnType = none) (hlk : meth.locks = false) {o : Nat} (ho : isX12 K R o) {post : mI → Prop} {I : mI} {v1 : Int32} {v2 : Int32} {H : Heap} {locs : List Loc} {ls : Array Slot} (hw : w_X12_houseLine_104 o post I v1 v2) (hM : mm D cA bs (n, K, R, I, L) H) (hS : va_S (Ab bs) s.heap H locs) (hl : lv_has ls 4 [(0, .ref (ad bs o)), (1, .int v1), (2, .int v2)]) : W p l e ({ frames := 7, cells := 0, slots := 0, locals := 164 } : Room) s m args below meth c H locs 0 0 (MQ below (QV D cA bs (fun u => ∃ I', u = (n, K, R, I', L) ∧ post I')) args s 0 0 (Ab bs)) (F0 m 104 ls []) := by
  have hx := E.1.1
  have hb := E.1.2.1
  refine lv_iload_n hx hb dX12_houseLine_104 rfl (lv_at hl 2 rfl) ?_
  refine lv_bipush (v := 7) hx hb dX12_houseLine_105 (by decide) ?_
  refine lv_icmp_ne (tgt := 115) hx hb dX12_houseLine_107 (by decide) (fun cq => ?_) (fun cq => ?_)
  · have hw := hw.1 cq
    exact s_X12_houseLine_115 E hr hlk ho  hw hM hS (lv_sub hl [0] rfl)
  · have hw := hw.2 cq
    refine lv_aload_n hx hb dX12_houseLine_110 rfl (lv_at hl 0 rfl) ?_
    refine lv_iload_n hx hb dX12_houseLine_111 rfl (lv_at hl 1 rfl) ?_
    refine m_cv (m_runV E hM hS cs_X12_174 ho.1 (by decide) rfl rfl (c_X12_changeLine ho hw) rfl rfl ⟨Nat.le_of_ble_eq_true rfl, Nat.le_of_ble_eq_true rfl⟩ rfl hl.1 rfl (Nat.le_of_ble_eq_true rfl) dX12_houseLine_112 ⟨Nat.le_of_ble_eq_true rfl, Nat.le_of_ble_eq_true rfl⟩) hS (fun u H locs hp hM hS => ?_)
    obtain ⟨I18, rfl, hw⟩ := hp
    exact s_X12_houseLine_115 E hr hlk ho  hw hM hS (lv_sub hl [0] rfl)
def w_X12_houseLine_94 (o : Nat) (post : mI → Prop) (I : mI) (v1 : Int32) (v2 : Int32) : Prop := (¬ v2 = 6 → (w_X12_houseLine_104 o post) I v1 v2) ∧ (v2 = 6 → w_X12_walkLine I o (fun I17 => (w_X12_houseLine_104 o post) I17 v1 v2))
set_option maxRecDepth 100000 in
set_option maxHeartbeats 4000000 in
theorem s_X12_houseLine_94 {p : Program} {l : Launch} {e : Env} {s : State} {m : MethodId} {args : Array Value} {below : List Frame} {meth : Method} {c : Code} {D : va_G} {cA : Nat → ClassId} {Z : mZ} {bs : Ad} {n : Nat} {K : mK} {R : mR} {L : mL} (E : Ev p s m args c cX12_houseLine 4 RX12 D cA Z bs) (hr : meth.sig.returnType = none) (hlk : meth.locks = false) {o : Nat} (ho : isX12 K R o) {post : mI → Prop} {I : mI} {v1 : Int32} {v2 : Int32} {H : Heap} {locs : List Loc} {ls : Array Slot} (hw : w_X12_houseLine_94 o post I v1 v2) (hM : mm D cA bs (n, K, R, I, L) H) (hS : va_S (Ab bs) s.heap H locs) (hl : lv_has ls 4 [(0, .ref (ad bs o)), (1, .int v1), (2, .int v2)]) : W p l e ({ frames := 7, cells := 0, slots := 0, locals := 164 } : Room) s m args below meth c H locs 0 0 (MQ below (QV D cA bs (fun u => ∃ I', u = (n, K, R, I', L) ∧ post I')) args s 0 0 (Ab bs)) (F0 m 94 ls []) := by
  have hx := E.1.1
  have hb := E.1.2.1
  refine lv_iload_n hx hb dX12_houseLine_94 rfl (lv_at hl 2 rfl) ?_
  refine lv_bipush (v := 6) hx hb dX12_houseLine_95 (by decide) ?_
  refine lv_icmp_ne (tgt := 104) hx hb dX12_houseLine_97 (by decide) (fun cq => ?_) (fun cq => ?_)
  · have hw := hw.1 cq
    exact s_X12_houseLine_104 E hr hlk ho  hw hM hS (lv_sub hl [0, 1, 2] rfl)
  · have hw := hw.2 cq
    refine lv_aload_n hx hb dX12_houseLine_100 rfl (lv_at hl 0 rfl) ?_
    refine m_cv (m_runV E hM hS cs_X12_171 ho.1 (by decide) rfl rfl (c_X12_walkLine ho hw) rfl rfl ⟨Nat.le_of_ble_eq_true rfl, Nat.le_of_ble_eq_true rfl⟩ rfl hl.1 rfl (Nat.le_of_ble_eq_true rfl) dX12_houseLine_101 ⟨Nat.le_of_ble_eq_true rfl, Nat.le_of_ble_eq_true rfl⟩) hS (fun u H locs hp hM hS => ?_)
    obtain ⟨I17, rfl, hw⟩ := hp
    exact s_X12_houseLine_104 E hr hlk ho  hw hM hS (lv_sub hl [0, 1, 2] rfl)
def w_X12_houseLine_84 (o : Nat) (post : mI → Prop) (I : mI) (v1 : Int32) (v2 : Int32) : Prop := (¬ v2 = 5 → (w_X12_houseLine_94 o post) I v1 v2) ∧ (v2 = 5 → w_X12_personLine I o v1 (fun I16 => (w_X12_houseLine_94 o post) I16 v1 v2))
set_option maxRecDepth 100000 in
set_option maxHeartbeats 4000000 in
theorem s_X12_houseLine_84 {p : Program} {l : Launch} {e : Env} {s : State} {m : MethodId} {args : Array Value} {below : List Frame} {meth : Method} {c : Code} {D : va_G} {cA : Nat → ClassId} {Z : mZ} {bs : Ad} {n : Nat} {K : mK} {R : mR} {L : mL} (E : Ev p s m args c cX12_houseLine 4 RX12 D cA Z bs) (hr : meth.sig.returnType = none) (hlk : meth.locks = false) {o : Nat} (ho : isX12 K R o) {post : mI → Prop} {I : mI} {v1 : Int32} {v2 : Int32} {H : Heap} {locs : List Loc} {ls : Array Slot} (hw : w_X12_houseLine_84 o post I v1 v2) (hM : mm D cA bs (n, K, R, I, L) H) (hS : va_S (Ab bs) s.heap H locs) (hl : lv_has ls 4 [(0, .ref (ad bs o)), (1, .int v1), (2, .int v2)]) : W p l e ({ frames := 7, cells := 0, slots := 0, locals := 164 } : Room) s m args below meth c H locs 0 0 (MQ below (QV D cA bs (fun u => ∃ I', u = (n, K, R, I', L) ∧ post I')) args s 0 0 (Ab bs)) (F0 m 84 ls []) := by
  have hx := E.1.1
  have hb := E.1.2.1
  refine lv_iload_n hx hb dX12_houseLine_84 rfl (lv_at hl 2 rfl) ?_
  refine lv_iconst (v := 5) hx hb dX12_houseLine_85 (by decide) ?_
  refine lv_icmp_ne (tgt := 94) hx hb dX12_houseLine_86 (by decide) (fun cq => ?_) (fun cq => ?_)
  · have hw := hw.1 cq
    exact s_X12_houseLine_94 E hr hlk ho  hw hM hS (lv_sub hl [0, 1, 2] rfl)
  · have hw := hw.2 cq
    refine lv_aload_n hx hb dX12_houseLine_89 rfl (lv_at hl 0 rfl) ?_
    refine lv_iload_n hx hb dX12_houseLine_90 rfl (lv_at hl 1 rfl) ?_
    refine m_cv (m_runV E hM hS cs_X12_168 ho.1 (by decide) rfl rfl (c_X12_personLine ho hw) rfl rfl ⟨Nat.le_of_ble_eq_true rfl, Nat.le_of_ble_eq_true rfl⟩ rfl hl.1 rfl (Nat.le_of_ble_eq_true rfl) dX12_houseLine_91 ⟨Nat.le_of_ble_eq_true rfl, Nat.le_of_ble_eq_true rfl⟩) hS (fun u H locs hp hM hS => ?_)
    obtain ⟨I16, rfl, hw⟩ := hp
    exact s_X12_houseLine_94 E hr hlk ho  hw hM hS (lv_sub hl [0, 1, 2] rfl)
def w_X12_houseLine_74 (o : Nat) (post : mI → Prop) (I : mI) (v1 : Int32) (v2 : Int32) : Prop := (¬ v2 = 4 → (w_X12_houseLine_84 o post) I v1 v2) ∧ (v2 = 4 → w_X12_flatLine I o v1 (fun I15 => (w_X12_houseLine_84 o post) I15 v1 v2))
set_option maxRecDepth 100000 in
set_option maxHeartbeats 4000000 in
theorem s_X12_houseLine_74 {p : Program} {l : Launch} {e : Env} {s : State} {m : MethodId} {args : Array Value} {below : List Frame} {meth : Method} {c : Code} {D : va_G} {cA : Nat → ClassId} {Z : mZ} {bs : Ad} {n : Nat} {K : mK} {R : mR} {L : mL} (E : Ev p s m args c cX12_houseLine 4 RX12 D cA Z bs) (hr : meth.sig.returnType = none) (hlk : meth.locks = false) {o : Nat} (ho : isX12 K R o) {post : mI → Prop} {I : mI} {v1 : Int32} {v2 : Int32} {H : Heap} {locs : List Loc} {ls : Array Slot} (hw : w_X12_houseLine_74 o post I v1 v2) (hM : mm D cA bs (n, K, R, I, L) H) (hS : va_S (Ab bs) s.heap H locs) (hl : lv_has ls 4 [(0, .ref (ad bs o)), (1, .int v1), (2, .int v2)]) : W p l e ({ frames := 7, cells := 0, slots := 0, locals := 164 } : Room) s m args below meth c H locs 0 0 (MQ below (QV D cA bs (fun u => ∃ I', u = (n, K, R, I', L) ∧ post I')) args s 0 0 (Ab bs)) (F0 m 74 ls []) := by
  have hx := E.1.1
  have hb := E.1.2.1
  refine lv_iload_n hx hb dX12_houseLine_74 rfl (lv_at hl 2 rfl) ?_
  refine lv_iconst (v := 4) hx hb dX12_houseLine_75 (by decide) ?_
  refine lv_icmp_ne (tgt := 84) hx hb dX12_houseLine_76 (by decide) (fun cq => ?_) (fun cq => ?_)
  · have hw := hw.1 cq
    exact s_X12_houseLine_84 E hr hlk ho  hw hM hS (lv_sub hl [0, 1, 2] rfl)
  · have hw := hw.2 cq
    refine lv_aload_n hx hb dX12_houseLine_79 rfl (lv_at hl 0 rfl) ?_
    refine lv_iload_n hx hb dX12_houseLine_80 rfl (lv_at hl 1 rfl) ?_
    refine m_cv (m_runV E hM hS cs_X12_164 ho.1 (by decide) rfl rfl (c_X12_flatLine ho hw) rfl rfl ⟨Nat.le_of_ble_eq_true rfl, Nat.le_of_ble_eq_true rfl⟩ rfl hl.1 rfl (Nat.le_of_ble_eq_true rfl) dX12_houseLine_81 ⟨Nat.le_of_ble_eq_true rfl, Nat.le_of_ble_eq_true rfl⟩) hS (fun u H locs hp hM hS => ?_)
    obtain ⟨I15, rfl, hw⟩ := hp
    exact s_X12_houseLine_84 E hr hlk ho  hw hM hS (lv_sub hl [0, 1, 2] rfl)
def w_X12_houseLine_49 (o : Nat) (post : mI → Prop) (I : mI) (v1 : Int32) (v2 : Int32) : Prop := (¬ v2 = 3 → (w_X12_houseLine_74 o post) I v1 v2) ∧ (v2 = 3 → w_X12_stepTold I o (fun r10 I11 => w_X12_numbered I11 o 0 9 (fun r12 I13 => vp_in (5 + r10) 149 ∧ ∀ I14, I14 = up2 I13 (o + 3) ((5 + r10).toNatClampNeg) r12 → (w_X12_houseLine_74 o post) I14 v1 v2)))
set_option maxRecDepth 100000 in
set_option maxHeartbeats 4000000 in
theorem s_X12_houseLine_49 {p : Program} {l : Launch} {e : Env} {s : State} {m : MethodId} {args : Array Value} {below : List Frame} {meth : Method} {c : Code} {D : va_G} {cA : Nat → ClassId} {Z : mZ} {bs : Ad} {n : Nat} {K : mK} {R : mR} {L : mL} (E : Ev p s m args c cX12_houseLine 4 RX12 D cA Z bs) (hr : meth.sig.returnType = none) (hlk : meth.locks = false) {o : Nat} (ho : isX12 K R o) {post : mI → Prop} {I : mI} {v1 : Int32} {v2 : Int32} {H : Heap} {locs : List Loc} {ls : Array Slot} (hw : w_X12_houseLine_49 o post I v1 v2) (hM : mm D cA bs (n, K, R, I, L) H) (hS : va_S (Ab bs) s.heap H locs) (hl : lv_has ls 4 [(0, .ref (ad bs o)), (1, .int v1), (2, .int v2)]) : W p l e ({ frames := 7, cells := 0, slots := 0, locals := 164 } : Room) s m args below meth c H locs 0 0 (MQ below (QV D cA bs (fun u => ∃ I', u = (n, K, R, I', L) ∧ post I')) args s 0 0 (Ab bs)) (F0 m 49 ls []) := by
  have hx := E.1.1
  have hb := E.1.2.1
  refine lv_iload_n hx hb dX12_houseLine_49 rfl (lv_at hl 2 rfl) ?_
  refine lv_iconst (v := 3) hx hb dX12_houseLine_50 (by decide) ?_
  refine lv_icmp_ne (tgt := 74) hx hb dX12_houseLine_51 (by decide) (fun cq => ?_) (fun cq => ?_)
  · have hw := hw.1 cq
    exact s_X12_houseLine_74 E hr hlk ho  hw hM hS (lv_sub hl [0, 1, 2] rfl)
  · have hw := hw.2 cq
    refine lv_aload_n hx hb dX12_houseLine_54 rfl (lv_at hl 0 rfl) ?_
    refine m_ci (m_runV E hM hS cs_X12_154 ho.1 (by decide) rfl rfl (c_X12_stepTold ho hw) rfl rfl ⟨Nat.le_of_ble_eq_true rfl, Nat.le_of_ble_eq_true rfl⟩ rfl hl.1 rfl (Nat.le_of_ble_eq_true rfl) dX12_houseLine_55 ⟨Nat.le_of_ble_eq_true rfl, Nat.le_of_ble_eq_true rfl⟩) hS (fun r10 u H locs hp hM hS => ?_)
    obtain ⟨I11, rfl, hw⟩ := hp
    refine lv_istore_n (lv' := [(3, .int r10), (0, .ref (ad bs o)), (1, .int v1), (2, .int v2)]) hx hb dX12_houseLine_58 rfl hl (by decide) rfl (fun ls hl => ?_)
    refine lv_aload_n hx hb dX12_houseLine_59 rfl (lv_at hl 1 rfl) ?_
    refine m_getr E hM fs_X12_17 ho.1 (isO_at ho 2 rfl).1 dX12_houseLine_60 ?_
    refine lv_iconst (v := 5) hx hb dX12_houseLine_63 (by decide) ?_
    refine lv_iload_n hx hb dX12_houseLine_64 rfl (lv_at hl 0 rfl) ?_
    refine lv_iadd hx hb dX12_houseLine_65 ?_
    refine lv_aload_n hx hb dX12_houseLine_66 rfl (lv_at hl 1 rfl) ?_
    refine lv_iconst (v := 0) hx hb dX12_houseLine_67 (by decide) ?_
    refine lv_bipush (v := 9) hx hb dX12_houseLine_68 (by decide) ?_
    refine m_ci (m_runV E hM hS cs_X12_144 ho.1 (by decide) rfl rfl (c_X12_numbered ho hw) rfl rfl ⟨Nat.le_of_ble_eq_true rfl, Nat.le_of_ble_eq_true rfl⟩ rfl hl.1 rfl (Nat.le_of_ble_eq_true rfl) dX12_houseLine_70 ⟨Nat.le_of_ble_eq_true rfl, Nat.le_of_ble_eq_true rfl⟩) hS (fun r12 u H locs hp hM hS => ?_)
    obtain ⟨I13, rfl, hw⟩ := hp
    obtain ⟨hv, hw⟩ := hw
    refine m_iast E hM hS (isO_at ho 2 rfl).2 hv dX12_houseLine_73 (fun I14 H locs eI14 hM hS => ?_)
    have hw := hw I14 eI14
    exact s_X12_houseLine_74 E hr hlk ho  hw hM hS (lv_sub hl [1, 2, 3] rfl)
def w_X12_houseLine_31 (o : Nat) (post : mI → Prop) (I : mI) (v1 : Int32) (v2 : Int32) : Prop := (¬ v2 = 2 → (w_X12_houseLine_49 o post) I v1 v2) ∧ (v2 = 2 → w_X12_numbered I o 0 99 (fun r7 I8 => ∀ I9, I9 = up2 I8 (o + 3) ((1 : Int32).toNatClampNeg) r7 → (w_X12_houseLine_49 o post) I9 v1 v2))
set_option maxRecDepth 100000 in
set_option maxHeartbeats 4000000 in
theorem s_X12_houseLine_31 {p : Program} {l : Launch} {e : Env} {s : State} {m : MethodId} {args : Array Value} {below : List Frame} {meth : Method} {c : Code} {D : va_G} {cA : Nat → ClassId} {Z : mZ} {bs : Ad} {n : Nat} {K : mK} {R : mR} {L : mL} (E : Ev p s m args c cX12_houseLine 4 RX12 D cA Z bs) (hr : meth.sig.returnType = none) (hlk : meth.locks = false) {o : Nat} (ho : isX12 K R o) {post : mI → Prop} {I : mI} {v1 : Int32} {v2 : Int32} {H : Heap} {locs : List Loc} {ls : Array Slot} (hw : w_X12_houseLine_31 o post I v1 v2) (hM : mm D cA bs (n, K, R, I, L) H) (hS : va_S (Ab bs) s.heap H locs) (hl : lv_has ls 4 [(0, .ref (ad bs o)), (1, .int v1), (2, .int v2)]) : W p l e ({ frames := 7, cells := 0, slots := 0, locals := 164 } : Room) s m args below meth c H locs 0 0 (MQ below (QV D cA bs (fun u => ∃ I', u = (n, K, R, I', L) ∧ post I')) args s 0 0 (Ab bs)) (F0 m 31 ls []) := by
  have hx := E.1.1
  have hb := E.1.2.1
  refine lv_iload_n hx hb dX12_houseLine_31 rfl (lv_at hl 2 rfl) ?_
  refine lv_iconst (v := 2) hx hb dX12_houseLine_32 (by decide) ?_
  refine lv_icmp_ne (tgt := 49) hx hb dX12_houseLine_33 (by decide) (fun cq => ?_) (fun cq => ?_)
  · have hw := hw.1 cq
    exact s_X12_houseLine_49 E hr hlk ho  hw hM hS (lv_sub hl [0, 1, 2] rfl)
  · have hw := hw.2 cq
    refine lv_aload_n hx hb dX12_houseLine_36 rfl (lv_at hl 0 rfl) ?_
    refine m_getr E hM fs_X12_17 ho.1 (isO_at ho 2 rfl).1 dX12_houseLine_37 ?_
    refine lv_iconst (v := 1) hx hb dX12_houseLine_40 (by decide) ?_
    refine lv_aload_n hx hb dX12_houseLine_41 rfl (lv_at hl 0 rfl) ?_
    refine lv_iconst (v := 0) hx hb dX12_houseLine_42 (by decide) ?_
    refine lv_bipush (v := 99) hx hb dX12_houseLine_43 (by decide) ?_
    refine m_ci (m_runV E hM hS cs_X12_144 ho.1 (by decide) rfl rfl (c_X12_numbered ho hw) rfl rfl ⟨Nat.le_of_ble_eq_true rfl, Nat.le_of_ble_eq_true rfl⟩ rfl hl.1 rfl (Nat.le_of_ble_eq_true rfl) dX12_houseLine_45 ⟨Nat.le_of_ble_eq_true rfl, Nat.le_of_ble_eq_true rfl⟩) hS (fun r7 u H locs hp hM hS => ?_)
    obtain ⟨I8, rfl, hw⟩ := hp
    refine m_iast E hM hS (isO_at ho 2 rfl).2 (by unfold vp_in; decide) dX12_houseLine_48 (fun I9 H locs eI9 hM hS => ?_)
    have hw := hw I9 eI9
    exact s_X12_houseLine_49 E hr hlk ho  hw hM hS (lv_sub hl [0, 1, 2] rfl)
def w_X12_houseLine (I : mI) (o : Nat) (post : mI → Prop) : Prop := ∀ x1, x1 = (I o 4) → w_X12_takes I o 1 7 (fun r2 I3 => (¬ r2 = 1 → (w_X12_houseLine_31 o post) I3 x1 r2) ∧ (r2 = 1 → w_X12_numbered I3 o 2 24 (fun r4 I5 => ∀ I6, I6 = up2 I5 (o + 3) ((0 : Int32).toNatClampNeg) r4 → (w_X12_houseLine_31 o post) I6 x1 r2)))
set_option maxRecDepth 100000 in
set_option maxHeartbeats 4000000 in
theorem c_X12_houseLine {l : Launch} {D : va_G} {cA : Nat → ClassId} {Z : mZ} {bs : Ad} {n : Nat} {K : mK} {R : mR} {I : mI} {L : mL} {o : Nat} {post : mI → Prop} (ho : isX12 K R o) (hw : w_X12_houseLine I o post) : Met l yX12_houseLine (.code yX12_houseLine cX12_houseLine 4 none :: gw) ({ frames := 7, cells := 0, slots := 0, locals := 164 } : Room) (PreM D cA Z bs (n, K, R, I, L) [.ref (ad bs o)]) (QV D cA bs (fun u => ∃ I', u = (n, K, R, I', L) ∧ post I')) 0 0 (Ab bs) := by
  refine m_met (by decide) (Nat.le_of_ble_eq_true rfl) (fun p e s m below meth c ls E hr hlk hM hS hl => ?_)
  have E : Ev p s m _ c cX12_houseLine 4 RX12 D cA Z bs := E
  have hl : lv_has ls 4 [(0, .ref (ad bs o))] := hl
  have hx := E.1.1
  have hb := E.1.2.1
  generalize hHe : s.heap = H at hM ⊢
  have hS : va_S (Ab bs) s.heap H [] := by rw [← hHe]; exact va_S.rf
  clear hHe
  refine lv_aload_n hx hb dX12_houseLine_0 rfl (lv_at hl 0 rfl) ?_
  refine m_geti E hM fs_X12_99 ho.1 dX12_houseLine_1 ?_
  refine lv_topi (fun x1 ex1 => ?_)
  have hw := hw x1 ex1
  refine lv_istore_n (lv' := [(1, .int x1), (0, .ref (ad bs o))]) hx hb dX12_houseLine_4 rfl hl (by decide) rfl (fun ls hl => ?_)
  refine lv_aload_n hx hb dX12_houseLine_5 rfl (lv_at hl 1 rfl) ?_
  refine lv_iconst (v := 1) hx hb dX12_houseLine_6 (by decide) ?_
  refine lv_bipush (v := 7) hx hb dX12_houseLine_7 (by decide) ?_
  refine m_ci (m_runV E hM hS cs_X12_161 ho.1 (by decide) rfl rfl (c_X12_takes ho hw) rfl rfl ⟨Nat.le_of_ble_eq_true rfl, Nat.le_of_ble_eq_true rfl⟩ rfl hl.1 rfl (Nat.le_of_ble_eq_true rfl) dX12_houseLine_9 ⟨Nat.le_of_ble_eq_true rfl, Nat.le_of_ble_eq_true rfl⟩) hS (fun r2 u H locs hp hM hS => ?_)
  obtain ⟨I3, rfl, hw⟩ := hp
  refine lv_istore_n (lv' := [(2, .int r2), (1, .int x1), (0, .ref (ad bs o))]) hx hb dX12_houseLine_12 rfl hl (by decide) rfl (fun ls hl => ?_)
  refine lv_iload_n hx hb dX12_houseLine_13 rfl (lv_at hl 0 rfl) ?_
  refine lv_iconst (v := 1) hx hb dX12_houseLine_14 (by decide) ?_
  refine lv_icmp_ne (tgt := 31) hx hb dX12_houseLine_15 (by decide) (fun cq => ?_) (fun cq => ?_)
  · have hw := hw.1 cq
    exact s_X12_houseLine_31 E hr hlk ho  hw hM hS (lv_sub hl [2, 1, 0] rfl)
  · have hw := hw.2 cq
    refine lv_aload_n hx hb dX12_houseLine_18 rfl (lv_at hl 2 rfl) ?_
    refine m_getr E hM fs_X12_17 ho.1 (isO_at ho 2 rfl).1 dX12_houseLine_19 ?_
    refine lv_iconst (v := 0) hx hb dX12_houseLine_22 (by decide) ?_
    refine lv_aload_n hx hb dX12_houseLine_23 rfl (lv_at hl 2 rfl) ?_
    refine lv_iconst (v := 2) hx hb dX12_houseLine_24 (by decide) ?_
    refine lv_bipush (v := 24) hx hb dX12_houseLine_25 (by decide) ?_
    refine m_ci (m_runV E hM hS cs_X12_144 ho.1 (by decide) rfl rfl (c_X12_numbered ho hw) rfl rfl ⟨Nat.le_of_ble_eq_true rfl, Nat.le_of_ble_eq_true rfl⟩ rfl hl.1 rfl (Nat.le_of_ble_eq_true rfl) dX12_houseLine_27 ⟨Nat.le_of_ble_eq_true rfl, Nat.le_of_ble_eq_true rfl⟩) hS (fun r4 u H locs hp hM hS => ?_)
    obtain ⟨I5, rfl, hw⟩ := hp
    refine m_iast E hM hS (isO_at ho 2 rfl).2 (by unfold vp_in; decide) dX12_houseLine_30 (fun I6 H locs eI6 hM hS => ?_)
    have hw := hw I6 eI6
    exact s_X12_houseLine_31 E hr hlk ho  hw hM hS (lv_sub hl [2, 1, 0] rfl)
theorem dX12_shoeOrNone_0 : decode cX12_shoeOrNone 0 = .ok (.aload_n 0, 1) := by decide +kernel
theorem dX12_shoeOrNone_1 : decode cX12_shoeOrNone 1 = .ok (.getfield 126, 3) := by decide +kernel
theorem dX12_shoeOrNone_4 : decode cX12_shoeOrNone 4 = .ok (.ifCond .ne 11, 3) := by decide +kernel
theorem dX12_shoeOrNone_7 : decode cX12_shoeOrNone 7 = .ok (.aload_n 0, 1) := by decide +kernel
theorem dX12_shoeOrNone_8 : decode cX12_shoeOrNone 8 = .ok (.getfield 102, 3) := by decide +kernel
theorem dX12_shoeOrNone_11 : decode cX12_shoeOrNone 11 = .ok (.iconst 5, 1) := by decide +kernel
theorem dX12_shoeOrNone_12 : decode cX12_shoeOrNone 12 = .ok (.if_icmp .eq 11, 3) := by decide +kernel
theorem dX12_shoeOrNone_15 : decode cX12_shoeOrNone 15 = .ok (.aload_n 0, 1) := by decide +kernel
theorem dX12_shoeOrNone_16 : decode cX12_shoeOrNone 16 = .ok (.iconst 0, 1) := by decide +kernel
theorem dX12_shoeOrNone_17 : decode cX12_shoeOrNone 17 = .ok (.bipush 9, 2) := by decide +kernel
theorem dX12_shoeOrNone_19 : decode cX12_shoeOrNone 19 = .ok (.invokevirtual 144, 3) := by decide +kernel
theorem dX12_shoeOrNone_22 : decode cX12_shoeOrNone 22 = .ok (.ireturn, 1) := by decide +kernel
theorem dX12_shoeOrNone_23 : decode cX12_shoeOrNone 23 = .ok (.aload_n 0, 1) := by decide +kernel
theorem dX12_shoeOrNone_24 : decode cX12_shoeOrNone 24 = .ok (.invokevirtual 141, 3) := by decide +kernel
theorem dX12_shoeOrNone_27 : decode cX12_shoeOrNone 27 = .ok (.iconst (-1), 1) := by decide +kernel
theorem dX12_shoeOrNone_28 : decode cX12_shoeOrNone 28 = .ok (.ireturn, 1) := by decide +kernel
def w_X12_shoeOrNone_15 (o : Nat) (post : Int32 → mI → Prop) (I : mI) : Prop := w_X12_numbered I o 0 9 (fun r2 I3 => post r2 I3)
set_option maxRecDepth 100000 in
set_option maxHeartbeats 4000000 in
theorem s_X12_shoeOrNone_15 {p : Program} {l : Launch} {e : Env} {s : State} {m : MethodId} {args : Array Value} {below : List Frame} {meth : Method} {c : Code} {D : va_G} {cA : Nat → ClassId} {Z : mZ} {bs : Ad} {n : Nat} {K : mK} {R : mR} {L : mL} (E : Ev p s m args c cX12_shoeOrNone 1 RX12 D cA Z bs) (hr : meth.sig.returnType = (some .int)) (hlk : meth.locks = false) {o : Nat} (ho : isX12 K R o) {post : Int32 → mI → Prop} {I : mI} {H : Heap} {locs : List Loc} {ls : Array Slot} (hw : w_X12_shoeOrNone_15 o post I) (hM : mm D cA bs (n, K, R, I, L) H) (hS : va_S (Ab bs) s.heap H locs) (hl : lv_has ls 1 [(0, .ref (ad bs o))]) : W p l e ({ frames := 5, cells := 0, slots := 0, locals := 117 } : Room) s m args below meth c H locs 0 0 (MQ below (QI D cA bs (fun r u => ∃ I', u = (n, K, R, I', L) ∧ post r I')) args s 0 0 (Ab bs)) (F0 m 15 ls []) := by
  have hx := E.1.1
  have hb := E.1.2.1
  refine lv_aload_n hx hb dX12_shoeOrNone_15 rfl (lv_at hl 0 rfl) ?_
  refine lv_iconst (v := 0) hx hb dX12_shoeOrNone_16 (by decide) ?_
  refine lv_bipush (v := 9) hx hb dX12_shoeOrNone_17 (by decide) ?_
  refine m_ci (m_runV E hM hS cs_X12_144 ho.1 (by decide) rfl rfl (c_X12_numbered ho hw) rfl rfl ⟨Nat.le_of_ble_eq_true rfl, Nat.le_of_ble_eq_true rfl⟩ rfl hl.1 rfl (Nat.le_of_ble_eq_true rfl) dX12_shoeOrNone_19 ⟨Nat.le_of_ble_eq_true rfl, Nat.le_of_ble_eq_true rfl⟩) hS (fun r2 u H locs hp hM hS => ?_)
  obtain ⟨I3, rfl, hw⟩ := hp
  exact m_reti hx hb hr hlk hM hS ⟨_, rfl, hw⟩ dX12_shoeOrNone_22
def w_X12_shoeOrNone (I : mI) (o : Nat) (post : Int32 → mI → Prop) : Prop := (¬ (I o 8) = 0 → (w_X12_shoeOrNone_15 o post) I) ∧ ((I o 8) = 0 → ((I o 5) = 5 → w_X12_advance I o (fun I1 => post (-1) I1)) ∧ (¬ (I o 5) = 5 → (w_X12_shoeOrNone_15 o post) I))
set_option maxRecDepth 100000 in
set_option maxHeartbeats 4000000 in
theorem c_X12_shoeOrNone {l : Launch} {D : va_G} {cA : Nat → ClassId} {Z : mZ} {bs : Ad} {n : Nat} {K : mK} {R : mR} {I : mI} {L : mL} {o : Nat} {post : Int32 → mI → Prop} (ho : isX12 K R o) (hw : w_X12_shoeOrNone I o post) : Met l yX12_shoeOrNone (.code yX12_shoeOrNone cX12_shoeOrNone 1 (some .int) :: gw) ({ frames := 5, cells := 0, slots := 0, locals := 117 } : Room) (PreM D cA Z bs (n, K, R, I, L) [.ref (ad bs o)]) (QI D cA bs (fun r u => ∃ I', u = (n, K, R, I', L) ∧ post r I')) 0 0 (Ab bs) := by
  refine m_met (by decide) (Nat.le_of_ble_eq_true rfl) (fun p e s m below meth c ls E hr hlk hM hS hl => ?_)
  have E : Ev p s m _ c cX12_shoeOrNone 1 RX12 D cA Z bs := E
  have hl : lv_has ls 1 [(0, .ref (ad bs o))] := hl
  have hx := E.1.1
  have hb := E.1.2.1
  generalize hHe : s.heap = H at hM ⊢
  have hS : va_S (Ab bs) s.heap H [] := by rw [← hHe]; exact va_S.rf
  clear hHe
  refine lv_aload_n hx hb dX12_shoeOrNone_0 rfl (lv_at hl 0 rfl) ?_
  refine m_geti E hM fs_X12_126 ho.1 dX12_shoeOrNone_1 ?_
  refine lv_if_ne (tgt := 15) hx hb dX12_shoeOrNone_4 (by decide) (fun cq => ?_) (fun cq => ?_)
  · have hw := hw.1 cq
    exact s_X12_shoeOrNone_15 E hr hlk ho  hw hM hS (lv_sub hl [0] rfl)
  · have hw := hw.2 cq
    refine lv_aload_n hx hb dX12_shoeOrNone_7 rfl (lv_at hl 0 rfl) ?_
    refine m_geti E hM fs_X12_102 ho.1 dX12_shoeOrNone_8 ?_
    refine lv_iconst (v := 5) hx hb dX12_shoeOrNone_11 (by decide) ?_
    refine lv_icmp_eq (tgt := 23) hx hb dX12_shoeOrNone_12 (by decide) (fun cq => ?_) (fun cq => ?_)
    · have hw := hw.1 cq
      refine lv_aload_n hx hb dX12_shoeOrNone_23 rfl (lv_at hl 0 rfl) ?_
      refine m_cv (m_runV E hM hS cs_X12_141 ho.1 (by decide) rfl rfl (c_X12_advance ho hw) rfl rfl ⟨Nat.le_of_ble_eq_true rfl, Nat.le_of_ble_eq_true rfl⟩ rfl hl.1 rfl (Nat.le_of_ble_eq_true rfl) dX12_shoeOrNone_24 ⟨Nat.le_of_ble_eq_true rfl, Nat.le_of_ble_eq_true rfl⟩) hS (fun u H locs hp hM hS => ?_)
      obtain ⟨I1, rfl, hw⟩ := hp
      refine lv_iconst (v := (-1)) hx hb dX12_shoeOrNone_27 (by decide) ?_
      exact m_reti hx hb hr hlk hM hS ⟨_, rfl, hw⟩ dX12_shoeOrNone_28
    · have hw := hw.2 cq
      exact s_X12_shoeOrNone_15 E hr hlk ho  hw hM hS (lv_sub hl [0] rfl)
theorem dX12_soundLine_0 : decode cX12_soundLine 0 = .ok (.aload_n 0, 1) := by decide +kernel
theorem dX12_soundLine_1 : decode cX12_soundLine 1 = .ok (.getfield 99, 3) := by decide +kernel
theorem dX12_soundLine_4 : decode cX12_soundLine 4 = .ok (.istore_n 1, 1) := by decide +kernel
theorem dX12_soundLine_5 : decode cX12_soundLine 5 = .ok (.aload_n 0, 1) := by decide +kernel
theorem dX12_soundLine_6 : decode cX12_soundLine 6 = .ok (.getfield 17, 3) := by decide +kernel
theorem dX12_soundLine_9 : decode cX12_soundLine 9 = .ok (.iconst 0, 1) := by decide +kernel
theorem dX12_soundLine_10 : decode cX12_soundLine 10 = .ok (.iaload, 1) := by decide +kernel
theorem dX12_soundLine_11 : decode cX12_soundLine 11 = .ok (.bipush 10, 2) := by decide +kernel
theorem dX12_soundLine_13 : decode cX12_soundLine 13 = .ok (.if_icmp .ge 7, 3) := by decide +kernel
theorem dX12_soundLine_16 : decode cX12_soundLine 16 = .ok (.iconst 1, 1) := by decide +kernel
theorem dX12_soundLine_17 : decode cX12_soundLine 17 = .ok (.goto 4, 3) := by decide +kernel
theorem dX12_soundLine_20 : decode cX12_soundLine 20 = .ok (.iconst 0, 1) := by decide +kernel
theorem dX12_soundLine_21 : decode cX12_soundLine 21 = .ok (.istore_n 2, 1) := by decide +kernel
theorem dX12_soundLine_22 : decode cX12_soundLine 22 = .ok (.aload_n 0, 1) := by decide +kernel
theorem dX12_soundLine_23 : decode cX12_soundLine 23 = .ok (.bipush 8, 2) := by decide +kernel
theorem dX12_soundLine_25 : decode cX12_soundLine 25 = .ok (.bipush 8, 2) := by decide +kernel
theorem dX12_soundLine_27 : decode cX12_soundLine 27 = .ok (.invokevirtual 161, 3) := by decide +kernel
theorem dX12_soundLine_30 : decode cX12_soundLine 30 = .ok (.bipush 8, 2) := by decide +kernel
theorem dX12_soundLine_32 : decode cX12_soundLine 32 = .ok (.if_icmp .ne 111, 3) := by decide +kernel
theorem dX12_soundLine_35 : decode cX12_soundLine 35 = .ok (.iload_n 2, 1) := by decide +kernel
theorem dX12_soundLine_36 : decode cX12_soundLine 36 = .ok (.ifCond .ne 9, 3) := by decide +kernel
theorem dX12_soundLine_39 : decode cX12_soundLine 39 = .ok (.aload_n 0, 1) := by decide +kernel
theorem dX12_soundLine_40 : decode cX12_soundLine 40 = .ok (.iconst 3, 1) := by decide +kernel
theorem dX12_soundLine_41 : decode cX12_soundLine 41 = .ok (.iload_n 1, 1) := by decide +kernel
theorem dX12_soundLine_42 : decode cX12_soundLine 42 = .ok (.invokevirtual 137, 3) := by decide +kernel
theorem dX12_soundLine_45 : decode cX12_soundLine 45 = .ok (.aload_n 0, 1) := by decide +kernel
theorem dX12_soundLine_46 : decode cX12_soundLine 46 = .ok (.iconst 0, 1) := by decide +kernel
theorem dX12_soundLine_47 : decode cX12_soundLine 47 = .ok (.iconst 5, 1) := by decide +kernel
theorem dX12_soundLine_48 : decode cX12_soundLine 48 = .ok (.invokevirtual 144, 3) := by decide +kernel
theorem dX12_soundLine_51 : decode cX12_soundLine 51 = .ok (.istore_n 3, 1) := by decide +kernel
theorem dX12_soundLine_52 : decode cX12_soundLine 52 = .ok (.aload_n 0, 1) := by decide +kernel
theorem dX12_soundLine_53 : decode cX12_soundLine 53 = .ok (.iconst 0, 1) := by decide +kernel
theorem dX12_soundLine_54 : decode cX12_soundLine 54 = .ok (.bipush 99, 2) := by decide +kernel
theorem dX12_soundLine_56 : decode cX12_soundLine 56 = .ok (.invokevirtual 144, 3) := by decide +kernel
theorem dX12_soundLine_59 : decode cX12_soundLine 59 = .ok (.istore 4, 2) := by decide +kernel
theorem dX12_soundLine_61 : decode cX12_soundLine 61 = .ok (.aload_n 0, 1) := by decide +kernel
theorem dX12_soundLine_62 : decode cX12_soundLine 62 = .ok (.iconst 0, 1) := by decide +kernel
theorem dX12_soundLine_63 : decode cX12_soundLine 63 = .ok (.bipush 9, 2) := by decide +kernel
theorem dX12_soundLine_65 : decode cX12_soundLine 65 = .ok (.invokevirtual 144, 3) := by decide +kernel
theorem dX12_soundLine_68 : decode cX12_soundLine 68 = .ok (.istore 5, 2) := by decide +kernel
theorem dX12_soundLine_70 : decode cX12_soundLine 70 = .ok (.aload_n 0, 1) := by decide +kernel
theorem dX12_soundLine_71 : decode cX12_soundLine 71 = .ok (.invokevirtual 180, 3) := by decide +kernel
theorem dX12_soundLine_74 : decode cX12_soundLine 74 = .ok (.istore 6, 2) := by decide +kernel
theorem dX12_soundLine_76 : decode cX12_soundLine 76 = .ok (.iload_n 2, 1) := by decide +kernel
theorem dX12_soundLine_77 : decode cX12_soundLine 77 = .ok (.ifCond .eq 66, 3) := by decide +kernel
theorem dX12_soundLine_80 : decode cX12_soundLine 80 = .ok (.iconst 1, 1) := by decide +kernel
theorem dX12_soundLine_81 : decode cX12_soundLine 81 = .ok (.iconst 4, 1) := by decide +kernel
theorem dX12_soundLine_82 : decode cX12_soundLine 82 = .ok (.aload_n 0, 1) := by decide +kernel
theorem dX12_soundLine_83 : decode cX12_soundLine 83 = .ok (.getfield 17, 3) := by decide +kernel
theorem dX12_soundLine_86 : decode cX12_soundLine 86 = .ok (.iconst 0, 1) := by decide +kernel
theorem dX12_soundLine_87 : decode cX12_soundLine 87 = .ok (.iaload, 1) := by decide +kernel
theorem dX12_soundLine_88 : decode cX12_soundLine 88 = .ok (.imul, 1) := by decide +kernel
theorem dX12_soundLine_89 : decode cX12_soundLine 89 = .ok (.iadd, 1) := by decide +kernel
theorem dX12_soundLine_90 : decode cX12_soundLine 90 = .ok (.istore 7, 2) := by decide +kernel
theorem dX12_soundLine_92 : decode cX12_soundLine 92 = .ok (.aload_n 0, 1) := by decide +kernel
theorem dX12_soundLine_93 : decode cX12_soundLine 93 = .ok (.getfield 17, 3) := by decide +kernel
theorem dX12_soundLine_96 : decode cX12_soundLine 96 = .ok (.iload 7, 2) := by decide +kernel
theorem dX12_soundLine_98 : decode cX12_soundLine 98 = .ok (.iload_n 3, 1) := by decide +kernel
theorem dX12_soundLine_99 : decode cX12_soundLine 99 = .ok (.iastore, 1) := by decide +kernel
theorem dX12_soundLine_100 : decode cX12_soundLine 100 = .ok (.aload_n 0, 1) := by decide +kernel
theorem dX12_soundLine_101 : decode cX12_soundLine 101 = .ok (.getfield 17, 3) := by decide +kernel
theorem dX12_soundLine_104 : decode cX12_soundLine 104 = .ok (.iload 7, 2) := by decide +kernel
theorem dX12_soundLine_106 : decode cX12_soundLine 106 = .ok (.iconst 1, 1) := by decide +kernel
theorem dX12_soundLine_107 : decode cX12_soundLine 107 = .ok (.iadd, 1) := by decide +kernel
theorem dX12_soundLine_108 : decode cX12_soundLine 108 = .ok (.iload 4, 2) := by decide +kernel
theorem dX12_soundLine_110 : decode cX12_soundLine 110 = .ok (.iastore, 1) := by decide +kernel
theorem dX12_soundLine_111 : decode cX12_soundLine 111 = .ok (.aload_n 0, 1) := by decide +kernel
theorem dX12_soundLine_112 : decode cX12_soundLine 112 = .ok (.getfield 17, 3) := by decide +kernel
theorem dX12_soundLine_115 : decode cX12_soundLine 115 = .ok (.iload 7, 2) := by decide +kernel
theorem dX12_soundLine_117 : decode cX12_soundLine 117 = .ok (.iconst 2, 1) := by decide +kernel
theorem dX12_soundLine_118 : decode cX12_soundLine 118 = .ok (.iadd, 1) := by decide +kernel
theorem dX12_soundLine_119 : decode cX12_soundLine 119 = .ok (.iload 5, 2) := by decide +kernel
theorem dX12_soundLine_121 : decode cX12_soundLine 121 = .ok (.iastore, 1) := by decide +kernel
theorem dX12_soundLine_122 : decode cX12_soundLine 122 = .ok (.aload_n 0, 1) := by decide +kernel
theorem dX12_soundLine_123 : decode cX12_soundLine 123 = .ok (.getfield 17, 3) := by decide +kernel
theorem dX12_soundLine_126 : decode cX12_soundLine 126 = .ok (.iload 7, 2) := by decide +kernel
theorem dX12_soundLine_128 : decode cX12_soundLine 128 = .ok (.iconst 3, 1) := by decide +kernel
theorem dX12_soundLine_129 : decode cX12_soundLine 129 = .ok (.iadd, 1) := by decide +kernel
theorem dX12_soundLine_130 : decode cX12_soundLine 130 = .ok (.iload 6, 2) := by decide +kernel
theorem dX12_soundLine_132 : decode cX12_soundLine 132 = .ok (.iastore, 1) := by decide +kernel
theorem dX12_soundLine_133 : decode cX12_soundLine 133 = .ok (.aload_n 0, 1) := by decide +kernel
theorem dX12_soundLine_134 : decode cX12_soundLine 134 = .ok (.getfield 17, 3) := by decide +kernel
theorem dX12_soundLine_137 : decode cX12_soundLine 137 = .ok (.iconst 0, 1) := by decide +kernel
theorem dX12_soundLine_138 : decode cX12_soundLine 138 = .ok (.dup2, 1) := by decide +kernel
theorem dX12_soundLine_139 : decode cX12_soundLine 139 = .ok (.iaload, 1) := by decide +kernel
theorem dX12_soundLine_140 : decode cX12_soundLine 140 = .ok (.iconst 1, 1) := by decide +kernel
theorem dX12_soundLine_141 : decode cX12_soundLine 141 = .ok (.iadd, 1) := by decide +kernel
theorem dX12_soundLine_142 : decode cX12_soundLine 142 = .ok (.iastore, 1) := by decide +kernel
theorem dX12_soundLine_143 : decode cX12_soundLine 143 = .ok (.aload_n 0, 1) := by decide +kernel
theorem dX12_soundLine_144 : decode cX12_soundLine 144 = .ok (.invokevirtual 177, 3) := by decide +kernel
theorem dX12_soundLine_147 : decode cX12_soundLine 147 = .ok (.return_, 1) := by decide +kernel
def w_X12_soundLine_143 (o : Nat) (post : mI → Prop) (I : mI) : Prop := w_X12_endsLine I o (fun I19 => post I19)
set_option maxRecDepth 100000 in
set_option maxHeartbeats 4000000 in
theorem s_X12_soundLine_143 {p : Program} {l : Launch} {e : Env} {s : State} {m : MethodId} {args : Array Value} {below : List Frame} {meth : Method} {c : Code} {D : va_G} {cA : Nat → ClassId} {Z : mZ} {bs : Ad} {n : Nat} {K : mK} {R : mR} {L : mL} (E : Ev p s m args c cX12_soundLine 8 RX12 D cA Z bs) (hr : meth.sig.returnType = none) (hlk : meth.locks = false) {o : Nat} (ho : isX12 K R o) {post : mI → Prop} {I : mI} {H : Heap} {locs : List Loc} {ls : Array Slot} (hw : w_X12_soundLine_143 o post I) (hM : mm D cA bs (n, K, R, I, L) H) (hS : va_S (Ab bs) s.heap H locs) (hl : lv_has ls 8 [(0, .ref (ad bs o))]) : W p l e ({ frames := 6, cells := 0, slots := 0, locals := 137 } : Room) s m args below meth c H locs 0 0 (MQ below (QV D cA bs (fun u => ∃ I', u = (n, K, R, I', L) ∧ post I')) args s 0 0 (Ab bs)) (F0 m 143 ls []) := by
  have hx := E.1.1
  have hb := E.1.2.1
  refine lv_aload_n hx hb dX12_soundLine_143 rfl (lv_at hl 0 rfl) ?_
  refine m_cv (m_runV E hM hS cs_X12_177 ho.1 (by decide) rfl rfl (c_X12_endsLine ho hw) rfl rfl ⟨Nat.le_of_ble_eq_true rfl, Nat.le_of_ble_eq_true rfl⟩ rfl hl.1 rfl (Nat.le_of_ble_eq_true rfl) dX12_soundLine_144 ⟨Nat.le_of_ble_eq_true rfl, Nat.le_of_ble_eq_true rfl⟩) hS (fun u H locs hp hM hS => ?_)
  obtain ⟨I19, rfl, hw⟩ := hp
  exact m_retv hx hb hr hlk hM hS ⟨_, rfl, hw⟩ dX12_soundLine_147
def w_X12_soundLine_45 (o : Nat) (post : mI → Prop) (I : mI) (v2 : Int32) : Prop := w_X12_numbered I o 0 5 (fun r5 I6 => w_X12_numbered I6 o 0 99 (fun r7 I8 => w_X12_numbered I8 o 0 9 (fun r9 I10 => w_X12_shoeOrNone I10 o (fun r11 I12 => (v2 = 0 → (w_X12_soundLine_143 o post) I12) ∧ (¬ v2 = 0 → ∀ x13, x13 = (1 + (4 * (I12 (o + 3) (0 : Int32).toNatClampNeg))) → vp_in x13 149 ∧ ∀ I14, I14 = up2 I12 (o + 3) x13.toNatClampNeg r5 → vp_in (x13 + 1) 149 ∧ ∀ I15, I15 = up2 I14 (o + 3) ((x13 + 1).toNatClampNeg) r7 → vp_in (x13 + 2) 149 ∧ ∀ I16, I16 = up2 I15 (o + 3) ((x13 + 2).toNatClampNeg) r9 → vp_in (x13 + 3) 149 ∧ ∀ I17, I17 = up2 I16 (o + 3) ((x13 + 3).toNatClampNeg) r11 → ∀ I18, I18 = up2 I17 (o + 3) ((0 : Int32).toNatClampNeg) ((I17 (o + 3) (0 : Int32).toNatClampNeg) + 1) → (w_X12_soundLine_143 o post) I18)))))
set_option maxRecDepth 100000 in
set_option maxHeartbeats 4000000 in
theorem s_X12_soundLine_45 {p : Program} {l : Launch} {e : Env} {s : State} {m : MethodId} {args : Array Value} {below : List Frame} {meth : Method} {c : Code} {D : va_G} {cA : Nat → ClassId} {Z : mZ} {bs : Ad} {n : Nat} {K : mK} {R : mR} {L : mL} (E : Ev p s m args c cX12_soundLine 8 RX12 D cA Z bs) (hr : meth.sig.returnType = none) (hlk : meth.locks = false) {o : Nat} (ho : isX12 K R o) {post : mI → Prop} {I : mI} {v2 : Int32} {H : Heap} {locs : List Loc} {ls : Array Slot} (hw : w_X12_soundLine_45 o post I v2) (hM : mm D cA bs (n, K, R, I, L) H) (hS : va_S (Ab bs) s.heap H locs) (hl : lv_has ls 8 [(0, .ref (ad bs o)), (2, .int v2)]) : W p l e ({ frames := 6, cells := 0, slots := 0, locals := 137 } : Room) s m args below meth c H locs 0 0 (MQ below (QV D cA bs (fun u => ∃ I', u = (n, K, R, I', L) ∧ post I')) args s 0 0 (Ab bs)) (F0 m 45 ls []) := by
  have hx := E.1.1
  have hb := E.1.2.1
  refine lv_aload_n hx hb dX12_soundLine_45 rfl (lv_at hl 0 rfl) ?_
  refine lv_iconst (v := 0) hx hb dX12_soundLine_46 (by decide) ?_
  refine lv_iconst (v := 5) hx hb dX12_soundLine_47 (by decide) ?_
  refine m_ci (m_runV E hM hS cs_X12_144 ho.1 (by decide) rfl rfl (c_X12_numbered ho hw) rfl rfl ⟨Nat.le_of_ble_eq_true rfl, Nat.le_of_ble_eq_true rfl⟩ rfl hl.1 rfl (Nat.le_of_ble_eq_true rfl) dX12_soundLine_48 ⟨Nat.le_of_ble_eq_true rfl, Nat.le_of_ble_eq_true rfl⟩) hS (fun r5 u H locs hp hM hS => ?_)
  obtain ⟨I6, rfl, hw⟩ := hp
  refine lv_istore_n (lv' := [(3, .int r5), (0, .ref (ad bs o)), (2, .int v2)]) hx hb dX12_soundLine_51 rfl hl (by decide) rfl (fun ls hl => ?_)
  refine lv_aload_n hx hb dX12_soundLine_52 rfl (lv_at hl 1 rfl) ?_
  refine lv_iconst (v := 0) hx hb dX12_soundLine_53 (by decide) ?_
  refine lv_bipush (v := 99) hx hb dX12_soundLine_54 (by decide) ?_
  refine m_ci (m_runV E hM hS cs_X12_144 ho.1 (by decide) rfl rfl (c_X12_numbered ho hw) rfl rfl ⟨Nat.le_of_ble_eq_true rfl, Nat.le_of_ble_eq_true rfl⟩ rfl hl.1 rfl (Nat.le_of_ble_eq_true rfl) dX12_soundLine_56 ⟨Nat.le_of_ble_eq_true rfl, Nat.le_of_ble_eq_true rfl⟩) hS (fun r7 u H locs hp hM hS => ?_)
  obtain ⟨I8, rfl, hw⟩ := hp
  refine lv_istore (lv' := [(4, .int r7), (3, .int r5), (0, .ref (ad bs o)), (2, .int v2)]) hx hb dX12_soundLine_59 hl (by decide) rfl (fun ls hl => ?_)
  refine lv_aload_n hx hb dX12_soundLine_61 rfl (lv_at hl 2 rfl) ?_
  refine lv_iconst (v := 0) hx hb dX12_soundLine_62 (by decide) ?_
  refine lv_bipush (v := 9) hx hb dX12_soundLine_63 (by decide) ?_
  refine m_ci (m_runV E hM hS cs_X12_144 ho.1 (by decide) rfl rfl (c_X12_numbered ho hw) rfl rfl ⟨Nat.le_of_ble_eq_true rfl, Nat.le_of_ble_eq_true rfl⟩ rfl hl.1 rfl (Nat.le_of_ble_eq_true rfl) dX12_soundLine_65 ⟨Nat.le_of_ble_eq_true rfl, Nat.le_of_ble_eq_true rfl⟩) hS (fun r9 u H locs hp hM hS => ?_)
  obtain ⟨I10, rfl, hw⟩ := hp
  refine lv_istore (lv' := [(5, .int r9), (4, .int r7), (3, .int r5), (0, .ref (ad bs o)), (2, .int v2)]) hx hb dX12_soundLine_68 hl (by decide) rfl (fun ls hl => ?_)
  refine lv_aload_n hx hb dX12_soundLine_70 rfl (lv_at hl 3 rfl) ?_
  refine m_ci (m_runV E hM hS cs_X12_180 ho.1 (by decide) rfl rfl (c_X12_shoeOrNone ho hw) rfl rfl ⟨Nat.le_of_ble_eq_true rfl, Nat.le_of_ble_eq_true rfl⟩ rfl hl.1 rfl (Nat.le_of_ble_eq_true rfl) dX12_soundLine_71 ⟨Nat.le_of_ble_eq_true rfl, Nat.le_of_ble_eq_true rfl⟩) hS (fun r11 u H locs hp hM hS => ?_)
  obtain ⟨I12, rfl, hw⟩ := hp
  refine lv_istore (lv' := [(6, .int r11), (5, .int r9), (4, .int r7), (3, .int r5), (0, .ref (ad bs o)), (2, .int v2)]) hx hb dX12_soundLine_74 hl (by decide) rfl (fun ls hl => ?_)
  refine lv_iload_n hx hb dX12_soundLine_76 rfl (lv_at hl 5 rfl) ?_
  refine lv_if_eq (tgt := 143) hx hb dX12_soundLine_77 (by decide) (fun cq => ?_) (fun cq => ?_)
  · have hw := hw.1 cq
    exact s_X12_soundLine_143 E hr hlk ho  hw hM hS (lv_sub hl [4] rfl)
  · have hw := hw.2 cq
    refine lv_iconst (v := 1) hx hb dX12_soundLine_80 (by decide) ?_
    refine lv_iconst (v := 4) hx hb dX12_soundLine_81 (by decide) ?_
    refine lv_aload_n hx hb dX12_soundLine_82 rfl (lv_at hl 4 rfl) ?_
    refine m_getr E hM fs_X12_17 ho.1 (isO_at ho 2 rfl).1 dX12_soundLine_83 ?_
    refine lv_iconst (v := 0) hx hb dX12_soundLine_86 (by decide) ?_
    refine m_iald E hM (isO_at ho 2 rfl).2 (by unfold vp_in; decide) dX12_soundLine_87 ?_
    refine lv_imul hx hb dX12_soundLine_88 ?_
    refine lv_iadd hx hb dX12_soundLine_89 ?_
    refine lv_topi (fun x13 ex13 => ?_)
    have hw := hw x13 ex13
    refine lv_istore (lv' := [(7, .int x13), (6, .int r11), (5, .int r9), (4, .int r7), (3, .int r5), (0, .ref (ad bs o)), (2, .int v2)]) hx hb dX12_soundLine_90 hl (by decide) rfl (fun ls hl => ?_)
    refine lv_aload_n hx hb dX12_soundLine_92 rfl (lv_at hl 5 rfl) ?_
    refine m_getr E hM fs_X12_17 ho.1 (isO_at ho 2 rfl).1 dX12_soundLine_93 ?_
    refine lv_iload hx hb dX12_soundLine_96 (lv_at hl 0 rfl) ?_
    refine lv_iload_n hx hb dX12_soundLine_98 rfl (lv_at hl 4 rfl) ?_
    obtain ⟨hv, hw⟩ := hw
    refine m_iast E hM hS (isO_at ho 2 rfl).2 hv dX12_soundLine_99 (fun I14 H locs eI14 hM hS => ?_)
    have hw := hw I14 eI14
    refine lv_aload_n hx hb dX12_soundLine_100 rfl (lv_at hl 5 rfl) ?_
    refine m_getr E hM fs_X12_17 ho.1 (isO_at ho 2 rfl).1 dX12_soundLine_101 ?_
    refine lv_iload hx hb dX12_soundLine_104 (lv_at hl 0 rfl) ?_
    refine lv_iconst (v := 1) hx hb dX12_soundLine_106 (by decide) ?_
    refine lv_iadd hx hb dX12_soundLine_107 ?_
    refine lv_iload hx hb dX12_soundLine_108 (lv_at hl 3 rfl) ?_
    obtain ⟨hv, hw⟩ := hw
    refine m_iast E hM hS (isO_at ho 2 rfl).2 hv dX12_soundLine_110 (fun I15 H locs eI15 hM hS => ?_)
    have hw := hw I15 eI15
    refine lv_aload_n hx hb dX12_soundLine_111 rfl (lv_at hl 5 rfl) ?_
    refine m_getr E hM fs_X12_17 ho.1 (isO_at ho 2 rfl).1 dX12_soundLine_112 ?_
    refine lv_iload hx hb dX12_soundLine_115 (lv_at hl 0 rfl) ?_
    refine lv_iconst (v := 2) hx hb dX12_soundLine_117 (by decide) ?_
    refine lv_iadd hx hb dX12_soundLine_118 ?_
    refine lv_iload hx hb dX12_soundLine_119 (lv_at hl 2 rfl) ?_
    obtain ⟨hv, hw⟩ := hw
    refine m_iast E hM hS (isO_at ho 2 rfl).2 hv dX12_soundLine_121 (fun I16 H locs eI16 hM hS => ?_)
    have hw := hw I16 eI16
    refine lv_aload_n hx hb dX12_soundLine_122 rfl (lv_at hl 5 rfl) ?_
    refine m_getr E hM fs_X12_17 ho.1 (isO_at ho 2 rfl).1 dX12_soundLine_123 ?_
    refine lv_iload hx hb dX12_soundLine_126 (lv_at hl 0 rfl) ?_
    refine lv_iconst (v := 3) hx hb dX12_soundLine_128 (by decide) ?_
    refine lv_iadd hx hb dX12_soundLine_129 ?_
    refine lv_iload hx hb dX12_soundLine_130 (lv_at hl 1 rfl) ?_
    obtain ⟨hv, hw⟩ := hw
    refine m_iast E hM hS (isO_at ho 2 rfl).2 hv dX12_soundLine_132 (fun I17 H locs eI17 hM hS => ?_)
    have hw := hw I17 eI17
    refine lv_aload_n hx hb dX12_soundLine_133 rfl (lv_at hl 5 rfl) ?_
    refine m_getr E hM fs_X12_17 ho.1 (isO_at ho 2 rfl).1 dX12_soundLine_134 ?_
    refine lv_iconst (v := 0) hx hb dX12_soundLine_137 (by decide) ?_
    refine lv_dup2_11 hx hb dX12_soundLine_138 rfl rfl ?_
    refine m_iald E hM (isO_at ho 2 rfl).2 (by unfold vp_in; decide) dX12_soundLine_139 ?_
    refine lv_iconst (v := 1) hx hb dX12_soundLine_140 (by decide) ?_
    refine lv_iadd hx hb dX12_soundLine_141 ?_
    refine m_iast E hM hS (isO_at ho 2 rfl).2 (by unfold vp_in; decide) dX12_soundLine_142 (fun I18 H locs eI18 hM hS => ?_)
    have hw := hw I18 eI18
    exact s_X12_soundLine_143 E hr hlk ho  hw hM hS (lv_sub hl [5] rfl)
def w_X12_soundLine_21 (o : Nat) (post : mI → Prop) (I : mI) (v1 : Int32) (s0 : Int32) : Prop := w_X12_takes I o 8 8 (fun r2 I3 => (¬ r2 = 8 → (w_X12_soundLine_143 o post) I3) ∧ (r2 = 8 → (¬ s0 = 0 → (w_X12_soundLine_45 o post) I3 s0) ∧ (s0 = 0 → w_X12_also I3 o 3 v1 (fun I4 => (w_X12_soundLine_45 o post) I4 s0))))
set_option maxRecDepth 100000 in
set_option maxHeartbeats 4000000 in
theorem s_X12_soundLine_21 {p : Program} {l : Launch} {e : Env} {s : State} {m : MethodId} {args : Array Value} {below : List Frame} {meth : Method} {c : Code} {D : va_G} {cA : Nat → ClassId} {Z : mZ} {bs : Ad} {n : Nat} {K : mK} {R : mR} {L : mL} (E : Ev p s m args c cX12_soundLine 8 RX12 D cA Z bs) (hr : meth.sig.returnType = none) (hlk : meth.locks = false) {o : Nat} (ho : isX12 K R o) {post : mI → Prop} {I : mI} {v1 : Int32} {s0 : Int32} {H : Heap} {locs : List Loc} {ls : Array Slot} (hw : w_X12_soundLine_21 o post I v1 s0) (hM : mm D cA bs (n, K, R, I, L) H) (hS : va_S (Ab bs) s.heap H locs) (hl : lv_has ls 8 [(0, .ref (ad bs o)), (1, .int v1)]) : W p l e ({ frames := 6, cells := 0, slots := 0, locals := 137 } : Room) s m args below meth c H locs 0 0 (MQ below (QV D cA bs (fun u => ∃ I', u = (n, K, R, I', L) ∧ post I')) args s 0 0 (Ab bs)) (F0 m 21 ls [.int s0]) := by
  have hx := E.1.1
  have hb := E.1.2.1
  refine lv_istore_n (lv' := [(2, .int s0), (0, .ref (ad bs o)), (1, .int v1)]) hx hb dX12_soundLine_21 rfl hl (by decide) rfl (fun ls hl => ?_)
  refine lv_aload_n hx hb dX12_soundLine_22 rfl (lv_at hl 1 rfl) ?_
  refine lv_bipush (v := 8) hx hb dX12_soundLine_23 (by decide) ?_
  refine lv_bipush (v := 8) hx hb dX12_soundLine_25 (by decide) ?_
  refine m_ci (m_runV E hM hS cs_X12_161 ho.1 (by decide) rfl rfl (c_X12_takes ho hw) rfl rfl ⟨Nat.le_of_ble_eq_true rfl, Nat.le_of_ble_eq_true rfl⟩ rfl hl.1 rfl (Nat.le_of_ble_eq_true rfl) dX12_soundLine_27 ⟨Nat.le_of_ble_eq_true rfl, Nat.le_of_ble_eq_true rfl⟩) hS (fun r2 u H locs hp hM hS => ?_)
  obtain ⟨I3, rfl, hw⟩ := hp
  refine lv_bipush (v := 8) hx hb dX12_soundLine_30 (by decide) ?_
  refine lv_icmp_ne (tgt := 143) hx hb dX12_soundLine_32 (by decide) (fun cq => ?_) (fun cq => ?_)
  · have hw := hw.1 cq
    exact s_X12_soundLine_143 E hr hlk ho  hw hM hS (lv_sub hl [1] rfl)
  · have hw := hw.2 cq
    refine lv_iload_n hx hb dX12_soundLine_35 rfl (lv_at hl 0 rfl) ?_
    refine lv_if_ne (tgt := 45) hx hb dX12_soundLine_36 (by decide) (fun cq => ?_) (fun cq => ?_)
    · have hw := hw.1 cq
      exact s_X12_soundLine_45 E hr hlk ho  hw hM hS (lv_sub hl [1, 0] rfl)
    · have hw := hw.2 cq
      refine lv_aload_n hx hb dX12_soundLine_39 rfl (lv_at hl 1 rfl) ?_
      refine lv_iconst (v := 3) hx hb dX12_soundLine_40 (by decide) ?_
      refine lv_iload_n hx hb dX12_soundLine_41 rfl (lv_at hl 2 rfl) ?_
      refine m_cv (m_runV E hM hS cs_X12_137 ho.1 (by decide) rfl rfl (c_X12_also ho hw) rfl rfl ⟨Nat.le_of_ble_eq_true rfl, Nat.le_of_ble_eq_true rfl⟩ rfl hl.1 rfl (Nat.le_of_ble_eq_true rfl) dX12_soundLine_42 ⟨Nat.le_of_ble_eq_true rfl, Nat.le_of_ble_eq_true rfl⟩) hS (fun u H locs hp hM hS => ?_)
      obtain ⟨I4, rfl, hw⟩ := hp
      exact s_X12_soundLine_45 E hr hlk ho  hw hM hS (lv_sub hl [1, 0] rfl)
def w_X12_soundLine (I : mI) (o : Nat) (post : mI → Prop) : Prop := ∀ x1, x1 = (I o 4) → (10 ≤ (I (o + 3) (0 : Int32).toNatClampNeg) → (w_X12_soundLine_21 o post) I x1 0) ∧ (¬ 10 ≤ (I (o + 3) (0 : Int32).toNatClampNeg) → (w_X12_soundLine_21 o post) I x1 1)
set_option maxRecDepth 100000 in
set_option maxHeartbeats 4000000 in
theorem c_X12_soundLine {l : Launch} {D : va_G} {cA : Nat → ClassId} {Z : mZ} {bs : Ad} {n : Nat} {K : mK} {R : mR} {I : mI} {L : mL} {o : Nat} {post : mI → Prop} (ho : isX12 K R o) (hw : w_X12_soundLine I o post) : Met l yX12_soundLine (.code yX12_soundLine cX12_soundLine 8 none :: gw) ({ frames := 6, cells := 0, slots := 0, locals := 137 } : Room) (PreM D cA Z bs (n, K, R, I, L) [.ref (ad bs o)]) (QV D cA bs (fun u => ∃ I', u = (n, K, R, I', L) ∧ post I')) 0 0 (Ab bs) := by
  refine m_met (by decide) (Nat.le_of_ble_eq_true rfl) (fun p e s m below meth c ls E hr hlk hM hS hl => ?_)
  have E : Ev p s m _ c cX12_soundLine 8 RX12 D cA Z bs := E
  have hl : lv_has ls 8 [(0, .ref (ad bs o))] := hl
  have hx := E.1.1
  have hb := E.1.2.1
  generalize hHe : s.heap = H at hM ⊢
  have hS : va_S (Ab bs) s.heap H [] := by rw [← hHe]; exact va_S.rf
  clear hHe
  refine lv_aload_n hx hb dX12_soundLine_0 rfl (lv_at hl 0 rfl) ?_
  refine m_geti E hM fs_X12_99 ho.1 dX12_soundLine_1 ?_
  refine lv_topi (fun x1 ex1 => ?_)
  have hw := hw x1 ex1
  refine lv_istore_n (lv' := [(1, .int x1), (0, .ref (ad bs o))]) hx hb dX12_soundLine_4 rfl hl (by decide) rfl (fun ls hl => ?_)
  refine lv_aload_n hx hb dX12_soundLine_5 rfl (lv_at hl 1 rfl) ?_
  refine m_getr E hM fs_X12_17 ho.1 (isO_at ho 2 rfl).1 dX12_soundLine_6 ?_
  refine lv_iconst (v := 0) hx hb dX12_soundLine_9 (by decide) ?_
  refine m_iald E hM (isO_at ho 2 rfl).2 (by unfold vp_in; decide) dX12_soundLine_10 ?_
  refine lv_bipush (v := 10) hx hb dX12_soundLine_11 (by decide) ?_
  refine lv_icmp_ge (tgt := 20) hx hb dX12_soundLine_13 (by decide) (fun cq => ?_) (fun cq => ?_)
  · have hw := hw.1 cq
    refine lv_iconst (v := 0) hx hb dX12_soundLine_20 (by decide) ?_
    exact s_X12_soundLine_21 E hr hlk ho  hw hM hS (lv_sub hl [1, 0] rfl)
  · have hw := hw.2 cq
    refine lv_iconst (v := 1) hx hb dX12_soundLine_16 (by decide) ?_
    refine lv_goto (tgt := 21) hx hb dX12_soundLine_17 (by decide) ?_
    exact s_X12_soundLine_21 E hr hlk ho  hw hM hS (lv_sub hl [1, 0] rfl)
theorem dX12_placeOf_0 : decode cX12_placeOf 0 = .ok (.iload_n 0, 1) := by decide +kernel
theorem dX12_placeOf_1 : decode cX12_placeOf 1 = .ok (.ifCond .ne 15, 3) := by decide +kernel
theorem dX12_placeOf_4 : decode cX12_placeOf 4 = .ok (.sipush 610, 3) := by decide +kernel
theorem dX12_placeOf_7 : decode cX12_placeOf 7 = .ok (.sipush 149, 3) := by decide +kernel
theorem dX12_placeOf_10 : decode cX12_placeOf 10 = .ok (.iload_n 1, 1) := by decide +kernel
theorem dX12_placeOf_11 : decode cX12_placeOf 11 = .ok (.imul, 1) := by decide +kernel
theorem dX12_placeOf_12 : decode cX12_placeOf 12 = .ok (.iadd, 1) := by decide +kernel
theorem dX12_placeOf_13 : decode cX12_placeOf 13 = .ok (.goto 11, 3) := by decide +kernel
theorem dX12_placeOf_16 : decode cX12_placeOf 16 = .ok (.sipush 908, 3) := by decide +kernel
theorem dX12_placeOf_19 : decode cX12_placeOf 19 = .ok (.bipush 41, 2) := by decide +kernel
theorem dX12_placeOf_21 : decode cX12_placeOf 21 = .ok (.iload_n 1, 1) := by decide +kernel
theorem dX12_placeOf_22 : decode cX12_placeOf 22 = .ok (.imul, 1) := by decide +kernel
theorem dX12_placeOf_23 : decode cX12_placeOf 23 = .ok (.iadd, 1) := by decide +kernel
theorem dX12_placeOf_24 : decode cX12_placeOf 24 = .ok (.ireturn, 1) := by decide +kernel
def w_X12_placeOf (a1 : Int32) (a2 : Int32) (post : Int32 → Prop) : Prop := (¬ a1 = 0 → post (908 + (41 * a2))) ∧ (a1 = 0 → post (610 + (149 * a2)))
set_option maxRecDepth 100000 in
set_option maxHeartbeats 4000000 in
theorem c_X12_placeOf {l : Launch} {D : va_G} {cA : Nat → ClassId} {Z : mZ} {bs : Ad} {n : Nat} {K : mK} {R : mR} {I : mI} {L : mL} {a1 : Int32} {a2 : Int32} {post : Int32 → Prop}  (hw : w_X12_placeOf a1 a2 post) : Met l yX12_placeOf (.code yX12_placeOf cX12_placeOf 2 (some .int) :: gw) ({ frames := 0, cells := 0, slots := 0, locals := 0 } : Room) (PreM D cA Z bs (n, K, R, I, L) [.int a1, .int a2]) (QI D cA bs (fun r u => u = (n, K, R, I, L) ∧ post r)) 0 0 (Ab bs) := by
  refine m_met (by decide) (Nat.le_of_ble_eq_true rfl) (fun p e s m below meth c ls E hr hlk hM hS hl => ?_)
  have E : Ev p s m _ c cX12_placeOf 2 RX12 D cA Z bs := E
  have hl : lv_has ls 2 [(0, .int a1), (1, .int a2)] := hl
  have hx := E.1.1
  have hb := E.1.2.1
  generalize hHe : s.heap = H at hM ⊢
  have hS : va_S (Ab bs) s.heap H [] := by rw [← hHe]; exact va_S.rf
  clear hHe
  refine lv_iload_n hx hb dX12_placeOf_0 rfl (lv_at hl 0 rfl) ?_
  refine lv_if_ne (tgt := 16) hx hb dX12_placeOf_1 (by decide) (fun cq => ?_) (fun cq => ?_)
  · have hw := hw.1 cq
    refine lv_sipush (v := 908) hx hb dX12_placeOf_16 (by decide) ?_
    refine lv_bipush (v := 41) hx hb dX12_placeOf_19 (by decide) ?_
    refine lv_iload_n hx hb dX12_placeOf_21 rfl (lv_at hl 1 rfl) ?_
    refine lv_imul hx hb dX12_placeOf_22 ?_
    refine lv_iadd hx hb dX12_placeOf_23 ?_
    exact m_reti hx hb hr hlk hM hS ⟨rfl, hw⟩ dX12_placeOf_24
  · have hw := hw.2 cq
    refine lv_sipush (v := 610) hx hb dX12_placeOf_4 (by decide) ?_
    refine lv_sipush (v := 149) hx hb dX12_placeOf_7 (by decide) ?_
    refine lv_iload_n hx hb dX12_placeOf_10 rfl (lv_at hl 1 rfl) ?_
    refine lv_imul hx hb dX12_placeOf_11 ?_
    refine lv_iadd hx hb dX12_placeOf_12 ?_
    refine lv_goto (tgt := 24) hx hb dX12_placeOf_13 (by decide) ?_
    exact m_reti hx hb hr hlk hM hS ⟨rfl, hw⟩ dX12_placeOf_24
theorem dX12_isOf_0 : decode cX12_isOf 0 = .ok (.iload_n 2, 1) := by decide +kernel
theorem dX12_isOf_1 : decode cX12_isOf 1 = .ok (.iconst 0, 1) := by decide +kernel
theorem dX12_isOf_2 : decode cX12_isOf 2 = .ok (.aload_n 0, 1) := by decide +kernel
theorem dX12_isOf_3 : decode cX12_isOf 3 = .ok (.getfield 7, 3) := by decide +kernel
theorem dX12_isOf_6 : decode cX12_isOf 6 = .ok (.iload_n 1, 1) := by decide +kernel
theorem dX12_isOf_7 : decode cX12_isOf 7 = .ok (.iaload, 1) := by decide +kernel
theorem dX12_isOf_8 : decode cX12_isOf 8 = .ok (.iconst 1, 1) := by decide +kernel
theorem dX12_isOf_9 : decode cX12_isOf 9 = .ok (.isub, 1) := by decide +kernel
theorem dX12_isOf_10 : decode cX12_isOf 10 = .ok (.invokestatic 133, 3) := by decide +kernel
theorem dX12_isOf_13 : decode cX12_isOf 13 = .ok (.ireturn, 1) := by decide +kernel
def w_X12_isOf (I : mI) (o : Nat) (a1 : Int32) (a2 : Int32) (post : Bool → Prop) : Prop := vp_in a1 3960 ∧ w_X12_isIn a2 0 ((I (o + 1) a1.toNatClampNeg) - 1) (fun b1 => post b1)
set_option maxRecDepth 100000 in
set_option maxHeartbeats 4000000 in
theorem c_X12_isOf {l : Launch} {D : va_G} {cA : Nat → ClassId} {Z : mZ} {bs : Ad} {n : Nat} {K : mK} {R : mR} {I : mI} {L : mL} {o : Nat} {a1 : Int32} {a2 : Int32} {post : Bool → Prop} (ho : isX12 K R o) (hw : w_X12_isOf I o a1 a2 post) : Met l yX12_isOf (.code yX12_isOf cX12_isOf 3 (some .boolean) :: gw) ({ frames := 1, cells := 0, slots := 0, locals := 22 } : Room) (PreM D cA Z bs (n, K, R, I, L) [.ref (ad bs o), .int a1, .int a2]) (QI D cA bs (fun r u => ∃ b, r = bI b ∧ u = (n, K, R, I, L) ∧ post b)) 0 0 (Ab bs) := by
  refine m_met (by decide) (Nat.le_of_ble_eq_true rfl) (fun p e s m below meth c ls E hr hlk hM hS hl => ?_)
  have E : Ev p s m _ c cX12_isOf 3 RX12 D cA Z bs := E
  have hl : lv_has ls 3 [(0, .ref (ad bs o)), (1, .int a1), (2, .int a2)] := hl
  have hx := E.1.1
  have hb := E.1.2.1
  generalize hHe : s.heap = H at hM ⊢
  have hS : va_S (Ab bs) s.heap H [] := by rw [← hHe]; exact va_S.rf
  clear hHe
  refine lv_iload_n hx hb dX12_isOf_0 rfl (lv_at hl 2 rfl) ?_
  refine lv_iconst (v := 0) hx hb dX12_isOf_1 (by decide) ?_
  refine lv_aload_n hx hb dX12_isOf_2 rfl (lv_at hl 0 rfl) ?_
  refine m_getr E hM fs_X12_7 ho.1 (isO_at ho 0 rfl).1 dX12_isOf_3 ?_
  refine lv_iload_n hx hb dX12_isOf_6 rfl (lv_at hl 1 rfl) ?_
  obtain ⟨hv, hw⟩ := hw
  refine m_iald E hM (isO_at ho 0 rfl).2 hv dX12_isOf_7 ?_
  refine lv_iconst (v := 1) hx hb dX12_isOf_8 (by decide) ?_
  refine lv_isub hx hb dX12_isOf_9 ?_
  refine m_ci (m_runS E hM hS cs_X12_133 (c_X12_isIn  hw) rfl rfl ⟨Nat.le_of_ble_eq_true rfl, Nat.le_of_ble_eq_true rfl⟩ rfl hl.1 rfl (Nat.le_of_ble_eq_true rfl) dX12_isOf_10 ⟨Nat.le_of_ble_eq_true rfl, Nat.le_of_ble_eq_true rfl⟩) hS (fun r9 u H locs hp hM hS => ?_)
  obtain ⟨b1, rfl, rfl, hw⟩ := hp
  exact m_retz hx hb hr hlk (bI_01 _) hM hS ⟨_, rfl, rfl, hw⟩ dX12_isOf_13
theorem dX12_clears_0 : decode cX12_clears 0 = .ok (.iconst 0, 1) := by decide +kernel
theorem dX12_clears_1 : decode cX12_clears 1 = .ok (.istore_n 2, 1) := by decide +kernel
theorem dX12_clears_2 : decode cX12_clears 2 = .ok (.iload_n 2, 1) := by decide +kernel
theorem dX12_clears_3 : decode cX12_clears 3 = .ok (.sipush 149, 3) := by decide +kernel
theorem dX12_clears_6 : decode cX12_clears 6 = .ok (.if_icmp .ge 16, 3) := by decide +kernel
theorem dX12_clears_9 : decode cX12_clears 9 = .ok (.aload_n 0, 1) := by decide +kernel
theorem dX12_clears_10 : decode cX12_clears 10 = .ok (.getfield 17, 3) := by decide +kernel
theorem dX12_clears_13 : decode cX12_clears 13 = .ok (.iload_n 2, 1) := by decide +kernel
theorem dX12_clears_14 : decode cX12_clears 14 = .ok (.iconst 0, 1) := by decide +kernel
theorem dX12_clears_15 : decode cX12_clears 15 = .ok (.iastore, 1) := by decide +kernel
theorem dX12_clears_16 : decode cX12_clears 16 = .ok (.iinc 2 1, 3) := by decide +kernel
theorem dX12_clears_19 : decode cX12_clears 19 = .ok (.goto (-17), 3) := by decide +kernel
theorem dX12_clears_22 : decode cX12_clears 22 = .ok (.iload_n 1, 1) := by decide +kernel
theorem dX12_clears_23 : decode cX12_clears 23 = .ok (.iconst 1, 1) := by decide +kernel
theorem dX12_clears_24 : decode cX12_clears 24 = .ok (.if_icmp .ne 4, 3) := by decide +kernel
theorem dX12_clears_27 : decode cX12_clears 27 = .ok (.return_, 1) := by decide +kernel
theorem dX12_clears_28 : decode cX12_clears 28 = .ok (.aload_n 0, 1) := by decide +kernel
theorem dX12_clears_29 : decode cX12_clears 29 = .ok (.getfield 17, 3) := by decide +kernel
theorem dX12_clears_32 : decode cX12_clears 32 = .ok (.iconst 0, 1) := by decide +kernel
theorem dX12_clears_33 : decode cX12_clears 33 = .ok (.bipush 12, 2) := by decide +kernel
theorem dX12_clears_35 : decode cX12_clears 35 = .ok (.iastore, 1) := by decide +kernel
theorem dX12_clears_36 : decode cX12_clears 36 = .ok (.aload_n 0, 1) := by decide +kernel
theorem dX12_clears_37 : decode cX12_clears 37 = .ok (.getfield 17, 3) := by decide +kernel
theorem dX12_clears_40 : decode cX12_clears 40 = .ok (.iconst 1, 1) := by decide +kernel
theorem dX12_clears_41 : decode cX12_clears 41 = .ok (.bipush 60, 2) := by decide +kernel
theorem dX12_clears_43 : decode cX12_clears 43 = .ok (.iastore, 1) := by decide +kernel
theorem dX12_clears_44 : decode cX12_clears 44 = .ok (.iconst 0, 1) := by decide +kernel
theorem dX12_clears_45 : decode cX12_clears 45 = .ok (.istore_n 2, 1) := by decide +kernel
theorem dX12_clears_46 : decode cX12_clears 46 = .ok (.iload_n 2, 1) := by decide +kernel
theorem dX12_clears_47 : decode cX12_clears 47 = .ok (.bipush 6, 2) := by decide +kernel
theorem dX12_clears_49 : decode cX12_clears 49 = .ok (.if_icmp .ge 39, 3) := by decide +kernel
theorem dX12_clears_52 : decode cX12_clears 52 = .ok (.aload_n 0, 1) := by decide +kernel
theorem dX12_clears_53 : decode cX12_clears 53 = .ok (.getfield 17, 3) := by decide +kernel
theorem dX12_clears_56 : decode cX12_clears 56 = .ok (.bipush 41, 2) := by decide +kernel
theorem dX12_clears_58 : decode cX12_clears 58 = .ok (.bipush 14, 2) := by decide +kernel
theorem dX12_clears_60 : decode cX12_clears 60 = .ok (.iload_n 2, 1) := by decide +kernel
theorem dX12_clears_61 : decode cX12_clears 61 = .ok (.imul, 1) := by decide +kernel
theorem dX12_clears_62 : decode cX12_clears 62 = .ok (.iadd, 1) := by decide +kernel
theorem dX12_clears_63 : decode cX12_clears 63 = .ok (.iconst 3, 1) := by decide +kernel
theorem dX12_clears_64 : decode cX12_clears 64 = .ok (.iadd, 1) := by decide +kernel
theorem dX12_clears_65 : decode cX12_clears 65 = .ok (.iconst (-1), 1) := by decide +kernel
theorem dX12_clears_66 : decode cX12_clears 66 = .ok (.iastore, 1) := by decide +kernel
theorem dX12_clears_67 : decode cX12_clears 67 = .ok (.aload_n 0, 1) := by decide +kernel
theorem dX12_clears_68 : decode cX12_clears 68 = .ok (.getfield 17, 3) := by decide +kernel
theorem dX12_clears_71 : decode cX12_clears 71 = .ok (.bipush 41, 2) := by decide +kernel
theorem dX12_clears_73 : decode cX12_clears 73 = .ok (.bipush 14, 2) := by decide +kernel
theorem dX12_clears_75 : decode cX12_clears 75 = .ok (.iload_n 2, 1) := by decide +kernel
theorem dX12_clears_76 : decode cX12_clears 76 = .ok (.imul, 1) := by decide +kernel
theorem dX12_clears_77 : decode cX12_clears 77 = .ok (.iadd, 1) := by decide +kernel
theorem dX12_clears_78 : decode cX12_clears 78 = .ok (.iconst 4, 1) := by decide +kernel
theorem dX12_clears_79 : decode cX12_clears 79 = .ok (.iadd, 1) := by decide +kernel
theorem dX12_clears_80 : decode cX12_clears 80 = .ok (.iconst (-1), 1) := by decide +kernel
theorem dX12_clears_81 : decode cX12_clears 81 = .ok (.iastore, 1) := by decide +kernel
theorem dX12_clears_82 : decode cX12_clears 82 = .ok (.iinc 2 1, 3) := by decide +kernel
theorem dX12_clears_85 : decode cX12_clears 85 = .ok (.goto (-39), 3) := by decide +kernel
theorem dX12_clears_88 : decode cX12_clears 88 = .ok (.return_, 1) := by decide +kernel
def w_X12_clears_2 (o : Nat) (a1 : Int32) (post : mI → Prop) (k22 : mI → Prop) (I : mI) (v2 : Int32) : Prop := ∀ ZZ : (mI → Int32 → Prop), (∀ (I : mI) (v2 : Int32), ((149 ≤ v2 → k22 I) ∧ (¬ 149 ≤ v2 → vp_in v2 149 ∧ ∀ I1, I1 = up2 I (o + 3) v2.toNatClampNeg 0 → ∀ x2, x2 = v2 + 1 → ZZ I1 x2)) → ZZ I v2) → ZZ I v2
set_option maxRecDepth 100000 in
set_option maxHeartbeats 4000000 in
theorem s_X12_clears_2 {p : Program} {l : Launch} {e : Env} {s : State} {m : MethodId} {args : Array Value} {below : List Frame} {meth : Method} {c : Code} {D : va_G} {cA : Nat → ClassId} {Z : mZ} {bs : Ad} {n : Nat} {K : mK} {R : mR} {L : mL} (E : Ev p s m args c cX12_clears 3 RX12 D cA Z bs) (hr : meth.sig.returnType = none) (hlk : meth.locks = false) {o : Nat} {a1 : Int32} (ho : isX12 K R o) {post : mI → Prop} {k22 : mI → Prop} (hk22 : ∀ (I : mI) (H : Heap) (locs : List Loc) (ls : Array Slot), k22 I → mm D cA bs (n, K, R, I, L) H → va_S (Ab bs) s.heap H locs → lv_has ls 3 [(0, .ref (ad bs o)), (1, .int a1)] → W p l e ({ frames := 0, cells := 0, slots := 0, locals := 0 } : Room) s m args below meth c H locs 0 0 (MQ below (QV D cA bs (fun u => ∃ I', u = (n, K, R, I', L) ∧ post I')) args s 0 0 (Ab bs)) (F0 m 22 ls [])) {I : mI} {v2 : Int32} {H : Heap} {locs : List Loc} {ls : Array Slot} (hw : w_X12_clears_2 o a1 post k22 I v2) (hM : mm D cA bs (n, K, R, I, L) H) (hS : va_S (Ab bs) s.heap H locs) (hl : lv_has ls 3 [(0, .ref (ad bs o)), (1, .int a1), (2, .int v2)]) : W p l e ({ frames := 0, cells := 0, slots := 0, locals := 0 } : Room) s m args below meth c H locs 0 0 (MQ below (QV D cA bs (fun u => ∃ I', u = (n, K, R, I', L) ∧ post I')) args s 0 0 (Ab bs)) (F0 m 2 ls []) := by
  have hx := E.1.1
  have hb := E.1.2.1
  refine hw (fun I v2 => ∀ (H : Heap) (locs : List Loc) (ls : Array Slot), mm D cA bs (n, K, R, I, L) H → va_S (Ab bs) s.heap H locs → lv_has ls 3 [(0, .ref (ad bs o)), (1, .int a1), (2, .int v2)] → W p l e ({ frames := 0, cells := 0, slots := 0, locals := 0 } : Room) s m args below meth c H locs 0 0 (MQ below (QV D cA bs (fun u => ∃ I', u = (n, K, R, I', L) ∧ post I')) args s 0 0 (Ab bs)) (F0 m 2 ls [])) ?_ H locs ls hM hS hl
  clear hw hM hS hl
  intro I v2 hw H locs ls hM hS hl
  refine lv_iload_n hx hb dX12_clears_2 rfl (lv_at hl 2 rfl) ?_
  refine lv_sipush (v := 149) hx hb dX12_clears_3 (by decide) ?_
  refine lv_icmp_ge (tgt := 22) hx hb dX12_clears_6 (by decide) (fun cq => ?_) (fun cq => ?_)
  · have hw := hw.1 cq
    exact hk22 _ H locs ls  hw hM hS (lv_sub hl [0, 1] rfl)
  · have hw := hw.2 cq
    refine lv_aload_n hx hb dX12_clears_9 rfl (lv_at hl 0 rfl) ?_
    refine m_getr E hM fs_X12_17 ho.1 (isO_at ho 2 rfl).1 dX12_clears_10 ?_
    refine lv_iload_n hx hb dX12_clears_13 rfl (lv_at hl 2 rfl) ?_
    refine lv_iconst (v := 0) hx hb dX12_clears_14 (by decide) ?_
    obtain ⟨hv, hw⟩ := hw
    refine m_iast E hM hS (isO_at ho 2 rfl).2 hv dX12_clears_15 (fun I1 H locs eI1 hM hS => ?_)
    have hw := hw I1 eI1
    obtain ⟨x2, ex2⟩ : ∃ y : Int32, y = v2 + 1 := ⟨_, rfl⟩
    have hw := hw x2 ex2
    refine lv_iinc (v := x2) (lv' := [(2, .int x2), (0, .ref (ad bs o)), (1, .int a1)]) hx hb dX12_clears_16 hl (k := 2) rfl (by rw [ex2]; rfl) (by decide) rfl (fun ls hl => ?_)
    refine lv_goto (tgt := 2) hx hb dX12_clears_19 (by decide) ?_
    exact hw H locs ls  hM hS (lv_sub hl [1, 2, 0] rfl)
def w_X12_clears_46 (o : Nat) (a1 : Int32) (post : mI → Prop) (I : mI) (v2 : Int32) : Prop := ∀ ZZ : (mI → Int32 → Prop), (∀ (I : mI) (v2 : Int32), ((6 ≤ v2 → post I) ∧ (¬ 6 ≤ v2 → vp_in ((41 + (14 * v2)) + 3) 149 ∧ ∀ I5, I5 = up2 I (o + 3) (((41 + (14 * v2)) + 3).toNatClampNeg) (-1) → vp_in ((41 + (14 * v2)) + 4) 149 ∧ ∀ I6, I6 = up2 I5 (o + 3) (((41 + (14 * v2)) + 4).toNatClampNeg) (-1) → ∀ x7, x7 = v2 + 1 → ZZ I6 x7)) → ZZ I v2) → ZZ I v2
set_option maxRecDepth 100000 in
set_option maxHeartbeats 4000000 in
theorem s_X12_clears_46 {p : Program} {l : Launch} {e : Env} {s : State} {m : MethodId} {args : Array Value} {below : List Frame} {meth : Method} {c : Code} {D : va_G} {cA : Nat → ClassId} {Z : mZ} {bs : Ad} {n : Nat} {K : mK} {R : mR} {L : mL} (E : Ev p s m args c cX12_clears 3 RX12 D cA Z bs) (hr : meth.sig.returnType = none) (hlk : meth.locks = false) {o : Nat} {a1 : Int32} (ho : isX12 K R o) {post : mI → Prop} {I : mI} {v2 : Int32} {H : Heap} {locs : List Loc} {ls : Array Slot} (hw : w_X12_clears_46 o a1 post I v2) (hM : mm D cA bs (n, K, R, I, L) H) (hS : va_S (Ab bs) s.heap H locs) (hl : lv_has ls 3 [(0, .ref (ad bs o)), (2, .int v2)]) : W p l e ({ frames := 0, cells := 0, slots := 0, locals := 0 } : Room) s m args below meth c H locs 0 0 (MQ below (QV D cA bs (fun u => ∃ I', u = (n, K, R, I', L) ∧ post I')) args s 0 0 (Ab bs)) (F0 m 46 ls []) := by
  have hx := E.1.1
  have hb := E.1.2.1
  refine hw (fun I v2 => ∀ (H : Heap) (locs : List Loc) (ls : Array Slot), mm D cA bs (n, K, R, I, L) H → va_S (Ab bs) s.heap H locs → lv_has ls 3 [(0, .ref (ad bs o)), (2, .int v2)] → W p l e ({ frames := 0, cells := 0, slots := 0, locals := 0 } : Room) s m args below meth c H locs 0 0 (MQ below (QV D cA bs (fun u => ∃ I', u = (n, K, R, I', L) ∧ post I')) args s 0 0 (Ab bs)) (F0 m 46 ls [])) ?_ H locs ls hM hS hl
  clear hw hM hS hl
  intro I v2 hw H locs ls hM hS hl
  refine lv_iload_n hx hb dX12_clears_46 rfl (lv_at hl 1 rfl) ?_
  refine lv_bipush (v := 6) hx hb dX12_clears_47 (by decide) ?_
  refine lv_icmp_ge (tgt := 88) hx hb dX12_clears_49 (by decide) (fun cq => ?_) (fun cq => ?_)
  · have hw := hw.1 cq
    exact m_retv hx hb hr hlk hM hS ⟨_, rfl, hw⟩ dX12_clears_88
  · have hw := hw.2 cq
    refine lv_aload_n hx hb dX12_clears_52 rfl (lv_at hl 0 rfl) ?_
    refine m_getr E hM fs_X12_17 ho.1 (isO_at ho 2 rfl).1 dX12_clears_53 ?_
    refine lv_bipush (v := 41) hx hb dX12_clears_56 (by decide) ?_
    refine lv_bipush (v := 14) hx hb dX12_clears_58 (by decide) ?_
    refine lv_iload_n hx hb dX12_clears_60 rfl (lv_at hl 1 rfl) ?_
    refine lv_imul hx hb dX12_clears_61 ?_
    refine lv_iadd hx hb dX12_clears_62 ?_
    refine lv_iconst (v := 3) hx hb dX12_clears_63 (by decide) ?_
    refine lv_iadd hx hb dX12_clears_64 ?_
    refine lv_iconst (v := (-1)) hx hb dX12_clears_65 (by decide) ?_
    obtain ⟨hv, hw⟩ := hw
    refine m_iast E hM hS (isO_at ho 2 rfl).2 hv dX12_clears_66 (fun I5 H locs eI5 hM hS => ?_)
    have hw := hw I5 eI5
    refine lv_aload_n hx hb dX12_clears_67 rfl (lv_at hl 0 rfl) ?_
    refine m_getr E hM fs_X12_17 ho.1 (isO_at ho 2 rfl).1 dX12_clears_68 ?_
    refine lv_bipush (v := 41) hx hb dX12_clears_71 (by decide) ?_
    refine lv_bipush (v := 14) hx hb dX12_clears_73 (by decide) ?_
    refine lv_iload_n hx hb dX12_clears_75 rfl (lv_at hl 1 rfl) ?_
    refine lv_imul hx hb dX12_clears_76 ?_
    refine lv_iadd hx hb dX12_clears_77 ?_
    refine lv_iconst (v := 4) hx hb dX12_clears_78 (by decide) ?_
    refine lv_iadd hx hb dX12_clears_79 ?_
    refine lv_iconst (v := (-1)) hx hb dX12_clears_80 (by decide) ?_
    obtain ⟨hv, hw⟩ := hw
    refine m_iast E hM hS (isO_at ho 2 rfl).2 hv dX12_clears_81 (fun I6 H locs eI6 hM hS => ?_)
    have hw := hw I6 eI6
    obtain ⟨x7, ex7⟩ : ∃ y : Int32, y = v2 + 1 := ⟨_, rfl⟩
    have hw := hw x7 ex7
    refine lv_iinc (v := x7) (lv' := [(2, .int x7), (0, .ref (ad bs o))]) hx hb dX12_clears_82 hl (k := 1) rfl (by rw [ex7]; rfl) (by decide) rfl (fun ls hl => ?_)
    refine lv_goto (tgt := 46) hx hb dX12_clears_85 (by decide) ?_
    exact hw H locs ls  hM hS (lv_sub hl [1, 0] rfl)
def w_X12_clears_22 (o : Nat) (a1 : Int32) (post : mI → Prop) (I : mI) : Prop := (¬ a1 = 1 → ∀ I3, I3 = up2 I (o + 3) ((0 : Int32).toNatClampNeg) 12 → ∀ I4, I4 = up2 I3 (o + 3) ((1 : Int32).toNatClampNeg) 60 → (w_X12_clears_46 o a1 post) I4 0) ∧ (a1 = 1 → post I)
set_option maxRecDepth 100000 in
set_option maxHeartbeats 4000000 in
theorem s_X12_clears_22 {p : Program} {l : Launch} {e : Env} {s : State} {m : MethodId} {args : Array Value} {below : List Frame} {meth : Method} {c : Code} {D : va_G} {cA : Nat → ClassId} {Z : mZ} {bs : Ad} {n : Nat} {K : mK} {R : mR} {L : mL} (E : Ev p s m args c cX12_clears 3 RX12 D cA Z bs) (hr : meth.sig.returnType = none) (hlk : meth.locks = false) {o : Nat} {a1 : Int32} (ho : isX12 K R o) {post : mI → Prop} {I : mI} {H : Heap} {locs : List Loc} {ls : Array Slot} (hw : w_X12_clears_22 o a1 post I) (hM : mm D cA bs (n, K, R, I, L) H) (hS : va_S (Ab bs) s.heap H locs) (hl : lv_has ls 3 [(0, .ref (ad bs o)), (1, .int a1)]) : W p l e ({ frames := 0, cells := 0, slots := 0, locals := 0 } : Room) s m args below meth c H locs 0 0 (MQ below (QV D cA bs (fun u => ∃ I', u = (n, K, R, I', L) ∧ post I')) args s 0 0 (Ab bs)) (F0 m 22 ls []) := by
  have hx := E.1.1
  have hb := E.1.2.1
  refine lv_iload_n hx hb dX12_clears_22 rfl (lv_at hl 1 rfl) ?_
  refine lv_iconst (v := 1) hx hb dX12_clears_23 (by decide) ?_
  refine lv_icmp_ne (tgt := 28) hx hb dX12_clears_24 (by decide) (fun cq => ?_) (fun cq => ?_)
  · have hw := hw.1 cq
    refine lv_aload_n hx hb dX12_clears_28 rfl (lv_at hl 0 rfl) ?_
    refine m_getr E hM fs_X12_17 ho.1 (isO_at ho 2 rfl).1 dX12_clears_29 ?_
    refine lv_iconst (v := 0) hx hb dX12_clears_32 (by decide) ?_
    refine lv_bipush (v := 12) hx hb dX12_clears_33 (by decide) ?_
    refine m_iast E hM hS (isO_at ho 2 rfl).2 (by unfold vp_in; decide) dX12_clears_35 (fun I3 H locs eI3 hM hS => ?_)
    have hw := hw I3 eI3
    refine lv_aload_n hx hb dX12_clears_36 rfl (lv_at hl 0 rfl) ?_
    refine m_getr E hM fs_X12_17 ho.1 (isO_at ho 2 rfl).1 dX12_clears_37 ?_
    refine lv_iconst (v := 1) hx hb dX12_clears_40 (by decide) ?_
    refine lv_bipush (v := 60) hx hb dX12_clears_41 (by decide) ?_
    refine m_iast E hM hS (isO_at ho 2 rfl).2 (by unfold vp_in; decide) dX12_clears_43 (fun I4 H locs eI4 hM hS => ?_)
    have hw := hw I4 eI4
    refine lv_iconst (v := 0) hx hb dX12_clears_44 (by decide) ?_
    refine lv_istore_n (lv' := [(2, .int 0), (0, .ref (ad bs o)), (1, .int a1)]) hx hb dX12_clears_45 rfl hl (by decide) rfl (fun ls hl => ?_)
    exact s_X12_clears_46 E hr hlk ho  hw hM hS (lv_sub hl [1, 0] rfl)
  · have hw := hw.2 cq
    exact m_retv hx hb hr hlk hM hS ⟨_, rfl, hw⟩ dX12_clears_27
def w_X12_clears (I : mI) (o : Nat) (a1 : Int32) (post : mI → Prop) : Prop := (w_X12_clears_2 o a1 post (w_X12_clears_22 o a1 post)) I 0
set_option maxRecDepth 100000 in
set_option maxHeartbeats 4000000 in
theorem c_X12_clears {l : Launch} {D : va_G} {cA : Nat → ClassId} {Z : mZ} {bs : Ad} {n : Nat} {K : mK} {R : mR} {I : mI} {L : mL} {o : Nat} {a1 : Int32} {post : mI → Prop} (ho : isX12 K R o) (hw : w_X12_clears I o a1 post) : Met l yX12_clears (.code yX12_clears cX12_clears 3 none :: gw) ({ frames := 0, cells := 0, slots := 0, locals := 0 } : Room) (PreM D cA Z bs (n, K, R, I, L) [.ref (ad bs o), .int a1]) (QV D cA bs (fun u => ∃ I', u = (n, K, R, I', L) ∧ post I')) 0 0 (Ab bs) := by
  refine m_met (by decide) (Nat.le_of_ble_eq_true rfl) (fun p e s m below meth c ls E hr hlk hM hS hl => ?_)
  have E : Ev p s m _ c cX12_clears 3 RX12 D cA Z bs := E
  have hl : lv_has ls 3 [(0, .ref (ad bs o)), (1, .int a1)] := hl
  have hx := E.1.1
  have hb := E.1.2.1
  generalize hHe : s.heap = H at hM ⊢
  have hS : va_S (Ab bs) s.heap H [] := by rw [← hHe]; exact va_S.rf
  clear hHe
  refine lv_iconst (v := 0) hx hb dX12_clears_0 (by decide) ?_
  refine lv_istore_n (lv' := [(2, .int 0), (0, .ref (ad bs o)), (1, .int a1)]) hx hb dX12_clears_1 rfl hl (by decide) rfl (fun ls hl => ?_)
  exact s_X12_clears_2 E hr hlk ho (fun I H locs ls  hw hM hS hl => s_X12_clears_22 E hr hlk ho  hw hM hS hl)  hw hM hS (lv_sub hl [1, 2, 0] rfl)
theorem dX12_text_0 : decode cX12_text 0 = .ok (.aload_n 0, 1) := by decide +kernel
theorem dX12_text_1 : decode cX12_text 1 = .ok (.aload_n 0, 1) := by decide +kernel
theorem dX12_text_2 : decode cX12_text 2 = .ok (.getfield 7, 3) := by decide +kernel
theorem dX12_text_5 : decode cX12_text 5 = .ok (.iconst 2, 1) := by decide +kernel
theorem dX12_text_6 : decode cX12_text 6 = .ok (.iaload, 1) := by decide +kernel
theorem dX12_text_7 : decode cX12_text 7 = .ok (.putfield 78, 3) := by decide +kernel
theorem dX12_text_10 : decode cX12_text 10 = .ok (.aload_n 0, 1) := by decide +kernel
theorem dX12_text_11 : decode cX12_text 11 = .ok (.getfield 7, 3) := by decide +kernel
theorem dX12_text_14 : decode cX12_text 14 = .ok (.iconst 2, 1) := by decide +kernel
theorem dX12_text_15 : decode cX12_text 15 = .ok (.iconst 0, 1) := by decide +kernel
theorem dX12_text_16 : decode cX12_text 16 = .ok (.iastore, 1) := by decide +kernel
theorem dX12_text_17 : decode cX12_text 17 = .ok (.aload_n 0, 1) := by decide +kernel
theorem dX12_text_18 : decode cX12_text 18 = .ok (.getfield 7, 3) := by decide +kernel
theorem dX12_text_21 : decode cX12_text 21 = .ok (.iconst 3, 1) := by decide +kernel
theorem dX12_text_22 : decode cX12_text 22 = .ok (.iconst 0, 1) := by decide +kernel
theorem dX12_text_23 : decode cX12_text 23 = .ok (.iastore, 1) := by decide +kernel
theorem dX12_text_24 : decode cX12_text 24 = .ok (.aload_n 0, 1) := by decide +kernel
theorem dX12_text_25 : decode cX12_text 25 = .ok (.getfield 7, 3) := by decide +kernel
theorem dX12_text_28 : decode cX12_text 28 = .ok (.iconst 4, 1) := by decide +kernel
theorem dX12_text_29 : decode cX12_text 29 = .ok (.iconst (-1), 1) := by decide +kernel
theorem dX12_text_30 : decode cX12_text 30 = .ok (.iastore, 1) := by decide +kernel
theorem dX12_text_31 : decode cX12_text 31 = .ok (.iload_n 1, 1) := by decide +kernel
theorem dX12_text_32 : decode cX12_text 32 = .ok (.iconst 0, 1) := by decide +kernel
theorem dX12_text_33 : decode cX12_text 33 = .ok (.iconst 1, 1) := by decide +kernel
theorem dX12_text_34 : decode cX12_text 34 = .ok (.invokestatic 133, 3) := by decide +kernel
theorem dX12_text_37 : decode cX12_text 37 = .ok (.ifCond .eq 30, 3) := by decide +kernel
theorem dX12_text_40 : decode cX12_text 40 = .ok (.iload_n 2, 1) := by decide +kernel
theorem dX12_text_41 : decode cX12_text 41 = .ok (.iconst (-1), 1) := by decide +kernel
theorem dX12_text_42 : decode cX12_text 42 = .ok (.if_icmp .ne 16, 3) := by decide +kernel
theorem dX12_text_45 : decode cX12_text 45 = .ok (.aload_n 0, 1) := by decide +kernel
theorem dX12_text_46 : decode cX12_text 46 = .ok (.getfield 7, 3) := by decide +kernel
theorem dX12_text_49 : decode cX12_text 49 = .ok (.iload_n 1, 1) := by decide +kernel
theorem dX12_text_50 : decode cX12_text 50 = .ok (.iaload, 1) := by decide +kernel
theorem dX12_text_51 : decode cX12_text 51 = .ok (.iconst 2, 1) := by decide +kernel
theorem dX12_text_52 : decode cX12_text 52 = .ok (.if_icmp .lt 18, 3) := by decide +kernel
theorem dX12_text_55 : decode cX12_text 55 = .ok (.goto 12, 3) := by decide +kernel
theorem dX12_text_58 : decode cX12_text 58 = .ok (.aload_n 0, 1) := by decide +kernel
theorem dX12_text_59 : decode cX12_text 59 = .ok (.iload_n 1, 1) := by decide +kernel
theorem dX12_text_60 : decode cX12_text 60 = .ok (.iload_n 2, 1) := by decide +kernel
theorem dX12_text_61 : decode cX12_text 61 = .ok (.invokevirtual 183, 3) := by decide +kernel
theorem dX12_text_64 : decode cX12_text 64 = .ok (.ifCond .ne 6, 3) := by decide +kernel
theorem dX12_text_67 : decode cX12_text 67 = .ok (.bipush (-2), 2) := by decide +kernel
theorem dX12_text_69 : decode cX12_text 69 = .ok (.ireturn, 1) := by decide +kernel
theorem dX12_text_70 : decode cX12_text 70 = .ok (.aload_n 0, 1) := by decide +kernel
theorem dX12_text_71 : decode cX12_text 71 = .ok (.iconst 0, 1) := by decide +kernel
theorem dX12_text_72 : decode cX12_text 72 = .ok (.putfield 92, 3) := by decide +kernel
theorem dX12_text_75 : decode cX12_text 75 = .ok (.aload_n 0, 1) := by decide +kernel
theorem dX12_text_76 : decode cX12_text 76 = .ok (.iconst 0, 1) := by decide +kernel
theorem dX12_text_77 : decode cX12_text 77 = .ok (.putfield 126, 3) := by decide +kernel
theorem dX12_text_80 : decode cX12_text 80 = .ok (.aload_n 0, 1) := by decide +kernel
theorem dX12_text_81 : decode cX12_text 81 = .ok (.iconst (-1), 1) := by decide +kernel
theorem dX12_text_82 : decode cX12_text 82 = .ok (.putfield 148, 3) := by decide +kernel
theorem dX12_text_85 : decode cX12_text 85 = .ok (.aload_n 0, 1) := by decide +kernel
theorem dX12_text_86 : decode cX12_text 86 = .ok (.iconst (-1), 1) := by decide +kernel
theorem dX12_text_87 : decode cX12_text 87 = .ok (.putfield 151, 3) := by decide +kernel
theorem dX12_text_90 : decode cX12_text 90 = .ok (.aload_n 0, 1) := by decide +kernel
theorem dX12_text_91 : decode cX12_text 91 = .ok (.iload_n 1, 1) := by decide +kernel
theorem dX12_text_92 : decode cX12_text 92 = .ok (.invokevirtual 187, 3) := by decide +kernel
theorem dX12_text_95 : decode cX12_text 95 = .ok (.aload_n 0, 1) := by decide +kernel
theorem dX12_text_96 : decode cX12_text 96 = .ok (.invokevirtual 141, 3) := by decide +kernel
theorem dX12_text_99 : decode cX12_text 99 = .ok (.aload_n 0, 1) := by decide +kernel
theorem dX12_text_100 : decode cX12_text 100 = .ok (.getfield 126, 3) := by decide +kernel
theorem dX12_text_103 : decode cX12_text 103 = .ok (.ifCond .ne 28, 3) := by decide +kernel
theorem dX12_text_106 : decode cX12_text 106 = .ok (.aload_n 0, 1) := by decide +kernel
theorem dX12_text_107 : decode cX12_text 107 = .ok (.getfield 102, 3) := by decide +kernel
theorem dX12_text_110 : decode cX12_text 110 = .ok (.ifCond .eq 21, 3) := by decide +kernel
theorem dX12_text_113 : decode cX12_text 113 = .ok (.iload_n 1, 1) := by decide +kernel
theorem dX12_text_114 : decode cX12_text 114 = .ok (.ifCond .ne 10, 3) := by decide +kernel
theorem dX12_text_117 : decode cX12_text 117 = .ok (.aload_n 0, 1) := by decide +kernel
theorem dX12_text_118 : decode cX12_text 118 = .ok (.invokevirtual 190, 3) := by decide +kernel
theorem dX12_text_121 : decode cX12_text 121 = .ok (.goto (-22), 3) := by decide +kernel
theorem dX12_text_124 : decode cX12_text 124 = .ok (.aload_n 0, 1) := by decide +kernel
theorem dX12_text_125 : decode cX12_text 125 = .ok (.invokevirtual 193, 3) := by decide +kernel
theorem dX12_text_128 : decode cX12_text 128 = .ok (.goto (-29), 3) := by decide +kernel
theorem dX12_text_131 : decode cX12_text 131 = .ok (.aload_n 0, 1) := by decide +kernel
theorem dX12_text_132 : decode cX12_text 132 = .ok (.getfield 7, 3) := by decide +kernel
theorem dX12_text_135 : decode cX12_text 135 = .ok (.iconst 3, 1) := by decide +kernel
theorem dX12_text_136 : decode cX12_text 136 = .ok (.iaload, 1) := by decide +kernel
theorem dX12_text_137 : decode cX12_text 137 = .ok (.ifCond .ne 42, 3) := by decide +kernel
theorem dX12_text_140 : decode cX12_text 140 = .ok (.iload_n 1, 1) := by decide +kernel
theorem dX12_text_141 : decode cX12_text 141 = .ok (.ifCond .ne 38, 3) := by decide +kernel
theorem dX12_text_144 : decode cX12_text 144 = .ok (.aload_n 0, 1) := by decide +kernel
theorem dX12_text_145 : decode cX12_text 145 = .ok (.getfield 148, 3) := by decide +kernel
theorem dX12_text_148 : decode cX12_text 148 = .ok (.aload_n 0, 1) := by decide +kernel
theorem dX12_text_149 : decode cX12_text 149 = .ok (.getfield 17, 3) := by decide +kernel
theorem dX12_text_152 : decode cX12_text 152 = .ok (.iconst 3, 1) := by decide +kernel
theorem dX12_text_153 : decode cX12_text 153 = .ok (.iaload, 1) := by decide +kernel
theorem dX12_text_154 : decode cX12_text 154 = .ok (.if_icmp .ge 16, 3) := by decide +kernel
theorem dX12_text_157 : decode cX12_text 157 = .ok (.aload_n 0, 1) := by decide +kernel
theorem dX12_text_158 : decode cX12_text 158 = .ok (.getfield 151, 3) := by decide +kernel
theorem dX12_text_161 : decode cX12_text 161 = .ok (.aload_n 0, 1) := by decide +kernel
theorem dX12_text_162 : decode cX12_text 162 = .ok (.getfield 17, 3) := by decide +kernel
theorem dX12_text_165 : decode cX12_text 165 = .ok (.iconst 0, 1) := by decide +kernel
theorem dX12_text_166 : decode cX12_text 166 = .ok (.iaload, 1) := by decide +kernel
theorem dX12_text_167 : decode cX12_text 167 = .ok (.if_icmp .lt 12, 3) := by decide +kernel
theorem dX12_text_170 : decode cX12_text 170 = .ok (.aload_n 0, 1) := by decide +kernel
theorem dX12_text_171 : decode cX12_text 171 = .ok (.iconst 4, 1) := by decide +kernel
theorem dX12_text_172 : decode cX12_text 172 = .ok (.aload_n 0, 1) := by decide +kernel
theorem dX12_text_173 : decode cX12_text 173 = .ok (.getfield 99, 3) := by decide +kernel
theorem dX12_text_176 : decode cX12_text 176 = .ok (.invokevirtual 137, 3) := by decide +kernel
theorem dX12_text_179 : decode cX12_text 179 = .ok (.aload_n 0, 1) := by decide +kernel
theorem dX12_text_180 : decode cX12_text 180 = .ok (.getfield 7, 3) := by decide +kernel
theorem dX12_text_183 : decode cX12_text 183 = .ok (.iconst 3, 1) := by decide +kernel
theorem dX12_text_184 : decode cX12_text 184 = .ok (.iaload, 1) := by decide +kernel
theorem dX12_text_185 : decode cX12_text 185 = .ok (.ifCond .eq 5, 3) := by decide +kernel
theorem dX12_text_188 : decode cX12_text 188 = .ok (.iconst (-1), 1) := by decide +kernel
theorem dX12_text_189 : decode cX12_text 189 = .ok (.ireturn, 1) := by decide +kernel
theorem dX12_text_190 : decode cX12_text 190 = .ok (.iload_n 2, 1) := by decide +kernel
theorem dX12_text_191 : decode cX12_text 191 = .ok (.iconst (-1), 1) := by decide +kernel
theorem dX12_text_192 : decode cX12_text 192 = .ok (.if_icmp .ne 12, 3) := by decide +kernel
theorem dX12_text_195 : decode cX12_text 195 = .ok (.aload_n 0, 1) := by decide +kernel
theorem dX12_text_196 : decode cX12_text 196 = .ok (.getfield 7, 3) := by decide +kernel
theorem dX12_text_199 : decode cX12_text 199 = .ok (.iload_n 1, 1) := by decide +kernel
theorem dX12_text_200 : decode cX12_text 200 = .ok (.iaload, 1) := by decide +kernel
theorem dX12_text_201 : decode cX12_text 201 = .ok (.goto 4, 3) := by decide +kernel
theorem dX12_text_204 : decode cX12_text 204 = .ok (.iload_n 2, 1) := by decide +kernel
theorem dX12_text_205 : decode cX12_text 205 = .ok (.istore_n 3, 1) := by decide +kernel
theorem dX12_text_206 : decode cX12_text 206 = .ok (.iload_n 2, 1) := by decide +kernel
theorem dX12_text_207 : decode cX12_text 207 = .ok (.iconst (-1), 1) := by decide +kernel
theorem dX12_text_208 : decode cX12_text 208 = .ok (.if_icmp .ne 13, 3) := by decide +kernel
theorem dX12_text_211 : decode cX12_text 211 = .ok (.aload_n 0, 1) := by decide +kernel
theorem dX12_text_212 : decode cX12_text 212 = .ok (.getfield 7, 3) := by decide +kernel
theorem dX12_text_215 : decode cX12_text 215 = .ok (.iload_n 1, 1) := by decide +kernel
theorem dX12_text_216 : decode cX12_text 216 = .ok (.dup2, 1) := by decide +kernel
theorem dX12_text_217 : decode cX12_text 217 = .ok (.iaload, 1) := by decide +kernel
theorem dX12_text_218 : decode cX12_text 218 = .ok (.iconst 1, 1) := by decide +kernel
theorem dX12_text_219 : decode cX12_text 219 = .ok (.iadd, 1) := by decide +kernel
theorem dX12_text_220 : decode cX12_text 220 = .ok (.iastore, 1) := by decide +kernel
theorem dX12_text_221 : decode cX12_text 221 = .ok (.iconst 0, 1) := by decide +kernel
theorem dX12_text_222 : decode cX12_text 222 = .ok (.istore 4, 2) := by decide +kernel
theorem dX12_text_224 : decode cX12_text 224 = .ok (.iload 4, 2) := by decide +kernel
theorem dX12_text_226 : decode cX12_text 226 = .ok (.iload_n 1, 1) := by decide +kernel
theorem dX12_text_227 : decode cX12_text 227 = .ok (.ifCond .ne 9, 3) := by decide +kernel
theorem dX12_text_230 : decode cX12_text 230 = .ok (.sipush 149, 3) := by decide +kernel
theorem dX12_text_233 : decode cX12_text 233 = .ok (.goto 5, 3) := by decide +kernel
theorem dX12_text_236 : decode cX12_text 236 = .ok (.bipush 41, 2) := by decide +kernel
theorem dX12_text_238 : decode cX12_text 238 = .ok (.if_icmp .ge 29, 3) := by decide +kernel
theorem dX12_text_241 : decode cX12_text 241 = .ok (.aload_n 0, 1) := by decide +kernel
theorem dX12_text_242 : decode cX12_text 242 = .ok (.getfield 7, 3) := by decide +kernel
theorem dX12_text_245 : decode cX12_text 245 = .ok (.iload_n 1, 1) := by decide +kernel
theorem dX12_text_246 : decode cX12_text 246 = .ok (.iload_n 3, 1) := by decide +kernel
theorem dX12_text_247 : decode cX12_text 247 = .ok (.invokestatic 196, 3) := by decide +kernel
theorem dX12_text_250 : decode cX12_text 250 = .ok (.iload 4, 2) := by decide +kernel
theorem dX12_text_252 : decode cX12_text 252 = .ok (.iadd, 1) := by decide +kernel
theorem dX12_text_253 : decode cX12_text 253 = .ok (.aload_n 0, 1) := by decide +kernel
theorem dX12_text_254 : decode cX12_text 254 = .ok (.getfield 17, 3) := by decide +kernel
theorem dX12_text_257 : decode cX12_text 257 = .ok (.iload 4, 2) := by decide +kernel
theorem dX12_text_259 : decode cX12_text 259 = .ok (.iaload, 1) := by decide +kernel
theorem dX12_text_260 : decode cX12_text 260 = .ok (.iastore, 1) := by decide +kernel
theorem dX12_text_261 : decode cX12_text 261 = .ok (.iinc 4 1, 3) := by decide +kernel
theorem dX12_text_264 : decode cX12_text 264 = .ok (.goto (-40), 3) := by decide +kernel
theorem dX12_text_267 : decode cX12_text 267 = .ok (.iload_n 3, 1) := by decide +kernel
theorem dX12_text_268 : decode cX12_text 268 = .ok (.ireturn, 1) := by decide +kernel
def w_X12_text_99 (o : Nat) (a1 : Int32) (a2 : Int32) (post : Int32 → mI → Prop) (k131 : mI → Prop) (I : mI) : Prop := ∀ ZZ : (mI → Prop), (∀ (I : mI), ((¬ (I o 8) = 0 → k131 I) ∧ ((I o 8) = 0 → ((I o 5) = 0 → k131 I) ∧ (¬ (I o 5) = 0 → (¬ a1 = 0 → w_X12_soundLine I o (fun I13 => ZZ I13)) ∧ (a1 = 0 → w_X12_houseLine I o (fun I14 => ZZ I14))))) → ZZ I) → ZZ I
set_option maxRecDepth 100000 in
set_option maxHeartbeats 4000000 in
theorem s_X12_text_99 {p : Program} {l : Launch} {e : Env} {s : State} {m : MethodId} {args : Array Value} {below : List Frame} {meth : Method} {c : Code} {D : va_G} {cA : Nat → ClassId} {Z : mZ} {bs : Ad} {n : Nat} {K : mK} {R : mR} {L : mL} (E : Ev p s m args c cX12_text 5 RX12 D cA Z bs) (hr : meth.sig.returnType = (some .int)) (hlk : meth.locks = false) {o : Nat} {a1 : Int32} {a2 : Int32} (ho : isX12 K R o) {post : Int32 → mI → Prop} {k131 : mI → Prop} (hk131 : ∀ (I : mI) (H : Heap) (locs : List Loc) (ls : Array Slot), k131 I → mm D cA bs (n, K, R, I, L) H → va_S (Ab bs) s.heap H locs → lv_has ls 5 [(0, .ref (ad bs o)), (1, .int a1), (2, .int a2)] → W p l e ({ frames := 8, cells := 0, slots := 0, locals := 187 } : Room) s m args below meth c H locs 0 0 (MQ below (QI D cA bs (fun r u => ∃ I', u = (n, K, R, I', L) ∧ post r I')) args s 0 0 (Ab bs)) (F0 m 131 ls [])) {I : mI} {H : Heap} {locs : List Loc} {ls : Array Slot} (hw : w_X12_text_99 o a1 a2 post k131 I) (hM : mm D cA bs (n, K, R, I, L) H) (hS : va_S (Ab bs) s.heap H locs) (hl : lv_has ls 5 [(0, .ref (ad bs o)), (1, .int a1), (2, .int a2)]) : W p l e ({ frames := 8, cells := 0, slots := 0, locals := 187 } : Room) s m args below meth c H locs 0 0 (MQ below (QI D cA bs (fun r u => ∃ I', u = (n, K, R, I', L) ∧ post r I')) args s 0 0 (Ab bs)) (F0 m 99 ls []) := by
  have hx := E.1.1
  have hb := E.1.2.1
  refine hw (fun I => ∀ (H : Heap) (locs : List Loc) (ls : Array Slot), mm D cA bs (n, K, R, I, L) H → va_S (Ab bs) s.heap H locs → lv_has ls 5 [(0, .ref (ad bs o)), (1, .int a1), (2, .int a2)] → W p l e ({ frames := 8, cells := 0, slots := 0, locals := 187 } : Room) s m args below meth c H locs 0 0 (MQ below (QI D cA bs (fun r u => ∃ I', u = (n, K, R, I', L) ∧ post r I')) args s 0 0 (Ab bs)) (F0 m 99 ls [])) ?_ H locs ls hM hS hl
  clear hw hM hS hl
  intro I hw H locs ls hM hS hl
  refine lv_aload_n hx hb dX12_text_99 rfl (lv_at hl 0 rfl) ?_
  refine m_geti E hM fs_X12_126 ho.1 dX12_text_100 ?_
  refine lv_if_ne (tgt := 131) hx hb dX12_text_103 (by decide) (fun cq => ?_) (fun cq => ?_)
  · have hw := hw.1 cq
    exact hk131 _ H locs ls  hw hM hS (lv_sub hl [0, 1, 2] rfl)
  · have hw := hw.2 cq
    refine lv_aload_n hx hb dX12_text_106 rfl (lv_at hl 0 rfl) ?_
    refine m_geti E hM fs_X12_102 ho.1 dX12_text_107 ?_
    refine lv_if_eq (tgt := 131) hx hb dX12_text_110 (by decide) (fun cq => ?_) (fun cq => ?_)
    · have hw := hw.1 cq
      exact hk131 _ H locs ls  hw hM hS (lv_sub hl [0, 1, 2] rfl)
    · have hw := hw.2 cq
      refine lv_iload_n hx hb dX12_text_113 rfl (lv_at hl 1 rfl) ?_
      refine lv_if_ne (tgt := 124) hx hb dX12_text_114 (by decide) (fun cq => ?_) (fun cq => ?_)
      · have hw := hw.1 cq
        refine lv_aload_n hx hb dX12_text_124 rfl (lv_at hl 0 rfl) ?_
        refine m_cv (m_runV E hM hS cs_X12_193 ho.1 (by decide) rfl rfl (c_X12_soundLine ho hw) rfl rfl ⟨Nat.le_of_ble_eq_true rfl, Nat.le_of_ble_eq_true rfl⟩ rfl hl.1 rfl (Nat.le_of_ble_eq_true rfl) dX12_text_125 ⟨Nat.le_of_ble_eq_true rfl, Nat.le_of_ble_eq_true rfl⟩) hS (fun u H locs hp hM hS => ?_)
        obtain ⟨I13, rfl, hw⟩ := hp
        refine lv_goto (tgt := 99) hx hb dX12_text_128 (by decide) ?_
        exact hw H locs ls  hM hS (lv_sub hl [0, 1, 2] rfl)
      · have hw := hw.2 cq
        refine lv_aload_n hx hb dX12_text_117 rfl (lv_at hl 0 rfl) ?_
        refine m_cv (m_runV E hM hS cs_X12_190 ho.1 (by decide) rfl rfl (c_X12_houseLine ho hw) rfl rfl ⟨Nat.le_of_ble_eq_true rfl, Nat.le_of_ble_eq_true rfl⟩ rfl hl.1 rfl (Nat.le_of_ble_eq_true rfl) dX12_text_118 ⟨Nat.le_of_ble_eq_true rfl, Nat.le_of_ble_eq_true rfl⟩) hS (fun u H locs hp hM hS => ?_)
        obtain ⟨I14, rfl, hw⟩ := hp
        refine lv_goto (tgt := 99) hx hb dX12_text_121 (by decide) ?_
        exact hw H locs ls  hM hS (lv_sub hl [0, 1, 2] rfl)
def w_X12_text_238 (o : Nat) (a1 : Int32) (a2 : Int32) (post : Int32 → mI → Prop) (k224 : mI → Int32 → Int32 → Prop) (I : mI) (v3 : Int32) (v4 : Int32) (s0 : Int32) (s1 : Int32) : Prop := (s1 ≤ s0 → post v3 I) ∧ (¬ s1 ≤ s0 → w_X12_placeOf a1 v3 (fun r17 => vp_in v4 149 ∧ vp_in (r17 + v4) 3960 ∧ ∀ I18, I18 = up2 I (o + 1) ((r17 + v4).toNatClampNeg) (I (o + 3) v4.toNatClampNeg) → ∀ x19, x19 = v4 + 1 → k224 I18 v3 x19))
set_option maxRecDepth 100000 in
set_option maxHeartbeats 4000000 in
theorem s_X12_text_238 {p : Program} {l : Launch} {e : Env} {s : State} {m : MethodId} {args : Array Value} {below : List Frame} {meth : Method} {c : Code} {D : va_G} {cA : Nat → ClassId} {Z : mZ} {bs : Ad} {n : Nat} {K : mK} {R : mR} {L : mL} (E : Ev p s m args c cX12_text 5 RX12 D cA Z bs) (hr : meth.sig.returnType = (some .int)) (hlk : meth.locks = false) {o : Nat} {a1 : Int32} {a2 : Int32} (ho : isX12 K R o) {post : Int32 → mI → Prop} {k224 : mI → Int32 → Int32 → Prop} (hk224 : ∀ (I : mI) (v3 : Int32) (v4 : Int32) (H : Heap) (locs : List Loc) (ls : Array Slot), k224 I v3 v4 → mm D cA bs (n, K, R, I, L) H → va_S (Ab bs) s.heap H locs → lv_has ls 5 [(0, .ref (ad bs o)), (1, .int a1), (3, .int v3), (4, .int v4)] → W p l e ({ frames := 8, cells := 0, slots := 0, locals := 187 } : Room) s m args below meth c H locs 0 0 (MQ below (QI D cA bs (fun r u => ∃ I', u = (n, K, R, I', L) ∧ post r I')) args s 0 0 (Ab bs)) (F0 m 224 ls [])) {I : mI} {v3 : Int32} {v4 : Int32} {s0 : Int32} {s1 : Int32} {H : Heap} {locs : List Loc} {ls : Array Slot} (hw : w_X12_text_238 o a1 a2 post k224 I v3 v4 s0 s1) (hM : mm D cA bs (n, K, R, I, L) H) (hS : va_S (Ab bs) s.heap H locs) (hl : lv_has ls 5 [(0, .ref (ad bs o)), (1, .int a1), (3, .int v3), (4, .int v4)]) : W p l e ({ frames := 8, cells := 0, slots := 0, locals := 187 } : Room) s m args below meth c H locs 0 0 (MQ below (QI D cA bs (fun r u => ∃ I', u = (n, K, R, I', L) ∧ post r I')) args s 0 0 (Ab bs)) (F0 m 238 ls [.int s1, .int s0]) := by
  have hx := E.1.1
  have hb := E.1.2.1
  refine lv_icmp_ge (tgt := 267) hx hb dX12_text_238 (by decide) (fun cq => ?_) (fun cq => ?_)
  · have hw := hw.1 cq
    refine lv_iload_n hx hb dX12_text_267 rfl (lv_at hl 2 rfl) ?_
    exact m_reti hx hb hr hlk hM hS ⟨_, rfl, hw⟩ dX12_text_268
  · have hw := hw.2 cq
    refine lv_aload_n hx hb dX12_text_241 rfl (lv_at hl 0 rfl) ?_
    refine m_getr E hM fs_X12_7 ho.1 (isO_at ho 0 rfl).1 dX12_text_242 ?_
    refine lv_iload_n hx hb dX12_text_245 rfl (lv_at hl 1 rfl) ?_
    refine lv_iload_n hx hb dX12_text_246 rfl (lv_at hl 2 rfl) ?_
    refine m_ci (m_runS E hM hS cs_X12_196 (c_X12_placeOf  hw) rfl rfl ⟨Nat.le_of_ble_eq_true rfl, Nat.le_of_ble_eq_true rfl⟩ rfl hl.1 rfl (Nat.le_of_ble_eq_true rfl) dX12_text_247 ⟨Nat.le_of_ble_eq_true rfl, Nat.le_of_ble_eq_true rfl⟩) hS (fun r17 u H locs hp hM hS => ?_)
    obtain ⟨rfl, hw⟩ := hp
    refine lv_iload hx hb dX12_text_250 (lv_at hl 3 rfl) ?_
    refine lv_iadd hx hb dX12_text_252 ?_
    refine lv_aload_n hx hb dX12_text_253 rfl (lv_at hl 0 rfl) ?_
    refine m_getr E hM fs_X12_17 ho.1 (isO_at ho 2 rfl).1 dX12_text_254 ?_
    refine lv_iload hx hb dX12_text_257 (lv_at hl 3 rfl) ?_
    obtain ⟨hv, hw⟩ := hw
    refine m_iald E hM (isO_at ho 2 rfl).2 hv dX12_text_259 ?_
    obtain ⟨hv, hw⟩ := hw
    refine m_iast E hM hS (isO_at ho 0 rfl).2 hv dX12_text_260 (fun I18 H locs eI18 hM hS => ?_)
    have hw := hw I18 eI18
    obtain ⟨x19, ex19⟩ : ∃ y : Int32, y = v4 + 1 := ⟨_, rfl⟩
    have hw := hw x19 ex19
    refine lv_iinc (v := x19) (lv' := [(4, .int x19), (0, .ref (ad bs o)), (1, .int a1), (3, .int v3)]) hx hb dX12_text_261 hl (k := 3) rfl (by rw [ex19]; rfl) (by decide) rfl (fun ls hl => ?_)
    refine lv_goto (tgt := 224) hx hb dX12_text_264 (by decide) ?_
    exact hk224 _ _ _ H locs ls  hw hM hS (lv_sub hl [1, 2, 3, 0] rfl)
def w_X12_text_224 (o : Nat) (a1 : Int32) (a2 : Int32) (post : Int32 → mI → Prop) (I : mI) (v3 : Int32) (v4 : Int32) : Prop := ∀ ZZ : (mI → Int32 → Int32 → Prop), (∀ (I : mI) (v3 : Int32) (v4 : Int32), ((¬ a1 = 0 → (w_X12_text_238 o a1 a2 post ZZ) I v3 v4 v4 41) ∧ (a1 = 0 → (w_X12_text_238 o a1 a2 post ZZ) I v3 v4 v4 149)) → ZZ I v3 v4) → ZZ I v3 v4
set_option maxRecDepth 100000 in
set_option maxHeartbeats 4000000 in
theorem s_X12_text_224 {p : Program} {l : Launch} {e : Env} {s : State} {m : MethodId} {args : Array Value} {below : List Frame} {meth : Method} {c : Code} {D : va_G} {cA : Nat → ClassId} {Z : mZ} {bs : Ad} {n : Nat} {K : mK} {R : mR} {L : mL} (E : Ev p s m args c cX12_text 5 RX12 D cA Z bs) (hr : meth.sig.returnType = (some .int)) (hlk : meth.locks = false) {o : Nat} {a1 : Int32} {a2 : Int32} (ho : isX12 K R o) {post : Int32 → mI → Prop} {I : mI} {v3 : Int32} {v4 : Int32} {H : Heap} {locs : List Loc} {ls : Array Slot} (hw : w_X12_text_224 o a1 a2 post I v3 v4) (hM : mm D cA bs (n, K, R, I, L) H) (hS : va_S (Ab bs) s.heap H locs) (hl : lv_has ls 5 [(0, .ref (ad bs o)), (1, .int a1), (3, .int v3), (4, .int v4)]) : W p l e ({ frames := 8, cells := 0, slots := 0, locals := 187 } : Room) s m args below meth c H locs 0 0 (MQ below (QI D cA bs (fun r u => ∃ I', u = (n, K, R, I', L) ∧ post r I')) args s 0 0 (Ab bs)) (F0 m 224 ls []) := by
  have hx := E.1.1
  have hb := E.1.2.1
  refine hw (fun I v3 v4 => ∀ (H : Heap) (locs : List Loc) (ls : Array Slot), mm D cA bs (n, K, R, I, L) H → va_S (Ab bs) s.heap H locs → lv_has ls 5 [(0, .ref (ad bs o)), (1, .int a1), (3, .int v3), (4, .int v4)] → W p l e ({ frames := 8, cells := 0, slots := 0, locals := 187 } : Room) s m args below meth c H locs 0 0 (MQ below (QI D cA bs (fun r u => ∃ I', u = (n, K, R, I', L) ∧ post r I')) args s 0 0 (Ab bs)) (F0 m 224 ls [])) ?_ H locs ls hM hS hl
  clear hw hM hS hl
  intro I v3 v4 hw H locs ls hM hS hl
  refine lv_iload hx hb dX12_text_224 (lv_at hl 3 rfl) ?_
  refine lv_iload_n hx hb dX12_text_226 rfl (lv_at hl 1 rfl) ?_
  refine lv_if_ne (tgt := 236) hx hb dX12_text_227 (by decide) (fun cq => ?_) (fun cq => ?_)
  · have hw := hw.1 cq
    refine lv_bipush (v := 41) hx hb dX12_text_236 (by decide) ?_
    exact s_X12_text_238 E hr hlk ho (fun I v3 v4 H locs ls  hw hM hS hl => hw H locs ls  hM hS hl)  hw hM hS (lv_sub hl [0, 1, 2, 3] rfl)
  · have hw := hw.2 cq
    refine lv_sipush (v := 149) hx hb dX12_text_230 (by decide) ?_
    refine lv_goto (tgt := 238) hx hb dX12_text_233 (by decide) ?_
    exact s_X12_text_238 E hr hlk ho (fun I v3 v4 H locs ls  hw hM hS hl => hw H locs ls  hM hS hl)  hw hM hS (lv_sub hl [0, 1, 2, 3] rfl)
def w_X12_text_205 (o : Nat) (a1 : Int32) (a2 : Int32) (post : Int32 → mI → Prop) (I : mI) (s0 : Int32) : Prop := (¬ a2 = (-1) → (w_X12_text_224 o a1 a2 post) I s0 0) ∧ (a2 = (-1) → vp_in a1 3960 ∧ vp_in a1 3960 ∧ ∀ I16, I16 = up2 I (o + 1) a1.toNatClampNeg ((I (o + 1) a1.toNatClampNeg) + 1) → (w_X12_text_224 o a1 a2 post) I16 s0 0)
set_option maxRecDepth 100000 in
set_option maxHeartbeats 4000000 in
theorem s_X12_text_205 {p : Program} {l : Launch} {e : Env} {s : State} {m : MethodId} {args : Array Value} {below : List Frame} {meth : Method} {c : Code} {D : va_G} {cA : Nat → ClassId} {Z : mZ} {bs : Ad} {n : Nat} {K : mK} {R : mR} {L : mL} (E : Ev p s m args c cX12_text 5 RX12 D cA Z bs) (hr : meth.sig.returnType = (some .int)) (hlk : meth.locks = false) {o : Nat} {a1 : Int32} {a2 : Int32} (ho : isX12 K R o) {post : Int32 → mI → Prop} {I : mI} {s0 : Int32} {H : Heap} {locs : List Loc} {ls : Array Slot} (hw : w_X12_text_205 o a1 a2 post I s0) (hM : mm D cA bs (n, K, R, I, L) H) (hS : va_S (Ab bs) s.heap H locs) (hl : lv_has ls 5 [(0, .ref (ad bs o)), (1, .int a1), (2, .int a2)]) : W p l e ({ frames := 8, cells := 0, slots := 0, locals := 187 } : Room) s m args below meth c H locs 0 0 (MQ below (QI D cA bs (fun r u => ∃ I', u = (n, K, R, I', L) ∧ post r I')) args s 0 0 (Ab bs)) (F0 m 205 ls [.int s0]) := by
  have hx := E.1.1
  have hb := E.1.2.1
  refine lv_istore_n (lv' := [(3, .int s0), (0, .ref (ad bs o)), (1, .int a1), (2, .int a2)]) hx hb dX12_text_205 rfl hl (by decide) rfl (fun ls hl => ?_)
  refine lv_iload_n hx hb dX12_text_206 rfl (lv_at hl 3 rfl) ?_
  refine lv_iconst (v := (-1)) hx hb dX12_text_207 (by decide) ?_
  refine lv_icmp_ne (tgt := 221) hx hb dX12_text_208 (by decide) (fun cq => ?_) (fun cq => ?_)
  · have hw := hw.1 cq
    refine lv_iconst (v := 0) hx hb dX12_text_221 (by decide) ?_
    refine lv_istore (lv' := [(4, .int 0), (3, .int s0), (0, .ref (ad bs o)), (1, .int a1), (2, .int a2)]) hx hb dX12_text_222 hl (by decide) rfl (fun ls hl => ?_)
    exact s_X12_text_224 E hr hlk ho  hw hM hS (lv_sub hl [2, 3, 1, 0] rfl)
  · have hw := hw.2 cq
    refine lv_aload_n hx hb dX12_text_211 rfl (lv_at hl 1 rfl) ?_
    refine m_getr E hM fs_X12_7 ho.1 (isO_at ho 0 rfl).1 dX12_text_212 ?_
    refine lv_iload_n hx hb dX12_text_215 rfl (lv_at hl 2 rfl) ?_
    refine lv_dup2_11 hx hb dX12_text_216 rfl rfl ?_
    obtain ⟨hv, hw⟩ := hw
    refine m_iald E hM (isO_at ho 0 rfl).2 hv dX12_text_217 ?_
    refine lv_iconst (v := 1) hx hb dX12_text_218 (by decide) ?_
    refine lv_iadd hx hb dX12_text_219 ?_
    obtain ⟨hv, hw⟩ := hw
    refine m_iast E hM hS (isO_at ho 0 rfl).2 hv dX12_text_220 (fun I16 H locs eI16 hM hS => ?_)
    have hw := hw I16 eI16
    refine lv_iconst (v := 0) hx hb dX12_text_221 (by decide) ?_
    refine lv_istore (lv' := [(4, .int 0), (3, .int s0), (0, .ref (ad bs o)), (1, .int a1), (2, .int a2)]) hx hb dX12_text_222 hl (by decide) rfl (fun ls hl => ?_)
    exact s_X12_text_224 E hr hlk ho  hw hM hS (lv_sub hl [2, 3, 1, 0] rfl)
def w_X12_text_179 (o : Nat) (a1 : Int32) (a2 : Int32) (post : Int32 → mI → Prop) (I : mI) : Prop := ((I (o + 1) (3 : Int32).toNatClampNeg) = 0 → (¬ a2 = (-1) → (w_X12_text_205 o a1 a2 post) I a2) ∧ (a2 = (-1) → vp_in a1 3960 ∧ (w_X12_text_205 o a1 a2 post) I (I (o + 1) a1.toNatClampNeg))) ∧ (¬ (I (o + 1) (3 : Int32).toNatClampNeg) = 0 → post (-1) I)
set_option maxRecDepth 100000 in
set_option maxHeartbeats 4000000 in
theorem s_X12_text_179 {p : Program} {l : Launch} {e : Env} {s : State} {m : MethodId} {args : Array Value} {below : List Frame} {meth : Method} {c : Code} {D : va_G} {cA : Nat → ClassId} {Z : mZ} {bs : Ad} {n : Nat} {K : mK} {R : mR} {L : mL} (E : Ev p s m args c cX12_text 5 RX12 D cA Z bs) (hr : meth.sig.returnType = (some .int)) (hlk : meth.locks = false) {o : Nat} {a1 : Int32} {a2 : Int32} (ho : isX12 K R o) {post : Int32 → mI → Prop} {I : mI} {H : Heap} {locs : List Loc} {ls : Array Slot} (hw : w_X12_text_179 o a1 a2 post I) (hM : mm D cA bs (n, K, R, I, L) H) (hS : va_S (Ab bs) s.heap H locs) (hl : lv_has ls 5 [(0, .ref (ad bs o)), (1, .int a1), (2, .int a2)]) : W p l e ({ frames := 8, cells := 0, slots := 0, locals := 187 } : Room) s m args below meth c H locs 0 0 (MQ below (QI D cA bs (fun r u => ∃ I', u = (n, K, R, I', L) ∧ post r I')) args s 0 0 (Ab bs)) (F0 m 179 ls []) := by
  have hx := E.1.1
  have hb := E.1.2.1
  refine lv_aload_n hx hb dX12_text_179 rfl (lv_at hl 0 rfl) ?_
  refine m_getr E hM fs_X12_7 ho.1 (isO_at ho 0 rfl).1 dX12_text_180 ?_
  refine lv_iconst (v := 3) hx hb dX12_text_183 (by decide) ?_
  refine m_iald E hM (isO_at ho 0 rfl).2 (by unfold vp_in; decide) dX12_text_184 ?_
  refine lv_if_eq (tgt := 190) hx hb dX12_text_185 (by decide) (fun cq => ?_) (fun cq => ?_)
  · have hw := hw.1 cq
    refine lv_iload_n hx hb dX12_text_190 rfl (lv_at hl 2 rfl) ?_
    refine lv_iconst (v := (-1)) hx hb dX12_text_191 (by decide) ?_
    refine lv_icmp_ne (tgt := 204) hx hb dX12_text_192 (by decide) (fun cq => ?_) (fun cq => ?_)
    · have hw := hw.1 cq
      refine lv_iload_n hx hb dX12_text_204 rfl (lv_at hl 2 rfl) ?_
      exact s_X12_text_205 E hr hlk ho  hw hM hS (lv_sub hl [0, 1, 2] rfl)
    · have hw := hw.2 cq
      refine lv_aload_n hx hb dX12_text_195 rfl (lv_at hl 0 rfl) ?_
      refine m_getr E hM fs_X12_7 ho.1 (isO_at ho 0 rfl).1 dX12_text_196 ?_
      refine lv_iload_n hx hb dX12_text_199 rfl (lv_at hl 1 rfl) ?_
      obtain ⟨hv, hw⟩ := hw
      refine m_iald E hM (isO_at ho 0 rfl).2 hv dX12_text_200 ?_
      refine lv_goto (tgt := 205) hx hb dX12_text_201 (by decide) ?_
      exact s_X12_text_205 E hr hlk ho  hw hM hS (lv_sub hl [0, 1, 2] rfl)
  · have hw := hw.2 cq
    refine lv_iconst (v := (-1)) hx hb dX12_text_188 (by decide) ?_
    exact m_reti hx hb hr hlk hM hS ⟨_, rfl, hw⟩ dX12_text_189
def w_X12_text_170 (o : Nat) (a1 : Int32) (a2 : Int32) (post : Int32 → mI → Prop) (I : mI) : Prop := w_X12_also I o 4 (I o 4) (fun I15 => (w_X12_text_179 o a1 a2 post) I15)
set_option maxRecDepth 100000 in
set_option maxHeartbeats 4000000 in
theorem s_X12_text_170 {p : Program} {l : Launch} {e : Env} {s : State} {m : MethodId} {args : Array Value} {below : List Frame} {meth : Method} {c : Code} {D : va_G} {cA : Nat → ClassId} {Z : mZ} {bs : Ad} {n : Nat} {K : mK} {R : mR} {L : mL} (E : Ev p s m args c cX12_text 5 RX12 D cA Z bs) (hr : meth.sig.returnType = (some .int)) (hlk : meth.locks = false) {o : Nat} {a1 : Int32} {a2 : Int32} (ho : isX12 K R o) {post : Int32 → mI → Prop} {I : mI} {H : Heap} {locs : List Loc} {ls : Array Slot} (hw : w_X12_text_170 o a1 a2 post I) (hM : mm D cA bs (n, K, R, I, L) H) (hS : va_S (Ab bs) s.heap H locs) (hl : lv_has ls 5 [(0, .ref (ad bs o)), (1, .int a1), (2, .int a2)]) : W p l e ({ frames := 8, cells := 0, slots := 0, locals := 187 } : Room) s m args below meth c H locs 0 0 (MQ below (QI D cA bs (fun r u => ∃ I', u = (n, K, R, I', L) ∧ post r I')) args s 0 0 (Ab bs)) (F0 m 170 ls []) := by
  have hx := E.1.1
  have hb := E.1.2.1
  refine lv_aload_n hx hb dX12_text_170 rfl (lv_at hl 0 rfl) ?_
  refine lv_iconst (v := 4) hx hb dX12_text_171 (by decide) ?_
  refine lv_aload_n hx hb dX12_text_172 rfl (lv_at hl 0 rfl) ?_
  refine m_geti E hM fs_X12_99 ho.1 dX12_text_173 ?_
  refine m_cv (m_runV E hM hS cs_X12_137 ho.1 (by decide) rfl rfl (c_X12_also ho hw) rfl rfl ⟨Nat.le_of_ble_eq_true rfl, Nat.le_of_ble_eq_true rfl⟩ rfl hl.1 rfl (Nat.le_of_ble_eq_true rfl) dX12_text_176 ⟨Nat.le_of_ble_eq_true rfl, Nat.le_of_ble_eq_true rfl⟩) hS (fun u H locs hp hM hS => ?_)
  obtain ⟨I15, rfl, hw⟩ := hp
  exact s_X12_text_179 E hr hlk ho  hw hM hS (lv_sub hl [0, 1, 2] rfl)
def w_X12_text_131 (o : Nat) (a1 : Int32) (a2 : Int32) (post : Int32 → mI → Prop) (I : mI) : Prop := (¬ (I (o + 1) (3 : Int32).toNatClampNeg) = 0 → (w_X12_text_179 o a1 a2 post) I) ∧ ((I (o + 1) (3 : Int32).toNatClampNeg) = 0 → (¬ a1 = 0 → (w_X12_text_179 o a1 a2 post) I) ∧ (a1 = 0 → ((I (o + 3) (3 : Int32).toNatClampNeg) ≤ (I o 9) → (w_X12_text_170 o a1 a2 post) I) ∧ (¬ (I (o + 3) (3 : Int32).toNatClampNeg) ≤ (I o 9) → ((I o 10) < (I (o + 3) (0 : Int32).toNatClampNeg) → (w_X12_text_179 o a1 a2 post) I) ∧ (¬ (I o 10) < (I (o + 3) (0 : Int32).toNatClampNeg) → (w_X12_text_170 o a1 a2 post) I))))
set_option maxRecDepth 100000 in
set_option maxHeartbeats 4000000 in
theorem s_X12_text_131 {p : Program} {l : Launch} {e : Env} {s : State} {m : MethodId} {args : Array Value} {below : List Frame} {meth : Method} {c : Code} {D : va_G} {cA : Nat → ClassId} {Z : mZ} {bs : Ad} {n : Nat} {K : mK} {R : mR} {L : mL} (E : Ev p s m args c cX12_text 5 RX12 D cA Z bs) (hr : meth.sig.returnType = (some .int)) (hlk : meth.locks = false) {o : Nat} {a1 : Int32} {a2 : Int32} (ho : isX12 K R o) {post : Int32 → mI → Prop} {I : mI} {H : Heap} {locs : List Loc} {ls : Array Slot} (hw : w_X12_text_131 o a1 a2 post I) (hM : mm D cA bs (n, K, R, I, L) H) (hS : va_S (Ab bs) s.heap H locs) (hl : lv_has ls 5 [(0, .ref (ad bs o)), (1, .int a1), (2, .int a2)]) : W p l e ({ frames := 8, cells := 0, slots := 0, locals := 187 } : Room) s m args below meth c H locs 0 0 (MQ below (QI D cA bs (fun r u => ∃ I', u = (n, K, R, I', L) ∧ post r I')) args s 0 0 (Ab bs)) (F0 m 131 ls []) := by
  have hx := E.1.1
  have hb := E.1.2.1
  refine lv_aload_n hx hb dX12_text_131 rfl (lv_at hl 0 rfl) ?_
  refine m_getr E hM fs_X12_7 ho.1 (isO_at ho 0 rfl).1 dX12_text_132 ?_
  refine lv_iconst (v := 3) hx hb dX12_text_135 (by decide) ?_
  refine m_iald E hM (isO_at ho 0 rfl).2 (by unfold vp_in; decide) dX12_text_136 ?_
  refine lv_if_ne (tgt := 179) hx hb dX12_text_137 (by decide) (fun cq => ?_) (fun cq => ?_)
  · have hw := hw.1 cq
    exact s_X12_text_179 E hr hlk ho  hw hM hS (lv_sub hl [0, 1, 2] rfl)
  · have hw := hw.2 cq
    refine lv_iload_n hx hb dX12_text_140 rfl (lv_at hl 1 rfl) ?_
    refine lv_if_ne (tgt := 179) hx hb dX12_text_141 (by decide) (fun cq => ?_) (fun cq => ?_)
    · have hw := hw.1 cq
      exact s_X12_text_179 E hr hlk ho  hw hM hS (lv_sub hl [0, 1, 2] rfl)
    · have hw := hw.2 cq
      refine lv_aload_n hx hb dX12_text_144 rfl (lv_at hl 0 rfl) ?_
      refine m_geti E hM fs_X12_148 ho.1 dX12_text_145 ?_
      refine lv_aload_n hx hb dX12_text_148 rfl (lv_at hl 0 rfl) ?_
      refine m_getr E hM fs_X12_17 ho.1 (isO_at ho 2 rfl).1 dX12_text_149 ?_
      refine lv_iconst (v := 3) hx hb dX12_text_152 (by decide) ?_
      refine m_iald E hM (isO_at ho 2 rfl).2 (by unfold vp_in; decide) dX12_text_153 ?_
      refine lv_icmp_ge (tgt := 170) hx hb dX12_text_154 (by decide) (fun cq => ?_) (fun cq => ?_)
      · have hw := hw.1 cq
        exact s_X12_text_170 E hr hlk ho  hw hM hS (lv_sub hl [0, 1, 2] rfl)
      · have hw := hw.2 cq
        refine lv_aload_n hx hb dX12_text_157 rfl (lv_at hl 0 rfl) ?_
        refine m_geti E hM fs_X12_151 ho.1 dX12_text_158 ?_
        refine lv_aload_n hx hb dX12_text_161 rfl (lv_at hl 0 rfl) ?_
        refine m_getr E hM fs_X12_17 ho.1 (isO_at ho 2 rfl).1 dX12_text_162 ?_
        refine lv_iconst (v := 0) hx hb dX12_text_165 (by decide) ?_
        refine m_iald E hM (isO_at ho 2 rfl).2 (by unfold vp_in; decide) dX12_text_166 ?_
        refine lv_icmp_lt (tgt := 179) hx hb dX12_text_167 (by decide) (fun cq => ?_) (fun cq => ?_)
        · have hw := hw.1 cq
          exact s_X12_text_179 E hr hlk ho  hw hM hS (lv_sub hl [0, 1, 2] rfl)
        · have hw := hw.2 cq
          exact s_X12_text_170 E hr hlk ho  hw hM hS (lv_sub hl [0, 1, 2] rfl)
def w_X12_text_70 (o : Nat) (a1 : Int32) (a2 : Int32) (post : Int32 → mI → Prop) (I : mI) : Prop := ∀ I7, I7 = up2 I o 3 0 → ∀ I8, I8 = up2 I7 o 8 0 → ∀ I9, I9 = up2 I8 o 9 (-1) → ∀ I10, I10 = up2 I9 o 10 (-1) → w_X12_clears I10 o a1 (fun I11 => w_X12_advance I11 o (fun I12 => (w_X12_text_99 o a1 a2 post (w_X12_text_131 o a1 a2 post)) I12))
set_option maxRecDepth 100000 in
set_option maxHeartbeats 4000000 in
theorem s_X12_text_70 {p : Program} {l : Launch} {e : Env} {s : State} {m : MethodId} {args : Array Value} {below : List Frame} {meth : Method} {c : Code} {D : va_G} {cA : Nat → ClassId} {Z : mZ} {bs : Ad} {n : Nat} {K : mK} {R : mR} {L : mL} (E : Ev p s m args c cX12_text 5 RX12 D cA Z bs) (hr : meth.sig.returnType = (some .int)) (hlk : meth.locks = false) {o : Nat} {a1 : Int32} {a2 : Int32} (ho : isX12 K R o) {post : Int32 → mI → Prop} {I : mI} {H : Heap} {locs : List Loc} {ls : Array Slot} (hw : w_X12_text_70 o a1 a2 post I) (hM : mm D cA bs (n, K, R, I, L) H) (hS : va_S (Ab bs) s.heap H locs) (hl : lv_has ls 5 [(0, .ref (ad bs o)), (1, .int a1), (2, .int a2)]) : W p l e ({ frames := 8, cells := 0, slots := 0, locals := 187 } : Room) s m args below meth c H locs 0 0 (MQ below (QI D cA bs (fun r u => ∃ I', u = (n, K, R, I', L) ∧ post r I')) args s 0 0 (Ab bs)) (F0 m 70 ls []) := by
  have hx := E.1.1
  have hb := E.1.2.1
  refine lv_aload_n hx hb dX12_text_70 rfl (lv_at hl 0 rfl) ?_
  refine lv_iconst (v := 0) hx hb dX12_text_71 (by decide) ?_
  refine m_puti E hM hS fp_X12_92 ho.1 rfl rfl dX12_text_72 (fun I7 H locs eI7 hM hS => ?_)
  have hw := hw I7 eI7
  refine lv_aload_n hx hb dX12_text_75 rfl (lv_at hl 0 rfl) ?_
  refine lv_iconst (v := 0) hx hb dX12_text_76 (by decide) ?_
  refine m_puti E hM hS fp_X12_126 ho.1 rfl rfl dX12_text_77 (fun I8 H locs eI8 hM hS => ?_)
  have hw := hw I8 eI8
  refine lv_aload_n hx hb dX12_text_80 rfl (lv_at hl 0 rfl) ?_
  refine lv_iconst (v := (-1)) hx hb dX12_text_81 (by decide) ?_
  refine m_puti E hM hS fp_X12_148 ho.1 rfl rfl dX12_text_82 (fun I9 H locs eI9 hM hS => ?_)
  have hw := hw I9 eI9
  refine lv_aload_n hx hb dX12_text_85 rfl (lv_at hl 0 rfl) ?_
  refine lv_iconst (v := (-1)) hx hb dX12_text_86 (by decide) ?_
  refine m_puti E hM hS fp_X12_151 ho.1 rfl rfl dX12_text_87 (fun I10 H locs eI10 hM hS => ?_)
  have hw := hw I10 eI10
  refine lv_aload_n hx hb dX12_text_90 rfl (lv_at hl 0 rfl) ?_
  refine lv_iload_n hx hb dX12_text_91 rfl (lv_at hl 1 rfl) ?_
  refine m_cv (m_runV E hM hS cs_X12_187 ho.1 (by decide) rfl rfl (c_X12_clears ho hw) rfl rfl ⟨Nat.le_of_ble_eq_true rfl, Nat.le_of_ble_eq_true rfl⟩ rfl hl.1 rfl (Nat.le_of_ble_eq_true rfl) dX12_text_92 ⟨Nat.le_of_ble_eq_true rfl, Nat.le_of_ble_eq_true rfl⟩) hS (fun u H locs hp hM hS => ?_)
  obtain ⟨I11, rfl, hw⟩ := hp
  refine lv_aload_n hx hb dX12_text_95 rfl (lv_at hl 0 rfl) ?_
  refine m_cv (m_runV E hM hS cs_X12_141 ho.1 (by decide) rfl rfl (c_X12_advance ho hw) rfl rfl ⟨Nat.le_of_ble_eq_true rfl, Nat.le_of_ble_eq_true rfl⟩ rfl hl.1 rfl (Nat.le_of_ble_eq_true rfl) dX12_text_96 ⟨Nat.le_of_ble_eq_true rfl, Nat.le_of_ble_eq_true rfl⟩) hS (fun u H locs hp hM hS => ?_)
  obtain ⟨I12, rfl, hw⟩ := hp
  exact s_X12_text_99 E hr hlk ho (fun I H locs ls  hw hM hS hl => s_X12_text_131 E hr hlk ho  hw hM hS hl)  hw hM hS (lv_sub hl [0, 1, 2] rfl)
def w_X12_text (I : mI) (o : Nat) (a1 : Int32) (a2 : Int32) (post : Int32 → mI → Prop) : Prop := ∀ I1, I1 = up2 I o 2 (I (o + 1) (2 : Int32).toNatClampNeg) → ∀ I2, I2 = up2 I1 (o + 1) ((2 : Int32).toNatClampNeg) 0 → ∀ I3, I3 = up2 I2 (o + 1) ((3 : Int32).toNatClampNeg) 0 → ∀ I4, I4 = up2 I3 (o + 1) ((4 : Int32).toNatClampNeg) (-1) → w_X12_isIn a1 0 1 (fun b5 => (b5 = false → post (-2) I4) ∧ (b5 = true → (¬ a2 = (-1) → w_X12_isOf I4 o a1 a2 (fun b6 => (b6 = true → (w_X12_text_70 o a1 a2 post) I4) ∧ (b6 = false → post (-2) I4))) ∧ (a2 = (-1) → vp_in a1 3960 ∧ ((I4 (o + 1) a1.toNatClampNeg) < 2 → (w_X12_text_70 o a1 a2 post) I4) ∧ (¬ (I4 (o + 1) a1.toNatClampNeg) < 2 → post (-2) I4))))
set_option maxRecDepth 100000 in
set_option maxHeartbeats 4000000 in
theorem c_X12_text {l : Launch} {D : va_G} {cA : Nat → ClassId} {Z : mZ} {bs : Ad} {n : Nat} {K : mK} {R : mR} {I : mI} {L : mL} {o : Nat} {a1 : Int32} {a2 : Int32} {post : Int32 → mI → Prop} (ho : isX12 K R o) (hw : w_X12_text I o a1 a2 post) : Met l yX12_text (.code yX12_text cX12_text 5 (some .int) :: gw) ({ frames := 8, cells := 0, slots := 0, locals := 187 } : Room) (PreM D cA Z bs (n, K, R, I, L) [.ref (ad bs o), .int a1, .int a2]) (QI D cA bs (fun r u => ∃ I', u = (n, K, R, I', L) ∧ post r I')) 0 0 (Ab bs) := by
  refine m_met (by decide) (Nat.le_of_ble_eq_true rfl) (fun p e s m below meth c ls E hr hlk hM hS hl => ?_)
  have E : Ev p s m _ c cX12_text 5 RX12 D cA Z bs := E
  have hl : lv_has ls 5 [(0, .ref (ad bs o)), (1, .int a1), (2, .int a2)] := hl
  have hx := E.1.1
  have hb := E.1.2.1
  generalize hHe : s.heap = H at hM ⊢
  have hS : va_S (Ab bs) s.heap H [] := by rw [← hHe]; exact va_S.rf
  clear hHe
  refine lv_aload_n hx hb dX12_text_0 rfl (lv_at hl 0 rfl) ?_
  refine lv_aload_n hx hb dX12_text_1 rfl (lv_at hl 0 rfl) ?_
  refine m_getr E hM fs_X12_7 ho.1 (isO_at ho 0 rfl).1 dX12_text_2 ?_
  refine lv_iconst (v := 2) hx hb dX12_text_5 (by decide) ?_
  refine m_iald E hM (isO_at ho 0 rfl).2 (by unfold vp_in; decide) dX12_text_6 ?_
  refine m_puti E hM hS fp_X12_78 ho.1 rfl rfl dX12_text_7 (fun I1 H locs eI1 hM hS => ?_)
  have hw := hw I1 eI1
  refine lv_aload_n hx hb dX12_text_10 rfl (lv_at hl 0 rfl) ?_
  refine m_getr E hM fs_X12_7 ho.1 (isO_at ho 0 rfl).1 dX12_text_11 ?_
  refine lv_iconst (v := 2) hx hb dX12_text_14 (by decide) ?_
  refine lv_iconst (v := 0) hx hb dX12_text_15 (by decide) ?_
  refine m_iast E hM hS (isO_at ho 0 rfl).2 (by unfold vp_in; decide) dX12_text_16 (fun I2 H locs eI2 hM hS => ?_)
  have hw := hw I2 eI2
  refine lv_aload_n hx hb dX12_text_17 rfl (lv_at hl 0 rfl) ?_
  refine m_getr E hM fs_X12_7 ho.1 (isO_at ho 0 rfl).1 dX12_text_18 ?_
  refine lv_iconst (v := 3) hx hb dX12_text_21 (by decide) ?_
  refine lv_iconst (v := 0) hx hb dX12_text_22 (by decide) ?_
  refine m_iast E hM hS (isO_at ho 0 rfl).2 (by unfold vp_in; decide) dX12_text_23 (fun I3 H locs eI3 hM hS => ?_)
  have hw := hw I3 eI3
  refine lv_aload_n hx hb dX12_text_24 rfl (lv_at hl 0 rfl) ?_
  refine m_getr E hM fs_X12_7 ho.1 (isO_at ho 0 rfl).1 dX12_text_25 ?_
  refine lv_iconst (v := 4) hx hb dX12_text_28 (by decide) ?_
  refine lv_iconst (v := (-1)) hx hb dX12_text_29 (by decide) ?_
  refine m_iast E hM hS (isO_at ho 0 rfl).2 (by unfold vp_in; decide) dX12_text_30 (fun I4 H locs eI4 hM hS => ?_)
  have hw := hw I4 eI4
  refine lv_iload_n hx hb dX12_text_31 rfl (lv_at hl 1 rfl) ?_
  refine lv_iconst (v := 0) hx hb dX12_text_32 (by decide) ?_
  refine lv_iconst (v := 1) hx hb dX12_text_33 (by decide) ?_
  refine m_ci (m_runS E hM hS cs_X12_133 (c_X12_isIn  hw) rfl rfl ⟨Nat.le_of_ble_eq_true rfl, Nat.le_of_ble_eq_true rfl⟩ rfl hl.1 rfl (Nat.le_of_ble_eq_true rfl) dX12_text_34 ⟨Nat.le_of_ble_eq_true rfl, Nat.le_of_ble_eq_true rfl⟩) hS (fun r9 u H locs hp hM hS => ?_)
  obtain ⟨b5, rfl, rfl, hw⟩ := hp
  refine lv_if_eq (tgt := 67) hx hb dX12_text_37 (by decide) (fun cq => ?_) (fun cq => ?_)
  · have hw := hw.1 (bI_f cq)
    refine lv_bipush (v := (-2)) hx hb dX12_text_67 (by decide) ?_
    exact m_reti hx hb hr hlk hM hS ⟨_, rfl, hw⟩ dX12_text_69
  · have hw := hw.2 (bI_t cq)
    refine lv_iload_n hx hb dX12_text_40 rfl (lv_at hl 2 rfl) ?_
    refine lv_iconst (v := (-1)) hx hb dX12_text_41 (by decide) ?_
    refine lv_icmp_ne (tgt := 58) hx hb dX12_text_42 (by decide) (fun cq => ?_) (fun cq => ?_)
    · have hw := hw.1 cq
      refine lv_aload_n hx hb dX12_text_58 rfl (lv_at hl 0 rfl) ?_
      refine lv_iload_n hx hb dX12_text_59 rfl (lv_at hl 1 rfl) ?_
      refine lv_iload_n hx hb dX12_text_60 rfl (lv_at hl 2 rfl) ?_
      refine m_ci (m_runV E hM hS cs_X12_183 ho.1 (by decide) rfl rfl (c_X12_isOf ho hw) rfl rfl ⟨Nat.le_of_ble_eq_true rfl, Nat.le_of_ble_eq_true rfl⟩ rfl hl.1 rfl (Nat.le_of_ble_eq_true rfl) dX12_text_61 ⟨Nat.le_of_ble_eq_true rfl, Nat.le_of_ble_eq_true rfl⟩) hS (fun r9 u H locs hp hM hS => ?_)
      obtain ⟨b6, rfl, rfl, hw⟩ := hp
      refine lv_if_ne (tgt := 70) hx hb dX12_text_64 (by decide) (fun cq => ?_) (fun cq => ?_)
      · have hw := hw.1 (bI_t cq)
        exact s_X12_text_70 E hr hlk ho  hw hM hS (lv_sub hl [0, 1, 2] rfl)
      · have hw := hw.2 (bI_f cq)
        refine lv_bipush (v := (-2)) hx hb dX12_text_67 (by decide) ?_
        exact m_reti hx hb hr hlk hM hS ⟨_, rfl, hw⟩ dX12_text_69
    · have hw := hw.2 cq
      refine lv_aload_n hx hb dX12_text_45 rfl (lv_at hl 0 rfl) ?_
      refine m_getr E hM fs_X12_7 ho.1 (isO_at ho 0 rfl).1 dX12_text_46 ?_
      refine lv_iload_n hx hb dX12_text_49 rfl (lv_at hl 1 rfl) ?_
      obtain ⟨hv, hw⟩ := hw
      refine m_iald E hM (isO_at ho 0 rfl).2 hv dX12_text_50 ?_
      refine lv_iconst (v := 2) hx hb dX12_text_51 (by decide) ?_
      refine lv_icmp_lt (tgt := 70) hx hb dX12_text_52 (by decide) (fun cq => ?_) (fun cq => ?_)
      · have hw := hw.1 cq
        exact s_X12_text_70 E hr hlk ho  hw hM hS (lv_sub hl [0, 1, 2] rfl)
      · have hw := hw.2 cq
        refine lv_goto (tgt := 67) hx hb dX12_text_55 (by decide) ?_
        refine lv_bipush (v := (-2)) hx hb dX12_text_67 (by decide) ?_
        exact m_reti hx hb hr hlk hM hS ⟨_, rfl, hw⟩ dX12_text_69
theorem dX12_fault_0 : decode cX12_fault 0 = .ok (.iload_n 1, 1) := by decide +kernel
theorem dX12_fault_1 : decode cX12_fault 1 = .ok (.ifCond .ne 12, 3) := by decide +kernel
theorem dX12_fault_4 : decode cX12_fault 4 = .ok (.aload_n 0, 1) := by decide +kernel
theorem dX12_fault_5 : decode cX12_fault 5 = .ok (.getfield 7, 3) := by decide +kernel
theorem dX12_fault_8 : decode cX12_fault 8 = .ok (.iconst 3, 1) := by decide +kernel
theorem dX12_fault_9 : decode cX12_fault 9 = .ok (.iaload, 1) := by decide +kernel
theorem dX12_fault_10 : decode cX12_fault 10 = .ok (.goto 18, 3) := by decide +kernel
theorem dX12_fault_13 : decode cX12_fault 13 = .ok (.iload_n 1, 1) := by decide +kernel
theorem dX12_fault_14 : decode cX12_fault 14 = .ok (.iconst 1, 1) := by decide +kernel
theorem dX12_fault_15 : decode cX12_fault 15 = .ok (.if_icmp .ne 12, 3) := by decide +kernel
theorem dX12_fault_18 : decode cX12_fault 18 = .ok (.aload_n 0, 1) := by decide +kernel
theorem dX12_fault_19 : decode cX12_fault 19 = .ok (.getfield 7, 3) := by decide +kernel
theorem dX12_fault_22 : decode cX12_fault 22 = .ok (.iconst 4, 1) := by decide +kernel
theorem dX12_fault_23 : decode cX12_fault 23 = .ok (.iaload, 1) := by decide +kernel
theorem dX12_fault_24 : decode cX12_fault 24 = .ok (.goto 4, 3) := by decide +kernel
theorem dX12_fault_27 : decode cX12_fault 27 = .ok (.iconst (-1), 1) := by decide +kernel
theorem dX12_fault_28 : decode cX12_fault 28 = .ok (.ireturn, 1) := by decide +kernel
def w_X12_fault (I : mI) (o : Nat) (a1 : Int32) (post : Int32 → Prop) : Prop := (¬ a1 = 0 → (¬ a1 = 1 → post (-1)) ∧ (a1 = 1 → post (I (o + 1) (4 : Int32).toNatClampNeg))) ∧ (a1 = 0 → post (I (o + 1) (3 : Int32).toNatClampNeg))
set_option maxRecDepth 100000 in
set_option maxHeartbeats 4000000 in
theorem c_X12_fault {l : Launch} {D : va_G} {cA : Nat → ClassId} {Z : mZ} {bs : Ad} {n : Nat} {K : mK} {R : mR} {I : mI} {L : mL} {o : Nat} {a1 : Int32} {post : Int32 → Prop} (ho : isX12 K R o) (hw : w_X12_fault I o a1 post) : Met l yX12_fault (.code yX12_fault cX12_fault 2 (some .int) :: gw) ({ frames := 0, cells := 0, slots := 0, locals := 0 } : Room) (PreM D cA Z bs (n, K, R, I, L) [.ref (ad bs o), .int a1]) (QI D cA bs (fun r u => u = (n, K, R, I, L) ∧ post r)) 0 0 (Ab bs) := by
  refine m_met (by decide) (Nat.le_of_ble_eq_true rfl) (fun p e s m below meth c ls E hr hlk hM hS hl => ?_)
  have E : Ev p s m _ c cX12_fault 2 RX12 D cA Z bs := E
  have hl : lv_has ls 2 [(0, .ref (ad bs o)), (1, .int a1)] := hl
  have hx := E.1.1
  have hb := E.1.2.1
  generalize hHe : s.heap = H at hM ⊢
  have hS : va_S (Ab bs) s.heap H [] := by rw [← hHe]; exact va_S.rf
  clear hHe
  refine lv_iload_n hx hb dX12_fault_0 rfl (lv_at hl 1 rfl) ?_
  refine lv_if_ne (tgt := 13) hx hb dX12_fault_1 (by decide) (fun cq => ?_) (fun cq => ?_)
  · have hw := hw.1 cq
    refine lv_iload_n hx hb dX12_fault_13 rfl (lv_at hl 1 rfl) ?_
    refine lv_iconst (v := 1) hx hb dX12_fault_14 (by decide) ?_
    refine lv_icmp_ne (tgt := 27) hx hb dX12_fault_15 (by decide) (fun cq => ?_) (fun cq => ?_)
    · have hw := hw.1 cq
      refine lv_iconst (v := (-1)) hx hb dX12_fault_27 (by decide) ?_
      exact m_reti hx hb hr hlk hM hS ⟨rfl, hw⟩ dX12_fault_28
    · have hw := hw.2 cq
      refine lv_aload_n hx hb dX12_fault_18 rfl (lv_at hl 0 rfl) ?_
      refine m_getr E hM fs_X12_7 ho.1 (isO_at ho 0 rfl).1 dX12_fault_19 ?_
      refine lv_iconst (v := 4) hx hb dX12_fault_22 (by decide) ?_
      refine m_iald E hM (isO_at ho 0 rfl).2 (by unfold vp_in; decide) dX12_fault_23 ?_
      refine lv_goto (tgt := 28) hx hb dX12_fault_24 (by decide) ?_
      exact m_reti hx hb hr hlk hM hS ⟨rfl, hw⟩ dX12_fault_28
  · have hw := hw.2 cq
    refine lv_aload_n hx hb dX12_fault_4 rfl (lv_at hl 0 rfl) ?_
    refine m_getr E hM fs_X12_7 ho.1 (isO_at ho 0 rfl).1 dX12_fault_5 ?_
    refine lv_iconst (v := 3) hx hb dX12_fault_8 (by decide) ?_
    refine m_iald E hM (isO_at ho 0 rfl).2 (by unfold vp_in; decide) dX12_fault_9 ?_
    refine lv_goto (tgt := 28) hx hb dX12_fault_10 (by decide) ?_
    exact m_reti hx hb hr hlk hM hS ⟨rfl, hw⟩ dX12_fault_28
theorem dX12_plain_0 : decode cX12_plain 0 = .ok (.aload_n 0, 1) := by decide +kernel
theorem dX12_plain_1 : decode cX12_plain 1 = .ok (.iconst (-1), 1) := by decide +kernel
theorem dX12_plain_2 : decode cX12_plain 2 = .ok (.putfield 220, 3) := by decide +kernel
theorem dX12_plain_5 : decode cX12_plain 5 = .ok (.aload_n 0, 1) := by decide +kernel
theorem dX12_plain_6 : decode cX12_plain 6 = .ok (.iconst (-1), 1) := by decide +kernel
theorem dX12_plain_7 : decode cX12_plain 7 = .ok (.putfield 223, 3) := by decide +kernel
theorem dX12_plain_10 : decode cX12_plain 10 = .ok (.aload_n 0, 1) := by decide +kernel
theorem dX12_plain_11 : decode cX12_plain 11 = .ok (.iconst (-1), 1) := by decide +kernel
theorem dX12_plain_12 : decode cX12_plain 12 = .ok (.putfield 226, 3) := by decide +kernel
theorem dX12_plain_15 : decode cX12_plain 15 = .ok (.aload_n 0, 1) := by decide +kernel
theorem dX12_plain_16 : decode cX12_plain 16 = .ok (.iconst (-1), 1) := by decide +kernel
theorem dX12_plain_17 : decode cX12_plain 17 = .ok (.putfield 229, 3) := by decide +kernel
theorem dX12_plain_20 : decode cX12_plain 20 = .ok (.aload_n 0, 1) := by decide +kernel
theorem dX12_plain_21 : decode cX12_plain 21 = .ok (.iconst (-1), 1) := by decide +kernel
theorem dX12_plain_22 : decode cX12_plain 22 = .ok (.putfield 232, 3) := by decide +kernel
theorem dX12_plain_25 : decode cX12_plain 25 = .ok (.aload_n 0, 1) := by decide +kernel
theorem dX12_plain_26 : decode cX12_plain 26 = .ok (.iconst 0, 1) := by decide +kernel
theorem dX12_plain_27 : decode cX12_plain 27 = .ok (.putfield 235, 3) := by decide +kernel
theorem dX12_plain_30 : decode cX12_plain 30 = .ok (.return_, 1) := by decide +kernel
def w_X12_plain (I : mI) (o : Nat) (post : mI → Prop) : Prop := ∀ I1, I1 = up2 I o 13 (-1) → ∀ I2, I2 = up2 I1 o 15 (-1) → ∀ I3, I3 = up2 I2 o 17 (-1) → ∀ I4, I4 = up2 I3 o 18 (-1) → ∀ I5, I5 = up2 I4 o 20 (-1) → ∀ I6, I6 = up2 I5 o 22 0 → post I6
set_option maxRecDepth 100000 in
set_option maxHeartbeats 4000000 in
theorem c_X12_plain {l : Launch} {D : va_G} {cA : Nat → ClassId} {Z : mZ} {bs : Ad} {n : Nat} {K : mK} {R : mR} {I : mI} {L : mL} {o : Nat} {post : mI → Prop} (ho : isX12 K R o) (hw : w_X12_plain I o post) : Met l yX12_plain (.code yX12_plain cX12_plain 1 none :: gw) ({ frames := 0, cells := 0, slots := 0, locals := 0 } : Room) (PreM D cA Z bs (n, K, R, I, L) [.ref (ad bs o)]) (QV D cA bs (fun u => ∃ I', u = (n, K, R, I', L) ∧ post I')) 0 0 (Ab bs) := by
  refine m_met (by decide) (Nat.le_of_ble_eq_true rfl) (fun p e s m below meth c ls E hr hlk hM hS hl => ?_)
  have E : Ev p s m _ c cX12_plain 1 RX12 D cA Z bs := E
  have hl : lv_has ls 1 [(0, .ref (ad bs o))] := hl
  have hx := E.1.1
  have hb := E.1.2.1
  generalize hHe : s.heap = H at hM ⊢
  have hS : va_S (Ab bs) s.heap H [] := by rw [← hHe]; exact va_S.rf
  clear hHe
  refine lv_aload_n hx hb dX12_plain_0 rfl (lv_at hl 0 rfl) ?_
  refine lv_iconst (v := (-1)) hx hb dX12_plain_1 (by decide) ?_
  refine m_puti E hM hS fp_X12_220 ho.1 rfl rfl dX12_plain_2 (fun I1 H locs eI1 hM hS => ?_)
  have hw := hw I1 eI1
  refine lv_aload_n hx hb dX12_plain_5 rfl (lv_at hl 0 rfl) ?_
  refine lv_iconst (v := (-1)) hx hb dX12_plain_6 (by decide) ?_
  refine m_puti E hM hS fp_X12_223 ho.1 rfl rfl dX12_plain_7 (fun I2 H locs eI2 hM hS => ?_)
  have hw := hw I2 eI2
  refine lv_aload_n hx hb dX12_plain_10 rfl (lv_at hl 0 rfl) ?_
  refine lv_iconst (v := (-1)) hx hb dX12_plain_11 (by decide) ?_
  refine m_puti E hM hS fp_X12_226 ho.1 rfl rfl dX12_plain_12 (fun I3 H locs eI3 hM hS => ?_)
  have hw := hw I3 eI3
  refine lv_aload_n hx hb dX12_plain_15 rfl (lv_at hl 0 rfl) ?_
  refine lv_iconst (v := (-1)) hx hb dX12_plain_16 (by decide) ?_
  refine m_puti E hM hS fp_X12_229 ho.1 rfl rfl dX12_plain_17 (fun I4 H locs eI4 hM hS => ?_)
  have hw := hw I4 eI4
  refine lv_aload_n hx hb dX12_plain_20 rfl (lv_at hl 0 rfl) ?_
  refine lv_iconst (v := (-1)) hx hb dX12_plain_21 (by decide) ?_
  refine m_puti E hM hS fp_X12_232 ho.1 rfl rfl dX12_plain_22 (fun I5 H locs eI5 hM hS => ?_)
  have hw := hw I5 eI5
  refine lv_aload_n hx hb dX12_plain_25 rfl (lv_at hl 0 rfl) ?_
  refine lv_iconst (v := 0) hx hb dX12_plain_26 (by decide) ?_
  refine m_puti E hM hS fp_X12_235 ho.1 rfl rfl dX12_plain_27 (fun I6 H locs eI6 hM hS => ?_)
  have hw := hw I6 eI6
  exact m_retv hx hb hr hlk hM hS ⟨_, rfl, hw⟩ dX12_plain_30
theorem dX12_isHouse_0 : decode cX12_isHouse 0 = .ok (.aload_n 0, 1) := by decide +kernel
theorem dX12_isHouse_1 : decode cX12_isHouse 1 = .ok (.iconst 0, 1) := by decide +kernel
theorem dX12_isHouse_2 : decode cX12_isHouse 2 = .ok (.iload_n 1, 1) := by decide +kernel
theorem dX12_isHouse_3 : decode cX12_isHouse 3 = .ok (.invokevirtual 183, 3) := by decide +kernel
theorem dX12_isHouse_6 : decode cX12_isHouse 6 = .ok (.ifCond .ne 5, 3) := by decide +kernel
theorem dX12_isHouse_9 : decode cX12_isHouse 9 = .ok (.iconst 0, 1) := by decide +kernel
theorem dX12_isHouse_10 : decode cX12_isHouse 10 = .ok (.ireturn, 1) := by decide +kernel
theorem dX12_isHouse_11 : decode cX12_isHouse 11 = .ok (.aload_n 0, 1) := by decide +kernel
theorem dX12_isHouse_12 : decode cX12_isHouse 12 = .ok (.iconst 0, 1) := by decide +kernel
theorem dX12_isHouse_13 : decode cX12_isHouse 13 = .ok (.iload_n 1, 1) := by decide +kernel
theorem dX12_isHouse_14 : decode cX12_isHouse 14 = .ok (.invokestatic 196, 3) := by decide +kernel
theorem dX12_isHouse_17 : decode cX12_isHouse 17 = .ok (.putfield 199, 3) := by decide +kernel
theorem dX12_isHouse_20 : decode cX12_isHouse 20 = .ok (.aload_n 0, 1) := by decide +kernel
theorem dX12_isHouse_21 : decode cX12_isHouse 21 = .ok (.invokevirtual 202, 3) := by decide +kernel
theorem dX12_isHouse_24 : decode cX12_isHouse 24 = .ok (.iconst 1, 1) := by decide +kernel
theorem dX12_isHouse_25 : decode cX12_isHouse 25 = .ok (.ireturn, 1) := by decide +kernel
def w_X12_isHouse (I : mI) (o : Nat) (a1 : Int32) (post : Bool → mI → Prop) : Prop := w_X12_isOf I o 0 a1 (fun b1 => (b1 = true → w_X12_placeOf 0 a1 (fun r2 => ∀ I3, I3 = up2 I o 12 r2 → w_X12_plain I3 o (fun I4 => post true I4))) ∧ (b1 = false → post false I))
set_option maxRecDepth 100000 in
set_option maxHeartbeats 4000000 in
theorem c_X12_isHouse {l : Launch} {D : va_G} {cA : Nat → ClassId} {Z : mZ} {bs : Ad} {n : Nat} {K : mK} {R : mR} {I : mI} {L : mL} {o : Nat} {a1 : Int32} {post : Bool → mI → Prop} (ho : isX12 K R o) (hw : w_X12_isHouse I o a1 post) : Met l yX12_isHouse (.code yX12_isHouse cX12_isHouse 2 (some .boolean) :: gw) ({ frames := 2, cells := 0, slots := 0, locals := 44 } : Room) (PreM D cA Z bs (n, K, R, I, L) [.ref (ad bs o), .int a1]) (QI D cA bs (fun r u => ∃ b, r = bI b ∧ ∃ I', u = (n, K, R, I', L) ∧ post b I')) 0 0 (Ab bs) := by
  refine m_met (by decide) (Nat.le_of_ble_eq_true rfl) (fun p e s m below meth c ls E hr hlk hM hS hl => ?_)
  have E : Ev p s m _ c cX12_isHouse 2 RX12 D cA Z bs := E
  have hl : lv_has ls 2 [(0, .ref (ad bs o)), (1, .int a1)] := hl
  have hx := E.1.1
  have hb := E.1.2.1
  generalize hHe : s.heap = H at hM ⊢
  have hS : va_S (Ab bs) s.heap H [] := by rw [← hHe]; exact va_S.rf
  clear hHe
  refine lv_aload_n hx hb dX12_isHouse_0 rfl (lv_at hl 0 rfl) ?_
  refine lv_iconst (v := 0) hx hb dX12_isHouse_1 (by decide) ?_
  refine lv_iload_n hx hb dX12_isHouse_2 rfl (lv_at hl 1 rfl) ?_
  refine m_ci (m_runV E hM hS cs_X12_183 ho.1 (by decide) rfl rfl (c_X12_isOf ho hw) rfl rfl ⟨Nat.le_of_ble_eq_true rfl, Nat.le_of_ble_eq_true rfl⟩ rfl hl.1 rfl (Nat.le_of_ble_eq_true rfl) dX12_isHouse_3 ⟨Nat.le_of_ble_eq_true rfl, Nat.le_of_ble_eq_true rfl⟩) hS (fun r9 u H locs hp hM hS => ?_)
  obtain ⟨b1, rfl, rfl, hw⟩ := hp
  refine lv_if_ne (tgt := 11) hx hb dX12_isHouse_6 (by decide) (fun cq => ?_) (fun cq => ?_)
  · have hw := hw.1 (bI_t cq)
    refine lv_aload_n hx hb dX12_isHouse_11 rfl (lv_at hl 0 rfl) ?_
    refine lv_iconst (v := 0) hx hb dX12_isHouse_12 (by decide) ?_
    refine lv_iload_n hx hb dX12_isHouse_13 rfl (lv_at hl 1 rfl) ?_
    refine m_ci (m_runS E hM hS cs_X12_196 (c_X12_placeOf  hw) rfl rfl ⟨Nat.le_of_ble_eq_true rfl, Nat.le_of_ble_eq_true rfl⟩ rfl hl.1 rfl (Nat.le_of_ble_eq_true rfl) dX12_isHouse_14 ⟨Nat.le_of_ble_eq_true rfl, Nat.le_of_ble_eq_true rfl⟩) hS (fun r2 u H locs hp hM hS => ?_)
    obtain ⟨rfl, hw⟩ := hp
    refine m_puti E hM hS fp_X12_199 ho.1 rfl rfl dX12_isHouse_17 (fun I3 H locs eI3 hM hS => ?_)
    have hw := hw I3 eI3
    refine lv_aload_n hx hb dX12_isHouse_20 rfl (lv_at hl 0 rfl) ?_
    refine m_cv (m_runV E hM hS cs_X12_202 ho.1 (by decide) rfl rfl (c_X12_plain ho hw) rfl rfl ⟨Nat.le_of_ble_eq_true rfl, Nat.le_of_ble_eq_true rfl⟩ rfl hl.1 rfl (Nat.le_of_ble_eq_true rfl) dX12_isHouse_21 ⟨Nat.le_of_ble_eq_true rfl, Nat.le_of_ble_eq_true rfl⟩) hS (fun u H locs hp hM hS => ?_)
    obtain ⟨I4, rfl, hw⟩ := hp
    refine lv_iconst (v := 1) hx hb dX12_isHouse_24 (by decide) ?_
    exact m_retz hx hb hr hlk (Or.inr rfl) hM hS ⟨true, rfl, _, rfl, hw⟩ dX12_isHouse_25
  · have hw := hw.2 (bI_f cq)
    refine lv_iconst (v := 0) hx hb dX12_isHouse_9 (by decide) ?_
    exact m_retz hx hb hr hlk (Or.inl rfl) hM hS ⟨false, rfl, _, rfl, hw⟩ dX12_isHouse_10
theorem dX12_of_0 : decode cX12_of 0 = .ok (.aload_n 0, 1) := by decide +kernel
theorem dX12_of_1 : decode cX12_of 1 = .ok (.getfield 7, 3) := by decide +kernel
theorem dX12_of_4 : decode cX12_of 4 = .ok (.aload_n 0, 1) := by decide +kernel
theorem dX12_of_5 : decode cX12_of 5 = .ok (.getfield 199, 3) := by decide +kernel
theorem dX12_of_8 : decode cX12_of 8 = .ok (.iload_n 1, 1) := by decide +kernel
theorem dX12_of_9 : decode cX12_of 9 = .ok (.iadd, 1) := by decide +kernel
theorem dX12_of_10 : decode cX12_of 10 = .ok (.iaload, 1) := by decide +kernel
theorem dX12_of_11 : decode cX12_of 11 = .ok (.ireturn, 1) := by decide +kernel
def w_X12_of (I : mI) (o : Nat) (a1 : Int32) (post : Int32 → Prop) : Prop := vp_in ((I o 12) + a1) 3960 ∧ post (I (o + 1) ((I o 12) + a1).toNatClampNeg)
set_option maxRecDepth 100000 in
set_option maxHeartbeats 4000000 in
theorem c_X12_of {l : Launch} {D : va_G} {cA : Nat → ClassId} {Z : mZ} {bs : Ad} {n : Nat} {K : mK} {R : mR} {I : mI} {L : mL} {o : Nat} {a1 : Int32} {post : Int32 → Prop} (ho : isX12 K R o) (hw : w_X12_of I o a1 post) : Met l yX12_of (.code yX12_of cX12_of 2 (some .int) :: gw) ({ frames := 0, cells := 0, slots := 0, locals := 0 } : Room) (PreM D cA Z bs (n, K, R, I, L) [.ref (ad bs o), .int a1]) (QI D cA bs (fun r u => u = (n, K, R, I, L) ∧ post r)) 0 0 (Ab bs) := by
  refine m_met (by decide) (Nat.le_of_ble_eq_true rfl) (fun p e s m below meth c ls E hr hlk hM hS hl => ?_)
  have E : Ev p s m _ c cX12_of 2 RX12 D cA Z bs := E
  have hl : lv_has ls 2 [(0, .ref (ad bs o)), (1, .int a1)] := hl
  have hx := E.1.1
  have hb := E.1.2.1
  generalize hHe : s.heap = H at hM ⊢
  have hS : va_S (Ab bs) s.heap H [] := by rw [← hHe]; exact va_S.rf
  clear hHe
  refine lv_aload_n hx hb dX12_of_0 rfl (lv_at hl 0 rfl) ?_
  refine m_getr E hM fs_X12_7 ho.1 (isO_at ho 0 rfl).1 dX12_of_1 ?_
  refine lv_aload_n hx hb dX12_of_4 rfl (lv_at hl 0 rfl) ?_
  refine m_geti E hM fs_X12_199 ho.1 dX12_of_5 ?_
  refine lv_iload_n hx hb dX12_of_8 rfl (lv_at hl 1 rfl) ?_
  refine lv_iadd hx hb dX12_of_9 ?_
  obtain ⟨hv, hw⟩ := hw
  refine m_iald E hM (isO_at ho 0 rfl).2 hv dX12_of_10 ?_
  exact m_reti hx hb hr hlk hM hS ⟨rfl, hw⟩ dX12_of_11
theorem dX12_people_0 : decode cX12_people 0 = .ok (.aload_n 0, 1) := by decide +kernel
theorem dX12_people_1 : decode cX12_people 1 = .ok (.iconst 3, 1) := by decide +kernel
theorem dX12_people_2 : decode cX12_people 2 = .ok (.invokevirtual 205, 3) := by decide +kernel
theorem dX12_people_5 : decode cX12_people 5 = .ok (.ireturn, 1) := by decide +kernel
def w_X12_people (I : mI) (o : Nat) (post : Int32 → Prop) : Prop := w_X12_of I o 3 (fun r1 => post r1)
set_option maxRecDepth 100000 in
set_option maxHeartbeats 4000000 in
theorem c_X12_people {l : Launch} {D : va_G} {cA : Nat → ClassId} {Z : mZ} {bs : Ad} {n : Nat} {K : mK} {R : mR} {I : mI} {L : mL} {o : Nat} {post : Int32 → Prop} (ho : isX12 K R o) (hw : w_X12_people I o post) : Met l yX12_people (.code yX12_people cX12_people 1 (some .int) :: gw) ({ frames := 1, cells := 0, slots := 0, locals := 21 } : Room) (PreM D cA Z bs (n, K, R, I, L) [.ref (ad bs o)]) (QI D cA bs (fun r u => u = (n, K, R, I, L) ∧ post r)) 0 0 (Ab bs) := by
  refine m_met (by decide) (Nat.le_of_ble_eq_true rfl) (fun p e s m below meth c ls E hr hlk hM hS hl => ?_)
  have E : Ev p s m _ c cX12_people 1 RX12 D cA Z bs := E
  have hl : lv_has ls 1 [(0, .ref (ad bs o))] := hl
  have hx := E.1.1
  have hb := E.1.2.1
  generalize hHe : s.heap = H at hM ⊢
  have hS : va_S (Ab bs) s.heap H [] := by rw [← hHe]; exact va_S.rf
  clear hHe
  refine lv_aload_n hx hb dX12_people_0 rfl (lv_at hl 0 rfl) ?_
  refine lv_iconst (v := 3) hx hb dX12_people_1 (by decide) ?_
  refine m_ci (m_runV E hM hS cs_X12_205 ho.1 (by decide) rfl rfl (c_X12_of ho hw) rfl rfl ⟨Nat.le_of_ble_eq_true rfl, Nat.le_of_ble_eq_true rfl⟩ rfl hl.1 rfl (Nat.le_of_ble_eq_true rfl) dX12_people_2 ⟨Nat.le_of_ble_eq_true rfl, Nat.le_of_ble_eq_true rfl⟩) hS (fun r1 u H locs hp hM hS => ?_)
  obtain ⟨rfl, hw⟩ := hp
  exact m_reti hx hb hr hlk hM hS ⟨rfl, hw⟩ dX12_people_5
theorem dX12_flats_0 : decode cX12_flats 0 = .ok (.aload_n 0, 1) := by decide +kernel
theorem dX12_flats_1 : decode cX12_flats 1 = .ok (.iconst 2, 1) := by decide +kernel
theorem dX12_flats_2 : decode cX12_flats 2 = .ok (.invokevirtual 205, 3) := by decide +kernel
theorem dX12_flats_5 : decode cX12_flats 5 = .ok (.ireturn, 1) := by decide +kernel
def w_X12_flats (I : mI) (o : Nat) (post : Int32 → Prop) : Prop := w_X12_of I o 2 (fun r1 => post r1)
set_option maxRecDepth 100000 in
set_option maxHeartbeats 4000000 in
theorem c_X12_flats {l : Launch} {D : va_G} {cA : Nat → ClassId} {Z : mZ} {bs : Ad} {n : Nat} {K : mK} {R : mR} {I : mI} {L : mL} {o : Nat} {post : Int32 → Prop} (ho : isX12 K R o) (hw : w_X12_flats I o post) : Met l yX12_flats (.code yX12_flats cX12_flats 1 (some .int) :: gw) ({ frames := 1, cells := 0, slots := 0, locals := 21 } : Room) (PreM D cA Z bs (n, K, R, I, L) [.ref (ad bs o)]) (QI D cA bs (fun r u => u = (n, K, R, I, L) ∧ post r)) 0 0 (Ab bs) := by
  refine m_met (by decide) (Nat.le_of_ble_eq_true rfl) (fun p e s m below meth c ls E hr hlk hM hS hl => ?_)
  have E : Ev p s m _ c cX12_flats 1 RX12 D cA Z bs := E
  have hl : lv_has ls 1 [(0, .ref (ad bs o))] := hl
  have hx := E.1.1
  have hb := E.1.2.1
  generalize hHe : s.heap = H at hM ⊢
  have hS : va_S (Ab bs) s.heap H [] := by rw [← hHe]; exact va_S.rf
  clear hHe
  refine lv_aload_n hx hb dX12_flats_0 rfl (lv_at hl 0 rfl) ?_
  refine lv_iconst (v := 2) hx hb dX12_flats_1 (by decide) ?_
  refine m_ci (m_runV E hM hS cs_X12_205 ho.1 (by decide) rfl rfl (c_X12_of ho hw) rfl rfl ⟨Nat.le_of_ble_eq_true rfl, Nat.le_of_ble_eq_true rfl⟩ rfl hl.1 rfl (Nat.le_of_ble_eq_true rfl) dX12_flats_2 ⟨Nat.le_of_ble_eq_true rfl, Nat.le_of_ble_eq_true rfl⟩) hS (fun r1 u H locs hp hM hS => ?_)
  obtain ⟨rfl, hw⟩ := hp
  exact m_reti hx hb hr hlk hM hS ⟨rfl, hw⟩ dX12_flats_5
theorem dX12_told_0 : decode cX12_told 0 = .ok (.aload_n 0, 1) := by decide +kernel
theorem dX12_told_1 : decode cX12_told 1 = .ok (.getfield 7, 3) := by decide +kernel
theorem dX12_told_4 : decode cX12_told 4 = .ok (.aload_n 0, 1) := by decide +kernel
theorem dX12_told_5 : decode cX12_told 5 = .ok (.getfield 199, 3) := by decide +kernel
theorem dX12_told_8 : decode cX12_told 8 = .ok (.bipush 41, 2) := by decide +kernel
theorem dX12_told_10 : decode cX12_told 10 = .ok (.iadd, 1) := by decide +kernel
theorem dX12_told_11 : decode cX12_told 11 = .ok (.bipush 14, 2) := by decide +kernel
theorem dX12_told_13 : decode cX12_told 13 = .ok (.iload_n 1, 1) := by decide +kernel
theorem dX12_told_14 : decode cX12_told 14 = .ok (.imul, 1) := by decide +kernel
theorem dX12_told_15 : decode cX12_told 15 = .ok (.iadd, 1) := by decide +kernel
theorem dX12_told_16 : decode cX12_told 16 = .ok (.iload_n 2, 1) := by decide +kernel
theorem dX12_told_17 : decode cX12_told 17 = .ok (.iadd, 1) := by decide +kernel
theorem dX12_told_18 : decode cX12_told 18 = .ok (.iaload, 1) := by decide +kernel
theorem dX12_told_19 : decode cX12_told 19 = .ok (.ireturn, 1) := by decide +kernel
def w_X12_told (I : mI) (o : Nat) (a1 : Int32) (a2 : Int32) (post : Int32 → Prop) : Prop := vp_in ((((I o 12) + 41) + (14 * a1)) + a2) 3960 ∧ post (I (o + 1) ((((I o 12) + 41) + (14 * a1)) + a2).toNatClampNeg)
set_option maxRecDepth 100000 in
set_option maxHeartbeats 4000000 in
theorem c_X12_told {l : Launch} {D : va_G} {cA : Nat → ClassId} {Z : mZ} {bs : Ad} {n : Nat} {K : mK} {R : mR} {I : mI} {L : mL} {o : Nat} {a1 : Int32} {a2 : Int32} {post : Int32 → Prop} (ho : isX12 K R o) (hw : w_X12_told I o a1 a2 post) : Met l yX12_told (.code yX12_told cX12_told 3 (some .int) :: gw) ({ frames := 0, cells := 0, slots := 0, locals := 0 } : Room) (PreM D cA Z bs (n, K, R, I, L) [.ref (ad bs o), .int a1, .int a2]) (QI D cA bs (fun r u => u = (n, K, R, I, L) ∧ post r)) 0 0 (Ab bs) := by
  refine m_met (by decide) (Nat.le_of_ble_eq_true rfl) (fun p e s m below meth c ls E hr hlk hM hS hl => ?_)
  have E : Ev p s m _ c cX12_told 3 RX12 D cA Z bs := E
  have hl : lv_has ls 3 [(0, .ref (ad bs o)), (1, .int a1), (2, .int a2)] := hl
  have hx := E.1.1
  have hb := E.1.2.1
  generalize hHe : s.heap = H at hM ⊢
  have hS : va_S (Ab bs) s.heap H [] := by rw [← hHe]; exact va_S.rf
  clear hHe
  refine lv_aload_n hx hb dX12_told_0 rfl (lv_at hl 0 rfl) ?_
  refine m_getr E hM fs_X12_7 ho.1 (isO_at ho 0 rfl).1 dX12_told_1 ?_
  refine lv_aload_n hx hb dX12_told_4 rfl (lv_at hl 0 rfl) ?_
  refine m_geti E hM fs_X12_199 ho.1 dX12_told_5 ?_
  refine lv_bipush (v := 41) hx hb dX12_told_8 (by decide) ?_
  refine lv_iadd hx hb dX12_told_10 ?_
  refine lv_bipush (v := 14) hx hb dX12_told_11 (by decide) ?_
  refine lv_iload_n hx hb dX12_told_13 rfl (lv_at hl 1 rfl) ?_
  refine lv_imul hx hb dX12_told_14 ?_
  refine lv_iadd hx hb dX12_told_15 ?_
  refine lv_iload_n hx hb dX12_told_16 rfl (lv_at hl 2 rfl) ?_
  refine lv_iadd hx hb dX12_told_17 ?_
  obtain ⟨hv, hw⟩ := hw
  refine m_iald E hM (isO_at ho 0 rfl).2 hv dX12_told_18 ?_
  exact m_reti hx hb hr hlk hM hS ⟨rfl, hw⟩ dX12_told_19
theorem dX12_isPerson_0 : decode cX12_isPerson 0 = .ok (.iload_n 1, 1) := by decide +kernel
theorem dX12_isPerson_1 : decode cX12_isPerson 1 = .ok (.iconst 0, 1) := by decide +kernel
theorem dX12_isPerson_2 : decode cX12_isPerson 2 = .ok (.aload_n 0, 1) := by decide +kernel
theorem dX12_isPerson_3 : decode cX12_isPerson 3 = .ok (.invokevirtual 208, 3) := by decide +kernel
theorem dX12_isPerson_6 : decode cX12_isPerson 6 = .ok (.iconst 1, 1) := by decide +kernel
theorem dX12_isPerson_7 : decode cX12_isPerson 7 = .ok (.isub, 1) := by decide +kernel
theorem dX12_isPerson_8 : decode cX12_isPerson 8 = .ok (.invokestatic 133, 3) := by decide +kernel
theorem dX12_isPerson_11 : decode cX12_isPerson 11 = .ok (.ireturn, 1) := by decide +kernel
def w_X12_isPerson (I : mI) (o : Nat) (a1 : Int32) (post : Bool → Prop) : Prop := w_X12_people I o (fun r1 => w_X12_isIn a1 0 (r1 - 1) (fun b2 => post b2))
set_option maxRecDepth 100000 in
set_option maxHeartbeats 4000000 in
theorem c_X12_isPerson {l : Launch} {D : va_G} {cA : Nat → ClassId} {Z : mZ} {bs : Ad} {n : Nat} {K : mK} {R : mR} {I : mI} {L : mL} {o : Nat} {a1 : Int32} {post : Bool → Prop} (ho : isX12 K R o) (hw : w_X12_isPerson I o a1 post) : Met l yX12_isPerson (.code yX12_isPerson cX12_isPerson 2 (some .boolean) :: gw) ({ frames := 2, cells := 0, slots := 0, locals := 41 } : Room) (PreM D cA Z bs (n, K, R, I, L) [.ref (ad bs o), .int a1]) (QI D cA bs (fun r u => ∃ b, r = bI b ∧ u = (n, K, R, I, L) ∧ post b)) 0 0 (Ab bs) := by
  refine m_met (by decide) (Nat.le_of_ble_eq_true rfl) (fun p e s m below meth c ls E hr hlk hM hS hl => ?_)
  have E : Ev p s m _ c cX12_isPerson 2 RX12 D cA Z bs := E
  have hl : lv_has ls 2 [(0, .ref (ad bs o)), (1, .int a1)] := hl
  have hx := E.1.1
  have hb := E.1.2.1
  generalize hHe : s.heap = H at hM ⊢
  have hS : va_S (Ab bs) s.heap H [] := by rw [← hHe]; exact va_S.rf
  clear hHe
  refine lv_iload_n hx hb dX12_isPerson_0 rfl (lv_at hl 1 rfl) ?_
  refine lv_iconst (v := 0) hx hb dX12_isPerson_1 (by decide) ?_
  refine lv_aload_n hx hb dX12_isPerson_2 rfl (lv_at hl 0 rfl) ?_
  refine m_ci (m_runV E hM hS cs_X12_208 ho.1 (by decide) rfl rfl (c_X12_people ho hw) rfl rfl ⟨Nat.le_of_ble_eq_true rfl, Nat.le_of_ble_eq_true rfl⟩ rfl hl.1 rfl (Nat.le_of_ble_eq_true rfl) dX12_isPerson_3 ⟨Nat.le_of_ble_eq_true rfl, Nat.le_of_ble_eq_true rfl⟩) hS (fun r1 u H locs hp hM hS => ?_)
  obtain ⟨rfl, hw⟩ := hp
  refine lv_iconst (v := 1) hx hb dX12_isPerson_6 (by decide) ?_
  refine lv_isub hx hb dX12_isPerson_7 ?_
  refine m_ci (m_runS E hM hS cs_X12_133 (c_X12_isIn  hw) rfl rfl ⟨Nat.le_of_ble_eq_true rfl, Nat.le_of_ble_eq_true rfl⟩ rfl hl.1 rfl (Nat.le_of_ble_eq_true rfl) dX12_isPerson_8 ⟨Nat.le_of_ble_eq_true rfl, Nat.le_of_ble_eq_true rfl⟩) hS (fun r9 u H locs hp hM hS => ?_)
  obtain ⟨b2, rfl, rfl, hw⟩ := hp
  exact m_retz hx hb hr hlk (bI_01 _) hM hS ⟨_, rfl, rfl, hw⟩ dX12_isPerson_11
theorem dX12_isStep_0 : decode cX12_isStep 0 = .ok (.iload_n 1, 1) := by decide +kernel
theorem dX12_isStep_1 : decode cX12_isStep 1 = .ok (.iconst 0, 1) := by decide +kernel
theorem dX12_isStep_2 : decode cX12_isStep 2 = .ok (.aload_n 0, 1) := by decide +kernel
theorem dX12_isStep_3 : decode cX12_isStep 3 = .ok (.iconst 0, 1) := by decide +kernel
theorem dX12_isStep_4 : decode cX12_isStep 4 = .ok (.invokevirtual 205, 3) := by decide +kernel
theorem dX12_isStep_7 : decode cX12_isStep 7 = .ok (.iconst 1, 1) := by decide +kernel
theorem dX12_isStep_8 : decode cX12_isStep 8 = .ok (.isub, 1) := by decide +kernel
theorem dX12_isStep_9 : decode cX12_isStep 9 = .ok (.invokestatic 133, 3) := by decide +kernel
theorem dX12_isStep_12 : decode cX12_isStep 12 = .ok (.ireturn, 1) := by decide +kernel
def w_X12_isStep (I : mI) (o : Nat) (a1 : Int32) (post : Bool → Prop) : Prop := w_X12_of I o 0 (fun r1 => w_X12_isIn a1 0 (r1 - 1) (fun b2 => post b2))
set_option maxRecDepth 100000 in
set_option maxHeartbeats 4000000 in
theorem c_X12_isStep {l : Launch} {D : va_G} {cA : Nat → ClassId} {Z : mZ} {bs : Ad} {n : Nat} {K : mK} {R : mR} {I : mI} {L : mL} {o : Nat} {a1 : Int32} {post : Bool → Prop} (ho : isX12 K R o) (hw : w_X12_isStep I o a1 post) : Met l yX12_isStep (.code yX12_isStep cX12_isStep 2 (some .boolean) :: gw) ({ frames := 1, cells := 0, slots := 0, locals := 22 } : Room) (PreM D cA Z bs (n, K, R, I, L) [.ref (ad bs o), .int a1]) (QI D cA bs (fun r u => ∃ b, r = bI b ∧ u = (n, K, R, I, L) ∧ post b)) 0 0 (Ab bs) := by
  refine m_met (by decide) (Nat.le_of_ble_eq_true rfl) (fun p e s m below meth c ls E hr hlk hM hS hl => ?_)
  have E : Ev p s m _ c cX12_isStep 2 RX12 D cA Z bs := E
  have hl : lv_has ls 2 [(0, .ref (ad bs o)), (1, .int a1)] := hl
  have hx := E.1.1
  have hb := E.1.2.1
  generalize hHe : s.heap = H at hM ⊢
  have hS : va_S (Ab bs) s.heap H [] := by rw [← hHe]; exact va_S.rf
  clear hHe
  refine lv_iload_n hx hb dX12_isStep_0 rfl (lv_at hl 1 rfl) ?_
  refine lv_iconst (v := 0) hx hb dX12_isStep_1 (by decide) ?_
  refine lv_aload_n hx hb dX12_isStep_2 rfl (lv_at hl 0 rfl) ?_
  refine lv_iconst (v := 0) hx hb dX12_isStep_3 (by decide) ?_
  refine m_ci (m_runV E hM hS cs_X12_205 ho.1 (by decide) rfl rfl (c_X12_of ho hw) rfl rfl ⟨Nat.le_of_ble_eq_true rfl, Nat.le_of_ble_eq_true rfl⟩ rfl hl.1 rfl (Nat.le_of_ble_eq_true rfl) dX12_isStep_4 ⟨Nat.le_of_ble_eq_true rfl, Nat.le_of_ble_eq_true rfl⟩) hS (fun r1 u H locs hp hM hS => ?_)
  obtain ⟨rfl, hw⟩ := hp
  refine lv_iconst (v := 1) hx hb dX12_isStep_7 (by decide) ?_
  refine lv_isub hx hb dX12_isStep_8 ?_
  refine m_ci (m_runS E hM hS cs_X12_133 (c_X12_isIn  hw) rfl rfl ⟨Nat.le_of_ble_eq_true rfl, Nat.le_of_ble_eq_true rfl⟩ rfl hl.1 rfl (Nat.le_of_ble_eq_true rfl) dX12_isStep_9 ⟨Nat.le_of_ble_eq_true rfl, Nat.le_of_ble_eq_true rfl⟩) hS (fun r9 u H locs hp hM hS => ?_)
  obtain ⟨b2, rfl, rfl, hw⟩ := hp
  exact m_retz hx hb hr hlk (bI_01 _) hM hS ⟨_, rfl, rfl, hw⟩ dX12_isStep_12
theorem dX12_isFlat_0 : decode cX12_isFlat 0 = .ok (.iload_n 1, 1) := by decide +kernel
theorem dX12_isFlat_1 : decode cX12_isFlat 1 = .ok (.iconst 0, 1) := by decide +kernel
theorem dX12_isFlat_2 : decode cX12_isFlat 2 = .ok (.aload_n 0, 1) := by decide +kernel
theorem dX12_isFlat_3 : decode cX12_isFlat 3 = .ok (.invokevirtual 211, 3) := by decide +kernel
theorem dX12_isFlat_6 : decode cX12_isFlat 6 = .ok (.iconst 1, 1) := by decide +kernel
theorem dX12_isFlat_7 : decode cX12_isFlat 7 = .ok (.isub, 1) := by decide +kernel
theorem dX12_isFlat_8 : decode cX12_isFlat 8 = .ok (.invokestatic 133, 3) := by decide +kernel
theorem dX12_isFlat_11 : decode cX12_isFlat 11 = .ok (.ireturn, 1) := by decide +kernel
def w_X12_isFlat (I : mI) (o : Nat) (a1 : Int32) (post : Bool → Prop) : Prop := w_X12_flats I o (fun r1 => w_X12_isIn a1 0 (r1 - 1) (fun b2 => post b2))
set_option maxRecDepth 100000 in
set_option maxHeartbeats 4000000 in
theorem c_X12_isFlat {l : Launch} {D : va_G} {cA : Nat → ClassId} {Z : mZ} {bs : Ad} {n : Nat} {K : mK} {R : mR} {I : mI} {L : mL} {o : Nat} {a1 : Int32} {post : Bool → Prop} (ho : isX12 K R o) (hw : w_X12_isFlat I o a1 post) : Met l yX12_isFlat (.code yX12_isFlat cX12_isFlat 2 (some .boolean) :: gw) ({ frames := 2, cells := 0, slots := 0, locals := 41 } : Room) (PreM D cA Z bs (n, K, R, I, L) [.ref (ad bs o), .int a1]) (QI D cA bs (fun r u => ∃ b, r = bI b ∧ u = (n, K, R, I, L) ∧ post b)) 0 0 (Ab bs) := by
  refine m_met (by decide) (Nat.le_of_ble_eq_true rfl) (fun p e s m below meth c ls E hr hlk hM hS hl => ?_)
  have E : Ev p s m _ c cX12_isFlat 2 RX12 D cA Z bs := E
  have hl : lv_has ls 2 [(0, .ref (ad bs o)), (1, .int a1)] := hl
  have hx := E.1.1
  have hb := E.1.2.1
  generalize hHe : s.heap = H at hM ⊢
  have hS : va_S (Ab bs) s.heap H [] := by rw [← hHe]; exact va_S.rf
  clear hHe
  refine lv_iload_n hx hb dX12_isFlat_0 rfl (lv_at hl 1 rfl) ?_
  refine lv_iconst (v := 0) hx hb dX12_isFlat_1 (by decide) ?_
  refine lv_aload_n hx hb dX12_isFlat_2 rfl (lv_at hl 0 rfl) ?_
  refine m_ci (m_runV E hM hS cs_X12_211 ho.1 (by decide) rfl rfl (c_X12_flats ho hw) rfl rfl ⟨Nat.le_of_ble_eq_true rfl, Nat.le_of_ble_eq_true rfl⟩ rfl hl.1 rfl (Nat.le_of_ble_eq_true rfl) dX12_isFlat_3 ⟨Nat.le_of_ble_eq_true rfl, Nat.le_of_ble_eq_true rfl⟩) hS (fun r1 u H locs hp hM hS => ?_)
  obtain ⟨rfl, hw⟩ := hp
  refine lv_iconst (v := 1) hx hb dX12_isFlat_6 (by decide) ?_
  refine lv_isub hx hb dX12_isFlat_7 ?_
  refine m_ci (m_runS E hM hS cs_X12_133 (c_X12_isIn  hw) rfl rfl ⟨Nat.le_of_ble_eq_true rfl, Nat.le_of_ble_eq_true rfl⟩ rfl hl.1 rfl (Nat.le_of_ble_eq_true rfl) dX12_isFlat_8 ⟨Nat.le_of_ble_eq_true rfl, Nat.le_of_ble_eq_true rfl⟩) hS (fun r9 u H locs hp hM hS => ?_)
  obtain ⟨b2, rfl, rfl, hw⟩ := hp
  exact m_retz hx hb hr hlk (bI_01 _) hM hS ⟨_, rfl, rfl, hw⟩ dX12_isFlat_11
theorem dX12_isMinute_0 : decode cX12_isMinute 0 = .ok (.iload_n 1, 1) := by decide +kernel
theorem dX12_isMinute_1 : decode cX12_isMinute 1 = .ok (.iconst 0, 1) := by decide +kernel
theorem dX12_isMinute_2 : decode cX12_isMinute 2 = .ok (.bipush 99, 2) := by decide +kernel
theorem dX12_isMinute_4 : decode cX12_isMinute 4 = .ok (.invokestatic 133, 3) := by decide +kernel
theorem dX12_isMinute_7 : decode cX12_isMinute 7 = .ok (.ireturn, 1) := by decide +kernel
def w_X12_isMinute (o : Nat) (a1 : Int32) (post : Bool → Prop) : Prop := w_X12_isIn a1 0 99 (fun b1 => post b1)
set_option maxRecDepth 100000 in
set_option maxHeartbeats 4000000 in
theorem c_X12_isMinute {l : Launch} {D : va_G} {cA : Nat → ClassId} {Z : mZ} {bs : Ad} {n : Nat} {K : mK} {R : mR} {I : mI} {L : mL} {o : Nat} {a1 : Int32} {post : Bool → Prop} (ho : isX12 K R o) (hw : w_X12_isMinute o a1 post) : Met l yX12_isMinute (.code yX12_isMinute cX12_isMinute 2 (some .boolean) :: gw) ({ frames := 1, cells := 0, slots := 0, locals := 22 } : Room) (PreM D cA Z bs (n, K, R, I, L) [.ref (ad bs o), .int a1]) (QI D cA bs (fun r u => ∃ b, r = bI b ∧ u = (n, K, R, I, L) ∧ post b)) 0 0 (Ab bs) := by
  refine m_met (by decide) (Nat.le_of_ble_eq_true rfl) (fun p e s m below meth c ls E hr hlk hM hS hl => ?_)
  have E : Ev p s m _ c cX12_isMinute 2 RX12 D cA Z bs := E
  have hl : lv_has ls 2 [(0, .ref (ad bs o)), (1, .int a1)] := hl
  have hx := E.1.1
  have hb := E.1.2.1
  generalize hHe : s.heap = H at hM ⊢
  have hS : va_S (Ab bs) s.heap H [] := by rw [← hHe]; exact va_S.rf
  clear hHe
  refine lv_iload_n hx hb dX12_isMinute_0 rfl (lv_at hl 1 rfl) ?_
  refine lv_iconst (v := 0) hx hb dX12_isMinute_1 (by decide) ?_
  refine lv_bipush (v := 99) hx hb dX12_isMinute_2 (by decide) ?_
  refine m_ci (m_runS E hM hS cs_X12_133 (c_X12_isIn  hw) rfl rfl ⟨Nat.le_of_ble_eq_true rfl, Nat.le_of_ble_eq_true rfl⟩ rfl hl.1 rfl (Nat.le_of_ble_eq_true rfl) dX12_isMinute_4 ⟨Nat.le_of_ble_eq_true rfl, Nat.le_of_ble_eq_true rfl⟩) hS (fun r9 u H locs hp hM hS => ?_)
  obtain ⟨b1, rfl, rfl, hw⟩ := hp
  exact m_retz hx hb hr hlk (bI_01 _) hM hS ⟨_, rfl, rfl, hw⟩ dX12_isMinute_7
theorem dX12_house_0 : decode cX12_house 0 = .ok (.aload_n 0, 1) := by decide +kernel
theorem dX12_house_1 : decode cX12_house 1 = .ok (.iload_n 1, 1) := by decide +kernel
theorem dX12_house_2 : decode cX12_house 2 = .ok (.invokevirtual 214, 3) := by decide +kernel
theorem dX12_house_5 : decode cX12_house 5 = .ok (.ifCond .ne 5, 3) := by decide +kernel
theorem dX12_house_8 : decode cX12_house 8 = .ok (.iconst (-1), 1) := by decide +kernel
theorem dX12_house_9 : decode cX12_house 9 = .ok (.ireturn, 1) := by decide +kernel
theorem dX12_house_10 : decode cX12_house 10 = .ok (.iload_n 2, 1) := by decide +kernel
theorem dX12_house_11 : decode cX12_house 11 = .ok (.iconst 0, 1) := by decide +kernel
theorem dX12_house_12 : decode cX12_house 12 = .ok (.iconst 4, 1) := by decide +kernel
theorem dX12_house_13 : decode cX12_house 13 = .ok (.invokestatic 133, 3) := by decide +kernel
theorem dX12_house_16 : decode cX12_house 16 = .ok (.ifCond .eq 9, 3) := by decide +kernel
theorem dX12_house_19 : decode cX12_house 19 = .ok (.aload_n 0, 1) := by decide +kernel
theorem dX12_house_20 : decode cX12_house 20 = .ok (.iload_n 2, 1) := by decide +kernel
theorem dX12_house_21 : decode cX12_house 21 = .ok (.invokevirtual 205, 3) := by decide +kernel
theorem dX12_house_24 : decode cX12_house 24 = .ok (.ireturn, 1) := by decide +kernel
theorem dX12_house_25 : decode cX12_house 25 = .ok (.iload_n 2, 1) := by decide +kernel
theorem dX12_house_26 : decode cX12_house 26 = .ok (.bipush 100, 2) := by decide +kernel
theorem dX12_house_28 : decode cX12_house 28 = .ok (.bipush 99, 2) := by decide +kernel
theorem dX12_house_30 : decode cX12_house 30 = .ok (.aload_n 0, 1) := by decide +kernel
theorem dX12_house_31 : decode cX12_house 31 = .ok (.iconst 0, 1) := by decide +kernel
theorem dX12_house_32 : decode cX12_house 32 = .ok (.invokevirtual 205, 3) := by decide +kernel
theorem dX12_house_35 : decode cX12_house 35 = .ok (.iadd, 1) := by decide +kernel
theorem dX12_house_36 : decode cX12_house 36 = .ok (.invokestatic 133, 3) := by decide +kernel
theorem dX12_house_39 : decode cX12_house 39 = .ok (.ifCond .eq 14, 3) := by decide +kernel
theorem dX12_house_42 : decode cX12_house 42 = .ok (.aload_n 0, 1) := by decide +kernel
theorem dX12_house_43 : decode cX12_house 43 = .ok (.iconst 5, 1) := by decide +kernel
theorem dX12_house_44 : decode cX12_house 44 = .ok (.iload_n 2, 1) := by decide +kernel
theorem dX12_house_45 : decode cX12_house 45 = .ok (.iadd, 1) := by decide +kernel
theorem dX12_house_46 : decode cX12_house 46 = .ok (.bipush 100, 2) := by decide +kernel
theorem dX12_house_48 : decode cX12_house 48 = .ok (.isub, 1) := by decide +kernel
theorem dX12_house_49 : decode cX12_house 49 = .ok (.invokevirtual 205, 3) := by decide +kernel
theorem dX12_house_52 : decode cX12_house 52 = .ok (.ireturn, 1) := by decide +kernel
theorem dX12_house_53 : decode cX12_house 53 = .ok (.iload_n 2, 1) := by decide +kernel
theorem dX12_house_54 : decode cX12_house 54 = .ok (.bipush 10, 2) := by decide +kernel
theorem dX12_house_56 : decode cX12_house 56 = .ok (.irem, 1) := by decide +kernel
theorem dX12_house_57 : decode cX12_house 57 = .ok (.istore_n 3, 1) := by decide +kernel
theorem dX12_house_58 : decode cX12_house 58 = .ok (.iload_n 2, 1) := by decide +kernel
theorem dX12_house_59 : decode cX12_house 59 = .ok (.bipush 10, 2) := by decide +kernel
theorem dX12_house_61 : decode cX12_house 61 = .ok (.bipush 29, 2) := by decide +kernel
theorem dX12_house_63 : decode cX12_house 63 = .ok (.invokestatic 133, 3) := by decide +kernel
theorem dX12_house_66 : decode cX12_house 66 = .ok (.ifCond .eq 33, 3) := by decide +kernel
theorem dX12_house_69 : decode cX12_house 69 = .ok (.aload_n 0, 1) := by decide +kernel
theorem dX12_house_70 : decode cX12_house 70 = .ok (.iload_n 3, 1) := by decide +kernel
theorem dX12_house_71 : decode cX12_house 71 = .ok (.invokevirtual 217, 3) := by decide +kernel
theorem dX12_house_74 : decode cX12_house 74 = .ok (.ifCond .eq 23, 3) := by decide +kernel
theorem dX12_house_77 : decode cX12_house 77 = .ok (.aload_n 0, 1) := by decide +kernel
theorem dX12_house_78 : decode cX12_house 78 = .ok (.bipush 29, 2) := by decide +kernel
theorem dX12_house_80 : decode cX12_house 80 = .ok (.iconst 2, 1) := by decide +kernel
theorem dX12_house_81 : decode cX12_house 81 = .ok (.iload_n 3, 1) := by decide +kernel
theorem dX12_house_82 : decode cX12_house 82 = .ok (.imul, 1) := by decide +kernel
theorem dX12_house_83 : decode cX12_house 83 = .ok (.iadd, 1) := by decide +kernel
theorem dX12_house_84 : decode cX12_house 84 = .ok (.iload_n 2, 1) := by decide +kernel
theorem dX12_house_85 : decode cX12_house 85 = .ok (.bipush 10, 2) := by decide +kernel
theorem dX12_house_87 : decode cX12_house 87 = .ok (.idiv, 1) := by decide +kernel
theorem dX12_house_88 : decode cX12_house 88 = .ok (.iadd, 1) := by decide +kernel
theorem dX12_house_89 : decode cX12_house 89 = .ok (.iconst 1, 1) := by decide +kernel
theorem dX12_house_90 : decode cX12_house 90 = .ok (.isub, 1) := by decide +kernel
theorem dX12_house_91 : decode cX12_house 91 = .ok (.invokevirtual 205, 3) := by decide +kernel
theorem dX12_house_94 : decode cX12_house 94 = .ok (.goto 4, 3) := by decide +kernel
theorem dX12_house_97 : decode cX12_house 97 = .ok (.iconst (-1), 1) := by decide +kernel
theorem dX12_house_98 : decode cX12_house 98 = .ok (.ireturn, 1) := by decide +kernel
theorem dX12_house_99 : decode cX12_house 99 = .ok (.iload_n 2, 1) := by decide +kernel
theorem dX12_house_100 : decode cX12_house 100 = .ok (.bipush 30, 2) := by decide +kernel
theorem dX12_house_102 : decode cX12_house 102 = .ok (.bipush 59, 2) := by decide +kernel
theorem dX12_house_104 : decode cX12_house 104 = .ok (.invokestatic 133, 3) := by decide +kernel
theorem dX12_house_107 : decode cX12_house 107 = .ok (.ifCond .eq 32, 3) := by decide +kernel
theorem dX12_house_110 : decode cX12_house 110 = .ok (.iload_n 3, 1) := by decide +kernel
theorem dX12_house_111 : decode cX12_house 111 = .ok (.aload_n 0, 1) := by decide +kernel
theorem dX12_house_112 : decode cX12_house 112 = .ok (.iconst 4, 1) := by decide +kernel
theorem dX12_house_113 : decode cX12_house 113 = .ok (.invokevirtual 205, 3) := by decide +kernel
theorem dX12_house_116 : decode cX12_house 116 = .ok (.if_icmp .ge 23, 3) := by decide +kernel
theorem dX12_house_119 : decode cX12_house 119 = .ok (.aload_n 0, 1) := by decide +kernel
theorem dX12_house_120 : decode cX12_house 120 = .ok (.bipush 125, 2) := by decide +kernel
theorem dX12_house_122 : decode cX12_house 122 = .ok (.iconst 3, 1) := by decide +kernel
theorem dX12_house_123 : decode cX12_house 123 = .ok (.iload_n 3, 1) := by decide +kernel
theorem dX12_house_124 : decode cX12_house 124 = .ok (.imul, 1) := by decide +kernel
theorem dX12_house_125 : decode cX12_house 125 = .ok (.iadd, 1) := by decide +kernel
theorem dX12_house_126 : decode cX12_house 126 = .ok (.iload_n 2, 1) := by decide +kernel
theorem dX12_house_127 : decode cX12_house 127 = .ok (.bipush 10, 2) := by decide +kernel
theorem dX12_house_129 : decode cX12_house 129 = .ok (.idiv, 1) := by decide +kernel
theorem dX12_house_130 : decode cX12_house 130 = .ok (.iadd, 1) := by decide +kernel
theorem dX12_house_131 : decode cX12_house 131 = .ok (.iconst 3, 1) := by decide +kernel
theorem dX12_house_132 : decode cX12_house 132 = .ok (.isub, 1) := by decide +kernel
theorem dX12_house_133 : decode cX12_house 133 = .ok (.invokevirtual 205, 3) := by decide +kernel
theorem dX12_house_136 : decode cX12_house 136 = .ok (.goto 4, 3) := by decide +kernel
theorem dX12_house_139 : decode cX12_house 139 = .ok (.iconst (-1), 1) := by decide +kernel
theorem dX12_house_140 : decode cX12_house 140 = .ok (.ireturn, 1) := by decide +kernel
def w_X12_house (I : mI) (o : Nat) (a1 : Int32) (a2 : Int32) (post : Int32 → mI → Prop) : Prop := w_X12_isHouse I o a1 (fun b1 I2 => (b1 = true → w_X12_isIn a2 0 4 (fun b3 => (b3 = false → w_X12_of I2 o 0 (fun r4 => w_X12_isIn a2 100 (99 + r4) (fun b5 => (b5 = false → ∀ x6, x6 = (irem a2 10) → w_X12_isIn a2 10 29 (fun b7 => (b7 = false → w_X12_isIn a2 30 59 (fun b8 => (b8 = false → post (-1) I2) ∧ (b8 = true → w_X12_of I2 o 4 (fun r9 => (r9 ≤ x6 → post (-1) I2) ∧ (¬ r9 ≤ x6 → w_X12_of I2 o (((125 + (3 * x6)) + (a2 / 10)) - 3) (fun r10 => post r10 I2)))))) ∧ (b7 = true → w_X12_isFlat I2 o x6 (fun b11 => (b11 = false → post (-1) I2) ∧ (b11 = true → w_X12_of I2 o (((29 + (2 * x6)) + (a2 / 10)) - 1) (fun r12 => post r12 I2)))))) ∧ (b5 = true → w_X12_of I2 o ((5 + a2) - 100) (fun r13 => post r13 I2))))) ∧ (b3 = true → w_X12_of I2 o a2 (fun r14 => post r14 I2)))) ∧ (b1 = false → post (-1) I2))
set_option maxRecDepth 100000 in
set_option maxHeartbeats 4000000 in
theorem c_X12_house {l : Launch} {D : va_G} {cA : Nat → ClassId} {Z : mZ} {bs : Ad} {n : Nat} {K : mK} {R : mR} {I : mI} {L : mL} {o : Nat} {a1 : Int32} {a2 : Int32} {post : Int32 → mI → Prop} (ho : isX12 K R o) (hw : w_X12_house I o a1 a2 post) : Met l yX12_house (.code yX12_house cX12_house 4 (some .int) :: gw) ({ frames := 3, cells := 0, slots := 0, locals := 65 } : Room) (PreM D cA Z bs (n, K, R, I, L) [.ref (ad bs o), .int a1, .int a2]) (QI D cA bs (fun r u => ∃ I', u = (n, K, R, I', L) ∧ post r I')) 0 0 (Ab bs) := by
  refine m_met (by decide) (Nat.le_of_ble_eq_true rfl) (fun p e s m below meth c ls E hr hlk hM hS hl => ?_)
  have E : Ev p s m _ c cX12_house 4 RX12 D cA Z bs := E
  have hl : lv_has ls 4 [(0, .ref (ad bs o)), (1, .int a1), (2, .int a2)] := hl
  have hx := E.1.1
  have hb := E.1.2.1
  generalize hHe : s.heap = H at hM ⊢
  have hS : va_S (Ab bs) s.heap H [] := by rw [← hHe]; exact va_S.rf
  clear hHe
  refine lv_aload_n hx hb dX12_house_0 rfl (lv_at hl 0 rfl) ?_
  refine lv_iload_n hx hb dX12_house_1 rfl (lv_at hl 1 rfl) ?_
  refine m_ci (m_runV E hM hS cs_X12_214 ho.1 (by decide) rfl rfl (c_X12_isHouse ho hw) rfl rfl ⟨Nat.le_of_ble_eq_true rfl, Nat.le_of_ble_eq_true rfl⟩ rfl hl.1 rfl (Nat.le_of_ble_eq_true rfl) dX12_house_2 ⟨Nat.le_of_ble_eq_true rfl, Nat.le_of_ble_eq_true rfl⟩) hS (fun r9 u H locs hp hM hS => ?_)
  obtain ⟨b1, rfl, I2, rfl, hw⟩ := hp
  refine lv_if_ne (tgt := 10) hx hb dX12_house_5 (by decide) (fun cq => ?_) (fun cq => ?_)
  · have hw := hw.1 (bI_t cq)
    refine lv_iload_n hx hb dX12_house_10 rfl (lv_at hl 2 rfl) ?_
    refine lv_iconst (v := 0) hx hb dX12_house_11 (by decide) ?_
    refine lv_iconst (v := 4) hx hb dX12_house_12 (by decide) ?_
    refine m_ci (m_runS E hM hS cs_X12_133 (c_X12_isIn  hw) rfl rfl ⟨Nat.le_of_ble_eq_true rfl, Nat.le_of_ble_eq_true rfl⟩ rfl hl.1 rfl (Nat.le_of_ble_eq_true rfl) dX12_house_13 ⟨Nat.le_of_ble_eq_true rfl, Nat.le_of_ble_eq_true rfl⟩) hS (fun r9 u H locs hp hM hS => ?_)
    obtain ⟨b3, rfl, rfl, hw⟩ := hp
    refine lv_if_eq (tgt := 25) hx hb dX12_house_16 (by decide) (fun cq => ?_) (fun cq => ?_)
    · have hw := hw.1 (bI_f cq)
      refine lv_iload_n hx hb dX12_house_25 rfl (lv_at hl 2 rfl) ?_
      refine lv_bipush (v := 100) hx hb dX12_house_26 (by decide) ?_
      refine lv_bipush (v := 99) hx hb dX12_house_28 (by decide) ?_
      refine lv_aload_n hx hb dX12_house_30 rfl (lv_at hl 0 rfl) ?_
      refine lv_iconst (v := 0) hx hb dX12_house_31 (by decide) ?_
      refine m_ci (m_runV E hM hS cs_X12_205 ho.1 (by decide) rfl rfl (c_X12_of ho hw) rfl rfl ⟨Nat.le_of_ble_eq_true rfl, Nat.le_of_ble_eq_true rfl⟩ rfl hl.1 rfl (Nat.le_of_ble_eq_true rfl) dX12_house_32 ⟨Nat.le_of_ble_eq_true rfl, Nat.le_of_ble_eq_true rfl⟩) hS (fun r4 u H locs hp hM hS => ?_)
      obtain ⟨rfl, hw⟩ := hp
      refine lv_iadd hx hb dX12_house_35 ?_
      refine m_ci (m_runS E hM hS cs_X12_133 (c_X12_isIn  hw) rfl rfl ⟨Nat.le_of_ble_eq_true rfl, Nat.le_of_ble_eq_true rfl⟩ rfl hl.1 rfl (Nat.le_of_ble_eq_true rfl) dX12_house_36 ⟨Nat.le_of_ble_eq_true rfl, Nat.le_of_ble_eq_true rfl⟩) hS (fun r9 u H locs hp hM hS => ?_)
      obtain ⟨b5, rfl, rfl, hw⟩ := hp
      refine lv_if_eq (tgt := 53) hx hb dX12_house_39 (by decide) (fun cq => ?_) (fun cq => ?_)
      · have hw := hw.1 (bI_f cq)
        refine lv_iload_n hx hb dX12_house_53 rfl (lv_at hl 2 rfl) ?_
        refine lv_bipush (v := 10) hx hb dX12_house_54 (by decide) ?_
        refine lv_irem hx hb dX12_house_56 (by decide) ?_
        refine lv_topi (fun x6 ex6 => ?_)
        have hw := hw x6 ex6
        refine lv_istore_n (lv' := [(3, .int x6), (0, .ref (ad bs o)), (1, .int a1), (2, .int a2)]) hx hb dX12_house_57 rfl hl (by decide) rfl (fun ls hl => ?_)
        refine lv_iload_n hx hb dX12_house_58 rfl (lv_at hl 3 rfl) ?_
        refine lv_bipush (v := 10) hx hb dX12_house_59 (by decide) ?_
        refine lv_bipush (v := 29) hx hb dX12_house_61 (by decide) ?_
        refine m_ci (m_runS E hM hS cs_X12_133 (c_X12_isIn  hw) rfl rfl ⟨Nat.le_of_ble_eq_true rfl, Nat.le_of_ble_eq_true rfl⟩ rfl hl.1 rfl (Nat.le_of_ble_eq_true rfl) dX12_house_63 ⟨Nat.le_of_ble_eq_true rfl, Nat.le_of_ble_eq_true rfl⟩) hS (fun r9 u H locs hp hM hS => ?_)
        obtain ⟨b7, rfl, rfl, hw⟩ := hp
        refine lv_if_eq (tgt := 99) hx hb dX12_house_66 (by decide) (fun cq => ?_) (fun cq => ?_)
        · have hw := hw.1 (bI_f cq)
          refine lv_iload_n hx hb dX12_house_99 rfl (lv_at hl 3 rfl) ?_
          refine lv_bipush (v := 30) hx hb dX12_house_100 (by decide) ?_
          refine lv_bipush (v := 59) hx hb dX12_house_102 (by decide) ?_
          refine m_ci (m_runS E hM hS cs_X12_133 (c_X12_isIn  hw) rfl rfl ⟨Nat.le_of_ble_eq_true rfl, Nat.le_of_ble_eq_true rfl⟩ rfl hl.1 rfl (Nat.le_of_ble_eq_true rfl) dX12_house_104 ⟨Nat.le_of_ble_eq_true rfl, Nat.le_of_ble_eq_true rfl⟩) hS (fun r9 u H locs hp hM hS => ?_)
          obtain ⟨b8, rfl, rfl, hw⟩ := hp
          refine lv_if_eq (tgt := 139) hx hb dX12_house_107 (by decide) (fun cq => ?_) (fun cq => ?_)
          · have hw := hw.1 (bI_f cq)
            refine lv_iconst (v := (-1)) hx hb dX12_house_139 (by decide) ?_
            exact m_reti hx hb hr hlk hM hS ⟨_, rfl, hw⟩ dX12_house_140
          · have hw := hw.2 (bI_t cq)
            refine lv_iload_n hx hb dX12_house_110 rfl (lv_at hl 0 rfl) ?_
            refine lv_aload_n hx hb dX12_house_111 rfl (lv_at hl 1 rfl) ?_
            refine lv_iconst (v := 4) hx hb dX12_house_112 (by decide) ?_
            refine m_ci (m_runV E hM hS cs_X12_205 ho.1 (by decide) rfl rfl (c_X12_of ho hw) rfl rfl ⟨Nat.le_of_ble_eq_true rfl, Nat.le_of_ble_eq_true rfl⟩ rfl hl.1 rfl (Nat.le_of_ble_eq_true rfl) dX12_house_113 ⟨Nat.le_of_ble_eq_true rfl, Nat.le_of_ble_eq_true rfl⟩) hS (fun r9 u H locs hp hM hS => ?_)
            obtain ⟨rfl, hw⟩ := hp
            refine lv_icmp_ge (tgt := 139) hx hb dX12_house_116 (by decide) (fun cq => ?_) (fun cq => ?_)
            · have hw := hw.1 cq
              refine lv_iconst (v := (-1)) hx hb dX12_house_139 (by decide) ?_
              exact m_reti hx hb hr hlk hM hS ⟨_, rfl, hw⟩ dX12_house_140
            · have hw := hw.2 cq
              refine lv_aload_n hx hb dX12_house_119 rfl (lv_at hl 1 rfl) ?_
              refine lv_bipush (v := 125) hx hb dX12_house_120 (by decide) ?_
              refine lv_iconst (v := 3) hx hb dX12_house_122 (by decide) ?_
              refine lv_iload_n hx hb dX12_house_123 rfl (lv_at hl 0 rfl) ?_
              refine lv_imul hx hb dX12_house_124 ?_
              refine lv_iadd hx hb dX12_house_125 ?_
              refine lv_iload_n hx hb dX12_house_126 rfl (lv_at hl 3 rfl) ?_
              refine lv_bipush (v := 10) hx hb dX12_house_127 (by decide) ?_
              refine lv_idiv hx hb dX12_house_129 (by decide) ?_
              refine lv_iadd hx hb dX12_house_130 ?_
              refine lv_iconst (v := 3) hx hb dX12_house_131 (by decide) ?_
              refine lv_isub hx hb dX12_house_132 ?_
              refine m_ci (m_runV E hM hS cs_X12_205 ho.1 (by decide) rfl rfl (c_X12_of ho hw) rfl rfl ⟨Nat.le_of_ble_eq_true rfl, Nat.le_of_ble_eq_true rfl⟩ rfl hl.1 rfl (Nat.le_of_ble_eq_true rfl) dX12_house_133 ⟨Nat.le_of_ble_eq_true rfl, Nat.le_of_ble_eq_true rfl⟩) hS (fun r10 u H locs hp hM hS => ?_)
              obtain ⟨rfl, hw⟩ := hp
              refine lv_goto (tgt := 140) hx hb dX12_house_136 (by decide) ?_
              exact m_reti hx hb hr hlk hM hS ⟨_, rfl, hw⟩ dX12_house_140
        · have hw := hw.2 (bI_t cq)
          refine lv_aload_n hx hb dX12_house_69 rfl (lv_at hl 1 rfl) ?_
          refine lv_iload_n hx hb dX12_house_70 rfl (lv_at hl 0 rfl) ?_
          refine m_ci (m_runV E hM hS cs_X12_217 ho.1 (by decide) rfl rfl (c_X12_isFlat ho hw) rfl rfl ⟨Nat.le_of_ble_eq_true rfl, Nat.le_of_ble_eq_true rfl⟩ rfl hl.1 rfl (Nat.le_of_ble_eq_true rfl) dX12_house_71 ⟨Nat.le_of_ble_eq_true rfl, Nat.le_of_ble_eq_true rfl⟩) hS (fun r9 u H locs hp hM hS => ?_)
          obtain ⟨b11, rfl, rfl, hw⟩ := hp
          refine lv_if_eq (tgt := 97) hx hb dX12_house_74 (by decide) (fun cq => ?_) (fun cq => ?_)
          · have hw := hw.1 (bI_f cq)
            refine lv_iconst (v := (-1)) hx hb dX12_house_97 (by decide) ?_
            exact m_reti hx hb hr hlk hM hS ⟨_, rfl, hw⟩ dX12_house_98
          · have hw := hw.2 (bI_t cq)
            refine lv_aload_n hx hb dX12_house_77 rfl (lv_at hl 1 rfl) ?_
            refine lv_bipush (v := 29) hx hb dX12_house_78 (by decide) ?_
            refine lv_iconst (v := 2) hx hb dX12_house_80 (by decide) ?_
            refine lv_iload_n hx hb dX12_house_81 rfl (lv_at hl 0 rfl) ?_
            refine lv_imul hx hb dX12_house_82 ?_
            refine lv_iadd hx hb dX12_house_83 ?_
            refine lv_iload_n hx hb dX12_house_84 rfl (lv_at hl 3 rfl) ?_
            refine lv_bipush (v := 10) hx hb dX12_house_85 (by decide) ?_
            refine lv_idiv hx hb dX12_house_87 (by decide) ?_
            refine lv_iadd hx hb dX12_house_88 ?_
            refine lv_iconst (v := 1) hx hb dX12_house_89 (by decide) ?_
            refine lv_isub hx hb dX12_house_90 ?_
            refine m_ci (m_runV E hM hS cs_X12_205 ho.1 (by decide) rfl rfl (c_X12_of ho hw) rfl rfl ⟨Nat.le_of_ble_eq_true rfl, Nat.le_of_ble_eq_true rfl⟩ rfl hl.1 rfl (Nat.le_of_ble_eq_true rfl) dX12_house_91 ⟨Nat.le_of_ble_eq_true rfl, Nat.le_of_ble_eq_true rfl⟩) hS (fun r12 u H locs hp hM hS => ?_)
            obtain ⟨rfl, hw⟩ := hp
            refine lv_goto (tgt := 98) hx hb dX12_house_94 (by decide) ?_
            exact m_reti hx hb hr hlk hM hS ⟨_, rfl, hw⟩ dX12_house_98
      · have hw := hw.2 (bI_t cq)
        refine lv_aload_n hx hb dX12_house_42 rfl (lv_at hl 0 rfl) ?_
        refine lv_iconst (v := 5) hx hb dX12_house_43 (by decide) ?_
        refine lv_iload_n hx hb dX12_house_44 rfl (lv_at hl 2 rfl) ?_
        refine lv_iadd hx hb dX12_house_45 ?_
        refine lv_bipush (v := 100) hx hb dX12_house_46 (by decide) ?_
        refine lv_isub hx hb dX12_house_48 ?_
        refine m_ci (m_runV E hM hS cs_X12_205 ho.1 (by decide) rfl rfl (c_X12_of ho hw) rfl rfl ⟨Nat.le_of_ble_eq_true rfl, Nat.le_of_ble_eq_true rfl⟩ rfl hl.1 rfl (Nat.le_of_ble_eq_true rfl) dX12_house_49 ⟨Nat.le_of_ble_eq_true rfl, Nat.le_of_ble_eq_true rfl⟩) hS (fun r13 u H locs hp hM hS => ?_)
        obtain ⟨rfl, hw⟩ := hp
        exact m_reti hx hb hr hlk hM hS ⟨_, rfl, hw⟩ dX12_house_52
    · have hw := hw.2 (bI_t cq)
      refine lv_aload_n hx hb dX12_house_19 rfl (lv_at hl 0 rfl) ?_
      refine lv_iload_n hx hb dX12_house_20 rfl (lv_at hl 2 rfl) ?_
      refine m_ci (m_runV E hM hS cs_X12_205 ho.1 (by decide) rfl rfl (c_X12_of ho hw) rfl rfl ⟨Nat.le_of_ble_eq_true rfl, Nat.le_of_ble_eq_true rfl⟩ rfl hl.1 rfl (Nat.le_of_ble_eq_true rfl) dX12_house_21 ⟨Nat.le_of_ble_eq_true rfl, Nat.le_of_ble_eq_true rfl⟩) hS (fun r14 u H locs hp hM hS => ?_)
      obtain ⟨rfl, hw⟩ := hp
      exact m_reti hx hb hr hlk hM hS ⟨_, rfl, hw⟩ dX12_house_24
  · have hw := hw.2 (bI_f cq)
    refine lv_iconst (v := (-1)) hx hb dX12_house_8 (by decide) ?_
    exact m_reti hx hb hr hlk hM hS ⟨_, rfl, hw⟩ dX12_house_9
theorem dX12_shoeOf_0 : decode cX12_shoeOf 0 = .ok (.iload_n 1, 1) := by decide +kernel
theorem dX12_shoeOf_1 : decode cX12_shoeOf 1 = .ok (.aload_n 0, 1) := by decide +kernel
theorem dX12_shoeOf_2 : decode cX12_shoeOf 2 = .ok (.getfield 220, 3) := by decide +kernel
theorem dX12_shoeOf_5 : decode cX12_shoeOf 5 = .ok (.if_icmp .ne 8, 3) := by decide +kernel
theorem dX12_shoeOf_8 : decode cX12_shoeOf 8 = .ok (.aload_n 0, 1) := by decide +kernel
theorem dX12_shoeOf_9 : decode cX12_shoeOf 9 = .ok (.getfield 238, 3) := by decide +kernel
theorem dX12_shoeOf_12 : decode cX12_shoeOf 12 = .ok (.ireturn, 1) := by decide +kernel
theorem dX12_shoeOf_13 : decode cX12_shoeOf 13 = .ok (.aload_n 0, 1) := by decide +kernel
theorem dX12_shoeOf_14 : decode cX12_shoeOf 14 = .ok (.iload_n 1, 1) := by decide +kernel
theorem dX12_shoeOf_15 : decode cX12_shoeOf 15 = .ok (.iconst 0, 1) := by decide +kernel
theorem dX12_shoeOf_16 : decode cX12_shoeOf 16 = .ok (.invokevirtual 241, 3) := by decide +kernel
theorem dX12_shoeOf_19 : decode cX12_shoeOf 19 = .ok (.istore_n 3, 1) := by decide +kernel
theorem dX12_shoeOf_20 : decode cX12_shoeOf 20 = .ok (.iconst (-1), 1) := by decide +kernel
theorem dX12_shoeOf_21 : decode cX12_shoeOf 21 = .ok (.istore 4, 2) := by decide +kernel
theorem dX12_shoeOf_23 : decode cX12_shoeOf 23 = .ok (.iconst 0, 1) := by decide +kernel
theorem dX12_shoeOf_24 : decode cX12_shoeOf 24 = .ok (.istore 5, 2) := by decide +kernel
theorem dX12_shoeOf_26 : decode cX12_shoeOf 26 = .ok (.iload 5, 2) := by decide +kernel
theorem dX12_shoeOf_28 : decode cX12_shoeOf 28 = .ok (.aload_n 0, 1) := by decide +kernel
theorem dX12_shoeOf_29 : decode cX12_shoeOf 29 = .ok (.iconst 4, 1) := by decide +kernel
theorem dX12_shoeOf_30 : decode cX12_shoeOf 30 = .ok (.invokevirtual 205, 3) := by decide +kernel
theorem dX12_shoeOf_33 : decode cX12_shoeOf 33 = .ok (.if_icmp .ge 75, 3) := by decide +kernel
theorem dX12_shoeOf_36 : decode cX12_shoeOf 36 = .ok (.bipush 125, 2) := by decide +kernel
theorem dX12_shoeOf_38 : decode cX12_shoeOf 38 = .ok (.iconst 3, 1) := by decide +kernel
theorem dX12_shoeOf_39 : decode cX12_shoeOf 39 = .ok (.iload 5, 2) := by decide +kernel
theorem dX12_shoeOf_41 : decode cX12_shoeOf 41 = .ok (.imul, 1) := by decide +kernel
theorem dX12_shoeOf_42 : decode cX12_shoeOf 42 = .ok (.iadd, 1) := by decide +kernel
theorem dX12_shoeOf_43 : decode cX12_shoeOf 43 = .ok (.istore 6, 2) := by decide +kernel
theorem dX12_shoeOf_45 : decode cX12_shoeOf 45 = .ok (.aload_n 0, 1) := by decide +kernel
theorem dX12_shoeOf_46 : decode cX12_shoeOf 46 = .ok (.iload 6, 2) := by decide +kernel
theorem dX12_shoeOf_48 : decode cX12_shoeOf 48 = .ok (.invokevirtual 205, 3) := by decide +kernel
theorem dX12_shoeOf_51 : decode cX12_shoeOf 51 = .ok (.iload_n 1, 1) := by decide +kernel
theorem dX12_shoeOf_52 : decode cX12_shoeOf 52 = .ok (.if_icmp .ne 50, 3) := by decide +kernel
theorem dX12_shoeOf_55 : decode cX12_shoeOf 55 = .ok (.aload_n 0, 1) := by decide +kernel
theorem dX12_shoeOf_56 : decode cX12_shoeOf 56 = .ok (.iload 6, 2) := by decide +kernel
theorem dX12_shoeOf_58 : decode cX12_shoeOf 58 = .ok (.iconst 1, 1) := by decide +kernel
theorem dX12_shoeOf_59 : decode cX12_shoeOf 59 = .ok (.iadd, 1) := by decide +kernel
theorem dX12_shoeOf_60 : decode cX12_shoeOf 60 = .ok (.invokevirtual 205, 3) := by decide +kernel
theorem dX12_shoeOf_63 : decode cX12_shoeOf 63 = .ok (.iload_n 2, 1) := by decide +kernel
theorem dX12_shoeOf_64 : decode cX12_shoeOf 64 = .ok (.if_icmp .gt 38, 3) := by decide +kernel
theorem dX12_shoeOf_67 : decode cX12_shoeOf 67 = .ok (.aload_n 0, 1) := by decide +kernel
theorem dX12_shoeOf_68 : decode cX12_shoeOf 68 = .ok (.iload 6, 2) := by decide +kernel
theorem dX12_shoeOf_70 : decode cX12_shoeOf 70 = .ok (.iconst 1, 1) := by decide +kernel
theorem dX12_shoeOf_71 : decode cX12_shoeOf 71 = .ok (.iadd, 1) := by decide +kernel
theorem dX12_shoeOf_72 : decode cX12_shoeOf 72 = .ok (.invokevirtual 205, 3) := by decide +kernel
theorem dX12_shoeOf_75 : decode cX12_shoeOf 75 = .ok (.iload 4, 2) := by decide +kernel
theorem dX12_shoeOf_77 : decode cX12_shoeOf 77 = .ok (.if_icmp .ge 6, 3) := by decide +kernel
theorem dX12_shoeOf_80 : decode cX12_shoeOf 80 = .ok (.goto 22, 3) := by decide +kernel
theorem dX12_shoeOf_83 : decode cX12_shoeOf 83 = .ok (.aload_n 0, 1) := by decide +kernel
theorem dX12_shoeOf_84 : decode cX12_shoeOf 84 = .ok (.iload 6, 2) := by decide +kernel
theorem dX12_shoeOf_86 : decode cX12_shoeOf 86 = .ok (.iconst 1, 1) := by decide +kernel
theorem dX12_shoeOf_87 : decode cX12_shoeOf 87 = .ok (.iadd, 1) := by decide +kernel
theorem dX12_shoeOf_88 : decode cX12_shoeOf 88 = .ok (.invokevirtual 205, 3) := by decide +kernel
theorem dX12_shoeOf_91 : decode cX12_shoeOf 91 = .ok (.istore 4, 2) := by decide +kernel
theorem dX12_shoeOf_93 : decode cX12_shoeOf 93 = .ok (.aload_n 0, 1) := by decide +kernel
theorem dX12_shoeOf_94 : decode cX12_shoeOf 94 = .ok (.iload 6, 2) := by decide +kernel
theorem dX12_shoeOf_96 : decode cX12_shoeOf 96 = .ok (.iconst 2, 1) := by decide +kernel
theorem dX12_shoeOf_97 : decode cX12_shoeOf 97 = .ok (.iadd, 1) := by decide +kernel
theorem dX12_shoeOf_98 : decode cX12_shoeOf 98 = .ok (.invokevirtual 205, 3) := by decide +kernel
theorem dX12_shoeOf_101 : decode cX12_shoeOf 101 = .ok (.istore_n 3, 1) := by decide +kernel
theorem dX12_shoeOf_102 : decode cX12_shoeOf 102 = .ok (.iinc 5 1, 3) := by decide +kernel
theorem dX12_shoeOf_105 : decode cX12_shoeOf 105 = .ok (.goto (-79), 3) := by decide +kernel
theorem dX12_shoeOf_108 : decode cX12_shoeOf 108 = .ok (.iload_n 3, 1) := by decide +kernel
theorem dX12_shoeOf_109 : decode cX12_shoeOf 109 = .ok (.ireturn, 1) := by decide +kernel
def w_X12_shoeOf_26 (I : mI) (o : Nat) (a1 : Int32) (a2 : Int32) (post : Int32 → Prop) (v3 : Int32) (v4 : Int32) (v5 : Int32) : Prop := ∀ ZZ : (Int32 → Int32 → Int32 → Prop), (∀ (v3 : Int32) (v4 : Int32) (v5 : Int32), (w_X12_of I o 4 (fun r2 => (r2 ≤ v5 → post v3) ∧ (¬ r2 ≤ v5 → ∀ x3, x3 = (125 + (3 * v5)) → w_X12_of I o x3 (fun r4 => (¬ r4 = a1 → ∀ x5, x5 = v5 + 1 → ZZ v3 v4 x5) ∧ (r4 = a1 → w_X12_of I o (x3 + 1) (fun r6 => (a2 < r6 → ∀ x7, x7 = v5 + 1 → ZZ v3 v4 x7) ∧ (¬ a2 < r6 → w_X12_of I o (x3 + 1) (fun r8 => (v4 ≤ r8 → w_X12_of I o (x3 + 1) (fun r9 => w_X12_of I o (x3 + 2) (fun r10 => ∀ x11, x11 = v5 + 1 → ZZ r10 r9 x11))) ∧ (¬ v4 ≤ r8 → ∀ x12, x12 = v5 + 1 → ZZ v3 v4 x12))))))))) → ZZ v3 v4 v5) → ZZ v3 v4 v5
set_option maxRecDepth 100000 in
set_option maxHeartbeats 4000000 in
theorem s_X12_shoeOf_26 {p : Program} {l : Launch} {e : Env} {s : State} {m : MethodId} {args : Array Value} {below : List Frame} {meth : Method} {c : Code} {D : va_G} {cA : Nat → ClassId} {Z : mZ} {bs : Ad} {n : Nat} {K : mK} {R : mR} {I : mI} {L : mL} (E : Ev p s m args c cX12_shoeOf 7 RX12 D cA Z bs) (hr : meth.sig.returnType = (some .int)) (hlk : meth.locks = false) {o : Nat} {a1 : Int32} {a2 : Int32} (ho : isX12 K R o) {post : Int32 → Prop} {v3 : Int32} {v4 : Int32} {v5 : Int32} {H : Heap} {locs : List Loc} {ls : Array Slot} (hw : w_X12_shoeOf_26 I o a1 a2 post v3 v4 v5) (hM : mm D cA bs (n, K, R, I, L) H) (hS : va_S (Ab bs) s.heap H locs) (hl : lv_has ls 7 [(0, .ref (ad bs o)), (1, .int a1), (2, .int a2), (3, .int v3), (4, .int v4), (5, .int v5)]) : W p l e ({ frames := 1, cells := 0, slots := 0, locals := 22 } : Room) s m args below meth c H locs 0 0 (MQ below (QI D cA bs (fun r u => u = (n, K, R, I, L) ∧ post r)) args s 0 0 (Ab bs)) (F0 m 26 ls []) := by
  have hx := E.1.1
  have hb := E.1.2.1
  refine hw (fun v3 v4 v5 => ∀ (H : Heap) (locs : List Loc) (ls : Array Slot), mm D cA bs (n, K, R, I, L) H → va_S (Ab bs) s.heap H locs → lv_has ls 7 [(0, .ref (ad bs o)), (1, .int a1), (2, .int a2), (3, .int v3), (4, .int v4), (5, .int v5)] → W p l e ({ frames := 1, cells := 0, slots := 0, locals := 22 } : Room) s m args below meth c H locs 0 0 (MQ below (QI D cA bs (fun r u => u = (n, K, R, I, L) ∧ post r)) args s 0 0 (Ab bs)) (F0 m 26 ls [])) ?_ H locs ls hM hS hl
  clear hw hM hS hl
  intro v3 v4 v5 hw H locs ls hM hS hl
  refine lv_iload hx hb dX12_shoeOf_26 (lv_at hl 5 rfl) ?_
  refine lv_aload_n hx hb dX12_shoeOf_28 rfl (lv_at hl 0 rfl) ?_
  refine lv_iconst (v := 4) hx hb dX12_shoeOf_29 (by decide) ?_
  refine m_ci (m_runV E hM hS cs_X12_205 ho.1 (by decide) rfl rfl (c_X12_of ho hw) rfl rfl ⟨Nat.le_of_ble_eq_true rfl, Nat.le_of_ble_eq_true rfl⟩ rfl hl.1 rfl (Nat.le_of_ble_eq_true rfl) dX12_shoeOf_30 ⟨Nat.le_of_ble_eq_true rfl, Nat.le_of_ble_eq_true rfl⟩) hS (fun r2 u H locs hp hM hS => ?_)
  obtain ⟨rfl, hw⟩ := hp
  refine lv_icmp_ge (tgt := 108) hx hb dX12_shoeOf_33 (by decide) (fun cq => ?_) (fun cq => ?_)
  · have hw := hw.1 cq
    refine lv_iload_n hx hb dX12_shoeOf_108 rfl (lv_at hl 3 rfl) ?_
    exact m_reti hx hb hr hlk hM hS ⟨rfl, hw⟩ dX12_shoeOf_109
  · have hw := hw.2 cq
    refine lv_bipush (v := 125) hx hb dX12_shoeOf_36 (by decide) ?_
    refine lv_iconst (v := 3) hx hb dX12_shoeOf_38 (by decide) ?_
    refine lv_iload hx hb dX12_shoeOf_39 (lv_at hl 5 rfl) ?_
    refine lv_imul hx hb dX12_shoeOf_41 ?_
    refine lv_iadd hx hb dX12_shoeOf_42 ?_
    refine lv_topi (fun x3 ex3 => ?_)
    have hw := hw x3 ex3
    refine lv_istore (lv' := [(6, .int x3), (0, .ref (ad bs o)), (1, .int a1), (2, .int a2), (3, .int v3), (4, .int v4), (5, .int v5)]) hx hb dX12_shoeOf_43 hl (by decide) rfl (fun ls hl => ?_)
    refine lv_aload_n hx hb dX12_shoeOf_45 rfl (lv_at hl 1 rfl) ?_
    refine lv_iload hx hb dX12_shoeOf_46 (lv_at hl 0 rfl) ?_
    refine m_ci (m_runV E hM hS cs_X12_205 ho.1 (by decide) rfl rfl (c_X12_of ho hw) rfl rfl ⟨Nat.le_of_ble_eq_true rfl, Nat.le_of_ble_eq_true rfl⟩ rfl hl.1 rfl (Nat.le_of_ble_eq_true rfl) dX12_shoeOf_48 ⟨Nat.le_of_ble_eq_true rfl, Nat.le_of_ble_eq_true rfl⟩) hS (fun r4 u H locs hp hM hS => ?_)
    obtain ⟨rfl, hw⟩ := hp
    refine lv_iload_n hx hb dX12_shoeOf_51 rfl (lv_at hl 2 rfl) ?_
    refine lv_icmp_ne (tgt := 102) hx hb dX12_shoeOf_52 (by decide) (fun cq => ?_) (fun cq => ?_)
    · have hw := hw.1 cq
      obtain ⟨x5, ex5⟩ : ∃ y : Int32, y = v5 + 1 := ⟨_, rfl⟩
      have hw := hw x5 ex5
      refine lv_iinc (v := x5) (lv' := [(5, .int x5), (6, .int x3), (0, .ref (ad bs o)), (1, .int a1), (2, .int a2), (3, .int v3), (4, .int v4)]) hx hb dX12_shoeOf_102 hl (k := 6) rfl (by rw [ex5]; rfl) (by decide) rfl (fun ls hl => ?_)
      refine lv_goto (tgt := 26) hx hb dX12_shoeOf_105 (by decide) ?_
      exact hw H locs ls  hM hS (lv_sub hl [2, 3, 4, 5, 6, 0] rfl)
    · have hw := hw.2 cq
      refine lv_aload_n hx hb dX12_shoeOf_55 rfl (lv_at hl 1 rfl) ?_
      refine lv_iload hx hb dX12_shoeOf_56 (lv_at hl 0 rfl) ?_
      refine lv_iconst (v := 1) hx hb dX12_shoeOf_58 (by decide) ?_
      refine lv_iadd hx hb dX12_shoeOf_59 ?_
      refine m_ci (m_runV E hM hS cs_X12_205 ho.1 (by decide) rfl rfl (c_X12_of ho hw) rfl rfl ⟨Nat.le_of_ble_eq_true rfl, Nat.le_of_ble_eq_true rfl⟩ rfl hl.1 rfl (Nat.le_of_ble_eq_true rfl) dX12_shoeOf_60 ⟨Nat.le_of_ble_eq_true rfl, Nat.le_of_ble_eq_true rfl⟩) hS (fun r6 u H locs hp hM hS => ?_)
      obtain ⟨rfl, hw⟩ := hp
      refine lv_iload_n hx hb dX12_shoeOf_63 rfl (lv_at hl 3 rfl) ?_
      refine lv_icmp_gt (tgt := 102) hx hb dX12_shoeOf_64 (by decide) (fun cq => ?_) (fun cq => ?_)
      · have hw := hw.1 cq
        obtain ⟨x7, ex7⟩ : ∃ y : Int32, y = v5 + 1 := ⟨_, rfl⟩
        have hw := hw x7 ex7
        refine lv_iinc (v := x7) (lv' := [(5, .int x7), (6, .int x3), (0, .ref (ad bs o)), (1, .int a1), (2, .int a2), (3, .int v3), (4, .int v4)]) hx hb dX12_shoeOf_102 hl (k := 6) rfl (by rw [ex7]; rfl) (by decide) rfl (fun ls hl => ?_)
        refine lv_goto (tgt := 26) hx hb dX12_shoeOf_105 (by decide) ?_
        exact hw H locs ls  hM hS (lv_sub hl [2, 3, 4, 5, 6, 0] rfl)
      · have hw := hw.2 cq
        refine lv_aload_n hx hb dX12_shoeOf_67 rfl (lv_at hl 1 rfl) ?_
        refine lv_iload hx hb dX12_shoeOf_68 (lv_at hl 0 rfl) ?_
        refine lv_iconst (v := 1) hx hb dX12_shoeOf_70 (by decide) ?_
        refine lv_iadd hx hb dX12_shoeOf_71 ?_
        refine m_ci (m_runV E hM hS cs_X12_205 ho.1 (by decide) rfl rfl (c_X12_of ho hw) rfl rfl ⟨Nat.le_of_ble_eq_true rfl, Nat.le_of_ble_eq_true rfl⟩ rfl hl.1 rfl (Nat.le_of_ble_eq_true rfl) dX12_shoeOf_72 ⟨Nat.le_of_ble_eq_true rfl, Nat.le_of_ble_eq_true rfl⟩) hS (fun r8 u H locs hp hM hS => ?_)
        obtain ⟨rfl, hw⟩ := hp
        refine lv_iload hx hb dX12_shoeOf_75 (lv_at hl 5 rfl) ?_
        refine lv_icmp_ge (tgt := 83) hx hb dX12_shoeOf_77 (by decide) (fun cq => ?_) (fun cq => ?_)
        · have hw := hw.1 cq
          refine lv_aload_n hx hb dX12_shoeOf_83 rfl (lv_at hl 1 rfl) ?_
          refine lv_iload hx hb dX12_shoeOf_84 (lv_at hl 0 rfl) ?_
          refine lv_iconst (v := 1) hx hb dX12_shoeOf_86 (by decide) ?_
          refine lv_iadd hx hb dX12_shoeOf_87 ?_
          refine m_ci (m_runV E hM hS cs_X12_205 ho.1 (by decide) rfl rfl (c_X12_of ho hw) rfl rfl ⟨Nat.le_of_ble_eq_true rfl, Nat.le_of_ble_eq_true rfl⟩ rfl hl.1 rfl (Nat.le_of_ble_eq_true rfl) dX12_shoeOf_88 ⟨Nat.le_of_ble_eq_true rfl, Nat.le_of_ble_eq_true rfl⟩) hS (fun r9 u H locs hp hM hS => ?_)
          obtain ⟨rfl, hw⟩ := hp
          refine lv_istore (lv' := [(4, .int r9), (6, .int x3), (0, .ref (ad bs o)), (1, .int a1), (2, .int a2), (3, .int v3), (5, .int v5)]) hx hb dX12_shoeOf_91 hl (by decide) rfl (fun ls hl => ?_)
          refine lv_aload_n hx hb dX12_shoeOf_93 rfl (lv_at hl 2 rfl) ?_
          refine lv_iload hx hb dX12_shoeOf_94 (lv_at hl 1 rfl) ?_
          refine lv_iconst (v := 2) hx hb dX12_shoeOf_96 (by decide) ?_
          refine lv_iadd hx hb dX12_shoeOf_97 ?_
          refine m_ci (m_runV E hM hS cs_X12_205 ho.1 (by decide) rfl rfl (c_X12_of ho hw) rfl rfl ⟨Nat.le_of_ble_eq_true rfl, Nat.le_of_ble_eq_true rfl⟩ rfl hl.1 rfl (Nat.le_of_ble_eq_true rfl) dX12_shoeOf_98 ⟨Nat.le_of_ble_eq_true rfl, Nat.le_of_ble_eq_true rfl⟩) hS (fun r10 u H locs hp hM hS => ?_)
          obtain ⟨rfl, hw⟩ := hp
          refine lv_istore_n (lv' := [(3, .int r10), (4, .int r9), (6, .int x3), (0, .ref (ad bs o)), (1, .int a1), (2, .int a2), (5, .int v5)]) hx hb dX12_shoeOf_101 rfl hl (by decide) rfl (fun ls hl => ?_)
          obtain ⟨x11, ex11⟩ : ∃ y : Int32, y = v5 + 1 := ⟨_, rfl⟩
          have hw := hw x11 ex11
          refine lv_iinc (v := x11) (lv' := [(5, .int x11), (3, .int r10), (4, .int r9), (6, .int x3), (0, .ref (ad bs o)), (1, .int a1), (2, .int a2)]) hx hb dX12_shoeOf_102 hl (k := 6) rfl (by rw [ex11]; rfl) (by decide) rfl (fun ls hl => ?_)
          refine lv_goto (tgt := 26) hx hb dX12_shoeOf_105 (by decide) ?_
          exact hw H locs ls  hM hS (lv_sub hl [4, 5, 6, 1, 2, 0] rfl)
        · have hw := hw.2 cq
          refine lv_goto (tgt := 102) hx hb dX12_shoeOf_80 (by decide) ?_
          obtain ⟨x12, ex12⟩ : ∃ y : Int32, y = v5 + 1 := ⟨_, rfl⟩
          have hw := hw x12 ex12
          refine lv_iinc (v := x12) (lv' := [(5, .int x12), (6, .int x3), (0, .ref (ad bs o)), (1, .int a1), (2, .int a2), (3, .int v3), (4, .int v4)]) hx hb dX12_shoeOf_102 hl (k := 6) rfl (by rw [ex12]; rfl) (by decide) rfl (fun ls hl => ?_)
          refine lv_goto (tgt := 26) hx hb dX12_shoeOf_105 (by decide) ?_
          exact hw H locs ls  hM hS (lv_sub hl [2, 3, 4, 5, 6, 0] rfl)
def w_X12_shoeOf (I : mI) (o : Nat) (a1 : Int32) (a2 : Int32) (post : Int32 → Prop) : Prop := (¬ a1 = (I o 13) → w_X12_told I o a1 0 (fun r1 => (w_X12_shoeOf_26 I o a1 a2 post) r1 (-1) 0)) ∧ (a1 = (I o 13) → post (I o 14))
set_option maxRecDepth 100000 in
set_option maxHeartbeats 4000000 in
theorem c_X12_shoeOf {l : Launch} {D : va_G} {cA : Nat → ClassId} {Z : mZ} {bs : Ad} {n : Nat} {K : mK} {R : mR} {I : mI} {L : mL} {o : Nat} {a1 : Int32} {a2 : Int32} {post : Int32 → Prop} (ho : isX12 K R o) (hw : w_X12_shoeOf I o a1 a2 post) : Met l yX12_shoeOf (.code yX12_shoeOf cX12_shoeOf 7 (some .int) :: gw) ({ frames := 1, cells := 0, slots := 0, locals := 22 } : Room) (PreM D cA Z bs (n, K, R, I, L) [.ref (ad bs o), .int a1, .int a2]) (QI D cA bs (fun r u => u = (n, K, R, I, L) ∧ post r)) 0 0 (Ab bs) := by
  refine m_met (by decide) (Nat.le_of_ble_eq_true rfl) (fun p e s m below meth c ls E hr hlk hM hS hl => ?_)
  have E : Ev p s m _ c cX12_shoeOf 7 RX12 D cA Z bs := E
  have hl : lv_has ls 7 [(0, .ref (ad bs o)), (1, .int a1), (2, .int a2)] := hl
  have hx := E.1.1
  have hb := E.1.2.1
  generalize hHe : s.heap = H at hM ⊢
  have hS : va_S (Ab bs) s.heap H [] := by rw [← hHe]; exact va_S.rf
  clear hHe
  refine lv_iload_n hx hb dX12_shoeOf_0 rfl (lv_at hl 1 rfl) ?_
  refine lv_aload_n hx hb dX12_shoeOf_1 rfl (lv_at hl 0 rfl) ?_
  refine m_geti E hM fs_X12_220 ho.1 dX12_shoeOf_2 ?_
  refine lv_icmp_ne (tgt := 13) hx hb dX12_shoeOf_5 (by decide) (fun cq => ?_) (fun cq => ?_)
  · have hw := hw.1 cq
    refine lv_aload_n hx hb dX12_shoeOf_13 rfl (lv_at hl 0 rfl) ?_
    refine lv_iload_n hx hb dX12_shoeOf_14 rfl (lv_at hl 1 rfl) ?_
    refine lv_iconst (v := 0) hx hb dX12_shoeOf_15 (by decide) ?_
    refine m_ci (m_runV E hM hS cs_X12_241 ho.1 (by decide) rfl rfl (c_X12_told ho hw) rfl rfl ⟨Nat.le_of_ble_eq_true rfl, Nat.le_of_ble_eq_true rfl⟩ rfl hl.1 rfl (Nat.le_of_ble_eq_true rfl) dX12_shoeOf_16 ⟨Nat.le_of_ble_eq_true rfl, Nat.le_of_ble_eq_true rfl⟩) hS (fun r1 u H locs hp hM hS => ?_)
    obtain ⟨rfl, hw⟩ := hp
    refine lv_istore_n (lv' := [(3, .int r1), (0, .ref (ad bs o)), (1, .int a1), (2, .int a2)]) hx hb dX12_shoeOf_19 rfl hl (by decide) rfl (fun ls hl => ?_)
    refine lv_iconst (v := (-1)) hx hb dX12_shoeOf_20 (by decide) ?_
    refine lv_istore (lv' := [(4, .int (-1)), (3, .int r1), (0, .ref (ad bs o)), (1, .int a1), (2, .int a2)]) hx hb dX12_shoeOf_21 hl (by decide) rfl (fun ls hl => ?_)
    refine lv_iconst (v := 0) hx hb dX12_shoeOf_23 (by decide) ?_
    refine lv_istore (lv' := [(5, .int 0), (4, .int (-1)), (3, .int r1), (0, .ref (ad bs o)), (1, .int a1), (2, .int a2)]) hx hb dX12_shoeOf_24 hl (by decide) rfl (fun ls hl => ?_)
    exact s_X12_shoeOf_26 E hr hlk ho  hw hM hS (lv_sub hl [3, 4, 5, 2, 1, 0] rfl)
  · have hw := hw.2 cq
    refine lv_aload_n hx hb dX12_shoeOf_8 rfl (lv_at hl 0 rfl) ?_
    refine m_geti E hM fs_X12_238 ho.1 dX12_shoeOf_9 ?_
    exact m_reti hx hb hr hlk hM hS ⟨rfl, hw⟩ dX12_shoeOf_12
theorem dX12_carpetOf_0 : decode cX12_carpetOf 0 = .ok (.aload_n 0, 1) := by decide +kernel
theorem dX12_carpetOf_1 : decode cX12_carpetOf 1 = .ok (.iconst 5, 1) := by decide +kernel
theorem dX12_carpetOf_2 : decode cX12_carpetOf 2 = .ok (.iload_n 1, 1) := by decide +kernel
theorem dX12_carpetOf_3 : decode cX12_carpetOf 3 = .ok (.iadd, 1) := by decide +kernel
theorem dX12_carpetOf_4 : decode cX12_carpetOf 4 = .ok (.invokevirtual 205, 3) := by decide +kernel
theorem dX12_carpetOf_7 : decode cX12_carpetOf 7 = .ok (.iload_n 1, 1) := by decide +kernel
theorem dX12_carpetOf_8 : decode cX12_carpetOf 8 = .ok (.aload_n 0, 1) := by decide +kernel
theorem dX12_carpetOf_9 : decode cX12_carpetOf 9 = .ok (.getfield 229, 3) := by decide +kernel
theorem dX12_carpetOf_12 : decode cX12_carpetOf 12 = .ok (.if_icmp .ne 10, 3) := by decide +kernel
theorem dX12_carpetOf_15 : decode cX12_carpetOf 15 = .ok (.aload_n 0, 1) := by decide +kernel
theorem dX12_carpetOf_16 : decode cX12_carpetOf 16 = .ok (.getfield 244, 3) := by decide +kernel
theorem dX12_carpetOf_19 : decode cX12_carpetOf 19 = .ok (.goto 4, 3) := by decide +kernel
theorem dX12_carpetOf_22 : decode cX12_carpetOf 22 = .ok (.iconst 0, 1) := by decide +kernel
theorem dX12_carpetOf_23 : decode cX12_carpetOf 23 = .ok (.iadd, 1) := by decide +kernel
theorem dX12_carpetOf_24 : decode cX12_carpetOf 24 = .ok (.istore_n 2, 1) := by decide +kernel
theorem dX12_carpetOf_25 : decode cX12_carpetOf 25 = .ok (.iload_n 2, 1) := by decide +kernel
theorem dX12_carpetOf_26 : decode cX12_carpetOf 26 = .ok (.bipush 9, 2) := by decide +kernel
theorem dX12_carpetOf_28 : decode cX12_carpetOf 28 = .ok (.if_icmp .le 8, 3) := by decide +kernel
theorem dX12_carpetOf_31 : decode cX12_carpetOf 31 = .ok (.bipush 9, 2) := by decide +kernel
theorem dX12_carpetOf_33 : decode cX12_carpetOf 33 = .ok (.goto 4, 3) := by decide +kernel
theorem dX12_carpetOf_36 : decode cX12_carpetOf 36 = .ok (.iload_n 2, 1) := by decide +kernel
theorem dX12_carpetOf_37 : decode cX12_carpetOf 37 = .ok (.ireturn, 1) := by decide +kernel
def w_X12_carpetOf_23 (I : mI) (o : Nat) (a1 : Int32) (post : Int32 → Prop) (s0 : Int32) (s1 : Int32) : Prop := ∀ x2, x2 = (s0 + s1) → (x2 ≤ 9 → post x2) ∧ (¬ x2 ≤ 9 → post 9)
set_option maxRecDepth 100000 in
set_option maxHeartbeats 4000000 in
theorem s_X12_carpetOf_23 {p : Program} {l : Launch} {e : Env} {s : State} {m : MethodId} {args : Array Value} {below : List Frame} {meth : Method} {c : Code} {D : va_G} {cA : Nat → ClassId} {Z : mZ} {bs : Ad} {n : Nat} {K : mK} {R : mR} {I : mI} {L : mL} (E : Ev p s m args c cX12_carpetOf 3 RX12 D cA Z bs) (hr : meth.sig.returnType = (some .int)) (hlk : meth.locks = false) {o : Nat} {a1 : Int32} (ho : isX12 K R o) {post : Int32 → Prop} {s0 : Int32} {s1 : Int32} {H : Heap} {locs : List Loc} {ls : Array Slot} (hw : w_X12_carpetOf_23 I o a1 post s0 s1) (hM : mm D cA bs (n, K, R, I, L) H) (hS : va_S (Ab bs) s.heap H locs) (hl : lv_has ls 3 []) : W p l e ({ frames := 1, cells := 0, slots := 0, locals := 21 } : Room) s m args below meth c H locs 0 0 (MQ below (QI D cA bs (fun r u => u = (n, K, R, I, L) ∧ post r)) args s 0 0 (Ab bs)) (F0 m 23 ls [.int s1, .int s0]) := by
  have hx := E.1.1
  have hb := E.1.2.1
  refine lv_iadd hx hb dX12_carpetOf_23 ?_
  refine lv_topi (fun x2 ex2 => ?_)
  have hw := hw x2 ex2
  refine lv_istore_n (lv' := [(2, .int x2)]) hx hb dX12_carpetOf_24 rfl hl (by decide) rfl (fun ls hl => ?_)
  refine lv_iload_n hx hb dX12_carpetOf_25 rfl (lv_at hl 0 rfl) ?_
  refine lv_bipush (v := 9) hx hb dX12_carpetOf_26 (by decide) ?_
  refine lv_icmp_le (tgt := 36) hx hb dX12_carpetOf_28 (by decide) (fun cq => ?_) (fun cq => ?_)
  · have hw := hw.1 cq
    refine lv_iload_n hx hb dX12_carpetOf_36 rfl (lv_at hl 0 rfl) ?_
    exact m_reti hx hb hr hlk hM hS ⟨rfl, hw⟩ dX12_carpetOf_37
  · have hw := hw.2 cq
    refine lv_bipush (v := 9) hx hb dX12_carpetOf_31 (by decide) ?_
    refine lv_goto (tgt := 37) hx hb dX12_carpetOf_33 (by decide) ?_
    exact m_reti hx hb hr hlk hM hS ⟨rfl, hw⟩ dX12_carpetOf_37
def w_X12_carpetOf (I : mI) (o : Nat) (a1 : Int32) (post : Int32 → Prop) : Prop := w_X12_of I o (5 + a1) (fun r1 => (¬ a1 = (I o 18) → (w_X12_carpetOf_23 I o a1 post) r1 0) ∧ (a1 = (I o 18) → (w_X12_carpetOf_23 I o a1 post) r1 (I o 19)))
set_option maxRecDepth 100000 in
set_option maxHeartbeats 4000000 in
theorem c_X12_carpetOf {l : Launch} {D : va_G} {cA : Nat → ClassId} {Z : mZ} {bs : Ad} {n : Nat} {K : mK} {R : mR} {I : mI} {L : mL} {o : Nat} {a1 : Int32} {post : Int32 → Prop} (ho : isX12 K R o) (hw : w_X12_carpetOf I o a1 post) : Met l yX12_carpetOf (.code yX12_carpetOf cX12_carpetOf 3 (some .int) :: gw) ({ frames := 1, cells := 0, slots := 0, locals := 21 } : Room) (PreM D cA Z bs (n, K, R, I, L) [.ref (ad bs o), .int a1]) (QI D cA bs (fun r u => u = (n, K, R, I, L) ∧ post r)) 0 0 (Ab bs) := by
  refine m_met (by decide) (Nat.le_of_ble_eq_true rfl) (fun p e s m below meth c ls E hr hlk hM hS hl => ?_)
  have E : Ev p s m _ c cX12_carpetOf 3 RX12 D cA Z bs := E
  have hl : lv_has ls 3 [(0, .ref (ad bs o)), (1, .int a1)] := hl
  have hx := E.1.1
  have hb := E.1.2.1
  generalize hHe : s.heap = H at hM ⊢
  have hS : va_S (Ab bs) s.heap H [] := by rw [← hHe]; exact va_S.rf
  clear hHe
  refine lv_aload_n hx hb dX12_carpetOf_0 rfl (lv_at hl 0 rfl) ?_
  refine lv_iconst (v := 5) hx hb dX12_carpetOf_1 (by decide) ?_
  refine lv_iload_n hx hb dX12_carpetOf_2 rfl (lv_at hl 1 rfl) ?_
  refine lv_iadd hx hb dX12_carpetOf_3 ?_
  refine m_ci (m_runV E hM hS cs_X12_205 ho.1 (by decide) rfl rfl (c_X12_of ho hw) rfl rfl ⟨Nat.le_of_ble_eq_true rfl, Nat.le_of_ble_eq_true rfl⟩ rfl hl.1 rfl (Nat.le_of_ble_eq_true rfl) dX12_carpetOf_4 ⟨Nat.le_of_ble_eq_true rfl, Nat.le_of_ble_eq_true rfl⟩) hS (fun r1 u H locs hp hM hS => ?_)
  obtain ⟨rfl, hw⟩ := hp
  refine lv_iload_n hx hb dX12_carpetOf_7 rfl (lv_at hl 1 rfl) ?_
  refine lv_aload_n hx hb dX12_carpetOf_8 rfl (lv_at hl 0 rfl) ?_
  refine m_geti E hM fs_X12_229 ho.1 dX12_carpetOf_9 ?_
  refine lv_icmp_ne (tgt := 22) hx hb dX12_carpetOf_12 (by decide) (fun cq => ?_) (fun cq => ?_)
  · have hw := hw.1 cq
    refine lv_iconst (v := 0) hx hb dX12_carpetOf_22 (by decide) ?_
    exact s_X12_carpetOf_23 E hr hlk ho  hw hM hS (lv_sub hl [] rfl)
  · have hw := hw.2 cq
    refine lv_aload_n hx hb dX12_carpetOf_15 rfl (lv_at hl 0 rfl) ?_
    refine m_geti E hM fs_X12_244 ho.1 dX12_carpetOf_16 ?_
    refine lv_goto (tgt := 23) hx hb dX12_carpetOf_19 (by decide) ?_
    exact s_X12_carpetOf_23 E hr hlk ho  hw hM hS (lv_sub hl [] rfl)
theorem dX12_loudBy_0 : decode cX12_loudBy 0 = .ok (.aload_n 0, 1) := by decide +kernel
theorem dX12_loudBy_1 : decode cX12_loudBy 1 = .ok (.iload_n 1, 1) := by decide +kernel
theorem dX12_loudBy_2 : decode cX12_loudBy 2 = .ok (.iconst 1, 1) := by decide +kernel
theorem dX12_loudBy_3 : decode cX12_loudBy 3 = .ok (.invokevirtual 241, 3) := by decide +kernel
theorem dX12_loudBy_6 : decode cX12_loudBy 6 = .ok (.iload_n 2, 1) := by decide +kernel
theorem dX12_loudBy_7 : decode cX12_loudBy 7 = .ok (.iadd, 1) := by decide +kernel
theorem dX12_loudBy_8 : decode cX12_loudBy 8 = .ok (.aload_n 0, 1) := by decide +kernel
theorem dX12_loudBy_9 : decode cX12_loudBy 9 = .ok (.iload_n 3, 1) := by decide +kernel
theorem dX12_loudBy_10 : decode cX12_loudBy 10 = .ok (.invokevirtual 247, 3) := by decide +kernel
theorem dX12_loudBy_13 : decode cX12_loudBy 13 = .ok (.isub, 1) := by decide +kernel
theorem dX12_loudBy_14 : decode cX12_loudBy 14 = .ok (.istore 4, 2) := by decide +kernel
theorem dX12_loudBy_16 : decode cX12_loudBy 16 = .ok (.iload 4, 2) := by decide +kernel
theorem dX12_loudBy_18 : decode cX12_loudBy 18 = .ok (.ifCond .ge 7, 3) := by decide +kernel
theorem dX12_loudBy_21 : decode cX12_loudBy 21 = .ok (.iconst 0, 1) := by decide +kernel
theorem dX12_loudBy_22 : decode cX12_loudBy 22 = .ok (.goto 5, 3) := by decide +kernel
theorem dX12_loudBy_25 : decode cX12_loudBy 25 = .ok (.iload 4, 2) := by decide +kernel
theorem dX12_loudBy_27 : decode cX12_loudBy 27 = .ok (.ireturn, 1) := by decide +kernel
def w_X12_loudBy (I : mI) (o : Nat) (a1 : Int32) (a2 : Int32) (a3 : Int32) (post : Int32 → Prop) : Prop := w_X12_told I o a1 1 (fun r1 => w_X12_carpetOf I o a3 (fun r2 => ∀ x3, x3 = ((r1 + a2) - r2) → (0 ≤ x3 → post x3) ∧ (¬ 0 ≤ x3 → post 0)))
set_option maxRecDepth 100000 in
set_option maxHeartbeats 4000000 in
theorem c_X12_loudBy {l : Launch} {D : va_G} {cA : Nat → ClassId} {Z : mZ} {bs : Ad} {n : Nat} {K : mK} {R : mR} {I : mI} {L : mL} {o : Nat} {a1 : Int32} {a2 : Int32} {a3 : Int32} {post : Int32 → Prop} (ho : isX12 K R o) (hw : w_X12_loudBy I o a1 a2 a3 post) : Met l yX12_loudBy (.code yX12_loudBy cX12_loudBy 5 (some .int) :: gw) ({ frames := 2, cells := 0, slots := 0, locals := 43 } : Room) (PreM D cA Z bs (n, K, R, I, L) [.ref (ad bs o), .int a1, .int a2, .int a3]) (QI D cA bs (fun r u => u = (n, K, R, I, L) ∧ post r)) 0 0 (Ab bs) := by
  refine m_met (by decide) (Nat.le_of_ble_eq_true rfl) (fun p e s m below meth c ls E hr hlk hM hS hl => ?_)
  have E : Ev p s m _ c cX12_loudBy 5 RX12 D cA Z bs := E
  have hl : lv_has ls 5 [(0, .ref (ad bs o)), (1, .int a1), (2, .int a2), (3, .int a3)] := hl
  have hx := E.1.1
  have hb := E.1.2.1
  generalize hHe : s.heap = H at hM ⊢
  have hS : va_S (Ab bs) s.heap H [] := by rw [← hHe]; exact va_S.rf
  clear hHe
  refine lv_aload_n hx hb dX12_loudBy_0 rfl (lv_at hl 0 rfl) ?_
  refine lv_iload_n hx hb dX12_loudBy_1 rfl (lv_at hl 1 rfl) ?_
  refine lv_iconst (v := 1) hx hb dX12_loudBy_2 (by decide) ?_
  refine m_ci (m_runV E hM hS cs_X12_241 ho.1 (by decide) rfl rfl (c_X12_told ho hw) rfl rfl ⟨Nat.le_of_ble_eq_true rfl, Nat.le_of_ble_eq_true rfl⟩ rfl hl.1 rfl (Nat.le_of_ble_eq_true rfl) dX12_loudBy_3 ⟨Nat.le_of_ble_eq_true rfl, Nat.le_of_ble_eq_true rfl⟩) hS (fun r1 u H locs hp hM hS => ?_)
  obtain ⟨rfl, hw⟩ := hp
  refine lv_iload_n hx hb dX12_loudBy_6 rfl (lv_at hl 2 rfl) ?_
  refine lv_iadd hx hb dX12_loudBy_7 ?_
  refine lv_aload_n hx hb dX12_loudBy_8 rfl (lv_at hl 0 rfl) ?_
  refine lv_iload_n hx hb dX12_loudBy_9 rfl (lv_at hl 3 rfl) ?_
  refine m_ci (m_runV E hM hS cs_X12_247 ho.1 (by decide) rfl rfl (c_X12_carpetOf ho hw) rfl rfl ⟨Nat.le_of_ble_eq_true rfl, Nat.le_of_ble_eq_true rfl⟩ rfl hl.1 rfl (Nat.le_of_ble_eq_true rfl) dX12_loudBy_10 ⟨Nat.le_of_ble_eq_true rfl, Nat.le_of_ble_eq_true rfl⟩) hS (fun r2 u H locs hp hM hS => ?_)
  obtain ⟨rfl, hw⟩ := hp
  refine lv_isub hx hb dX12_loudBy_13 ?_
  refine lv_topi (fun x3 ex3 => ?_)
  have hw := hw x3 ex3
  refine lv_istore (lv' := [(4, .int x3), (0, .ref (ad bs o)), (1, .int a1), (2, .int a2), (3, .int a3)]) hx hb dX12_loudBy_14 hl (by decide) rfl (fun ls hl => ?_)
  refine lv_iload hx hb dX12_loudBy_16 (lv_at hl 0 rfl) ?_
  refine lv_if_ge (tgt := 25) hx hb dX12_loudBy_18 (by decide) (fun cq => ?_) (fun cq => ?_)
  · have hw := hw.1 cq
    refine lv_iload hx hb dX12_loudBy_25 (lv_at hl 0 rfl) ?_
    exact m_reti hx hb hr hlk hM hS ⟨rfl, hw⟩ dX12_loudBy_27
  · have hw := hw.2 cq
    refine lv_iconst (v := 0) hx hb dX12_loudBy_21 (by decide) ?_
    refine lv_goto (tgt := 27) hx hb dX12_loudBy_22 (by decide) ?_
    exact m_reti hx hb hr hlk hM hS ⟨rfl, hw⟩ dX12_loudBy_27
theorem dX12_flatAt_0 : decode cX12_flatAt 0 = .ok (.iload_n 1, 1) := by decide +kernel
theorem dX12_flatAt_1 : decode cX12_flatAt 1 = .ok (.aload_n 0, 1) := by decide +kernel
theorem dX12_flatAt_2 : decode cX12_flatAt 2 = .ok (.getfield 232, 3) := by decide +kernel
theorem dX12_flatAt_5 : decode cX12_flatAt 5 = .ok (.if_icmp .ne 10, 3) := by decide +kernel
theorem dX12_flatAt_8 : decode cX12_flatAt 8 = .ok (.aload_n 0, 1) := by decide +kernel
theorem dX12_flatAt_9 : decode cX12_flatAt 9 = .ok (.getfield 250, 3) := by decide +kernel
theorem dX12_flatAt_12 : decode cX12_flatAt 12 = .ok (.goto 13, 3) := by decide +kernel
theorem dX12_flatAt_15 : decode cX12_flatAt 15 = .ok (.aload_n 0, 1) := by decide +kernel
theorem dX12_flatAt_16 : decode cX12_flatAt 16 = .ok (.bipush 29, 2) := by decide +kernel
theorem dX12_flatAt_18 : decode cX12_flatAt 18 = .ok (.iconst 2, 1) := by decide +kernel
theorem dX12_flatAt_19 : decode cX12_flatAt 19 = .ok (.iload_n 1, 1) := by decide +kernel
theorem dX12_flatAt_20 : decode cX12_flatAt 20 = .ok (.imul, 1) := by decide +kernel
theorem dX12_flatAt_21 : decode cX12_flatAt 21 = .ok (.iadd, 1) := by decide +kernel
theorem dX12_flatAt_22 : decode cX12_flatAt 22 = .ok (.invokevirtual 205, 3) := by decide +kernel
theorem dX12_flatAt_25 : decode cX12_flatAt 25 = .ok (.ireturn, 1) := by decide +kernel
def w_X12_flatAt (I : mI) (o : Nat) (a1 : Int32) (post : Int32 → Prop) : Prop := (¬ a1 = (I o 20) → w_X12_of I o (29 + (2 * a1)) (fun r1 => post r1)) ∧ (a1 = (I o 20) → post (I o 21))
set_option maxRecDepth 100000 in
set_option maxHeartbeats 4000000 in
theorem c_X12_flatAt {l : Launch} {D : va_G} {cA : Nat → ClassId} {Z : mZ} {bs : Ad} {n : Nat} {K : mK} {R : mR} {I : mI} {L : mL} {o : Nat} {a1 : Int32} {post : Int32 → Prop} (ho : isX12 K R o) (hw : w_X12_flatAt I o a1 post) : Met l yX12_flatAt (.code yX12_flatAt cX12_flatAt 2 (some .int) :: gw) ({ frames := 1, cells := 0, slots := 0, locals := 21 } : Room) (PreM D cA Z bs (n, K, R, I, L) [.ref (ad bs o), .int a1]) (QI D cA bs (fun r u => u = (n, K, R, I, L) ∧ post r)) 0 0 (Ab bs) := by
  refine m_met (by decide) (Nat.le_of_ble_eq_true rfl) (fun p e s m below meth c ls E hr hlk hM hS hl => ?_)
  have E : Ev p s m _ c cX12_flatAt 2 RX12 D cA Z bs := E
  have hl : lv_has ls 2 [(0, .ref (ad bs o)), (1, .int a1)] := hl
  have hx := E.1.1
  have hb := E.1.2.1
  generalize hHe : s.heap = H at hM ⊢
  have hS : va_S (Ab bs) s.heap H [] := by rw [← hHe]; exact va_S.rf
  clear hHe
  refine lv_iload_n hx hb dX12_flatAt_0 rfl (lv_at hl 1 rfl) ?_
  refine lv_aload_n hx hb dX12_flatAt_1 rfl (lv_at hl 0 rfl) ?_
  refine m_geti E hM fs_X12_232 ho.1 dX12_flatAt_2 ?_
  refine lv_icmp_ne (tgt := 15) hx hb dX12_flatAt_5 (by decide) (fun cq => ?_) (fun cq => ?_)
  · have hw := hw.1 cq
    refine lv_aload_n hx hb dX12_flatAt_15 rfl (lv_at hl 0 rfl) ?_
    refine lv_bipush (v := 29) hx hb dX12_flatAt_16 (by decide) ?_
    refine lv_iconst (v := 2) hx hb dX12_flatAt_18 (by decide) ?_
    refine lv_iload_n hx hb dX12_flatAt_19 rfl (lv_at hl 1 rfl) ?_
    refine lv_imul hx hb dX12_flatAt_20 ?_
    refine lv_iadd hx hb dX12_flatAt_21 ?_
    refine m_ci (m_runV E hM hS cs_X12_205 ho.1 (by decide) rfl rfl (c_X12_of ho hw) rfl rfl ⟨Nat.le_of_ble_eq_true rfl, Nat.le_of_ble_eq_true rfl⟩ rfl hl.1 rfl (Nat.le_of_ble_eq_true rfl) dX12_flatAt_22 ⟨Nat.le_of_ble_eq_true rfl, Nat.le_of_ble_eq_true rfl⟩) hS (fun r1 u H locs hp hM hS => ?_)
    obtain ⟨rfl, hw⟩ := hp
    exact m_reti hx hb hr hlk hM hS ⟨rfl, hw⟩ dX12_flatAt_25
  · have hw := hw.2 cq
    refine lv_aload_n hx hb dX12_flatAt_8 rfl (lv_at hl 0 rfl) ?_
    refine m_geti E hM fs_X12_250 ho.1 dX12_flatAt_9 ?_
    refine lv_goto (tgt := 25) hx hb dX12_flatAt_12 (by decide) ?_
    exact m_reti hx hb hr hlk hM hS ⟨rfl, hw⟩ dX12_flatAt_25
theorem dX12_isHeard_0 : decode cX12_isHeard 0 = .ok (.iload_n 3, 1) := by decide +kernel
theorem dX12_isHeard_1 : decode cX12_isHeard 1 = .ok (.aload_n 0, 1) := by decide +kernel
theorem dX12_isHeard_2 : decode cX12_isHeard 2 = .ok (.iload_n 1, 1) := by decide +kernel
theorem dX12_isHeard_3 : decode cX12_isHeard 3 = .ok (.invokevirtual 253, 3) := by decide +kernel
theorem dX12_isHeard_6 : decode cX12_isHeard 6 = .ok (.if_icmp .le 13, 3) := by decide +kernel
theorem dX12_isHeard_9 : decode cX12_isHeard 9 = .ok (.iload_n 3, 1) := by decide +kernel
theorem dX12_isHeard_10 : decode cX12_isHeard 10 = .ok (.aload_n 0, 1) := by decide +kernel
theorem dX12_isHeard_11 : decode cX12_isHeard 11 = .ok (.iload_n 1, 1) := by decide +kernel
theorem dX12_isHeard_12 : decode cX12_isHeard 12 = .ok (.invokevirtual 253, 3) := by decide +kernel
theorem dX12_isHeard_15 : decode cX12_isHeard 15 = .ok (.isub, 1) := by decide +kernel
theorem dX12_isHeard_16 : decode cX12_isHeard 16 = .ok (.goto 10, 3) := by decide +kernel
theorem dX12_isHeard_19 : decode cX12_isHeard 19 = .ok (.aload_n 0, 1) := by decide +kernel
theorem dX12_isHeard_20 : decode cX12_isHeard 20 = .ok (.iload_n 1, 1) := by decide +kernel
theorem dX12_isHeard_21 : decode cX12_isHeard 21 = .ok (.invokevirtual 253, 3) := by decide +kernel
theorem dX12_isHeard_24 : decode cX12_isHeard 24 = .ok (.iload_n 3, 1) := by decide +kernel
theorem dX12_isHeard_25 : decode cX12_isHeard 25 = .ok (.isub, 1) := by decide +kernel
theorem dX12_isHeard_26 : decode cX12_isHeard 26 = .ok (.istore 4, 2) := by decide +kernel
theorem dX12_isHeard_28 : decode cX12_isHeard 28 = .ok (.iload_n 2, 1) := by decide +kernel
theorem dX12_isHeard_29 : decode cX12_isHeard 29 = .ok (.ifCond .le 26, 3) := by decide +kernel
theorem dX12_isHeard_32 : decode cX12_isHeard 32 = .ok (.iload 4, 2) := by decide +kernel
theorem dX12_isHeard_34 : decode cX12_isHeard 34 = .ok (.aload_n 0, 1) := by decide +kernel
theorem dX12_isHeard_35 : decode cX12_isHeard 35 = .ok (.bipush 29, 2) := by decide +kernel
theorem dX12_isHeard_37 : decode cX12_isHeard 37 = .ok (.iconst 2, 1) := by decide +kernel
theorem dX12_isHeard_38 : decode cX12_isHeard 38 = .ok (.iload_n 1, 1) := by decide +kernel
theorem dX12_isHeard_39 : decode cX12_isHeard 39 = .ok (.imul, 1) := by decide +kernel
theorem dX12_isHeard_40 : decode cX12_isHeard 40 = .ok (.iadd, 1) := by decide +kernel
theorem dX12_isHeard_41 : decode cX12_isHeard 41 = .ok (.iconst 1, 1) := by decide +kernel
theorem dX12_isHeard_42 : decode cX12_isHeard 42 = .ok (.iadd, 1) := by decide +kernel
theorem dX12_isHeard_43 : decode cX12_isHeard 43 = .ok (.invokevirtual 205, 3) := by decide +kernel
theorem dX12_isHeard_46 : decode cX12_isHeard 46 = .ok (.iload_n 2, 1) := by decide +kernel
theorem dX12_isHeard_47 : decode cX12_isHeard 47 = .ok (.iadd, 1) := by decide +kernel
theorem dX12_isHeard_48 : decode cX12_isHeard 48 = .ok (.if_icmp .gt 7, 3) := by decide +kernel
theorem dX12_isHeard_51 : decode cX12_isHeard 51 = .ok (.iconst 1, 1) := by decide +kernel
theorem dX12_isHeard_52 : decode cX12_isHeard 52 = .ok (.goto 4, 3) := by decide +kernel
theorem dX12_isHeard_55 : decode cX12_isHeard 55 = .ok (.iconst 0, 1) := by decide +kernel
theorem dX12_isHeard_56 : decode cX12_isHeard 56 = .ok (.ireturn, 1) := by decide +kernel
def w_X12_isHeard_26 (I : mI) (o : Nat) (a1 : Int32) (a2 : Int32) (a3 : Int32) (post : Bool → Prop) (s0 : Int32) : Prop := (a2 ≤ 0 → post false) ∧ (¬ a2 ≤ 0 → w_X12_of I o ((29 + (2 * a1)) + 1) (fun r4 => ((r4 + a2) < s0 → post false) ∧ (¬ (r4 + a2) < s0 → post true)))
set_option maxRecDepth 100000 in
set_option maxHeartbeats 4000000 in
theorem s_X12_isHeard_26 {p : Program} {l : Launch} {e : Env} {s : State} {m : MethodId} {args : Array Value} {below : List Frame} {meth : Method} {c : Code} {D : va_G} {cA : Nat → ClassId} {Z : mZ} {bs : Ad} {n : Nat} {K : mK} {R : mR} {I : mI} {L : mL} (E : Ev p s m args c cX12_isHeard 5 RX12 D cA Z bs) (hr : meth.sig.returnType = (some .boolean)) (hlk : meth.locks = false) {o : Nat} {a1 : Int32} {a2 : Int32} {a3 : Int32} (ho : isX12 K R o) {post : Bool → Prop} {s0 : Int32} {H : Heap} {locs : List Loc} {ls : Array Slot} (hw : w_X12_isHeard_26 I o a1 a2 a3 post s0) (hM : mm D cA bs (n, K, R, I, L) H) (hS : va_S (Ab bs) s.heap H locs) (hl : lv_has ls 5 [(0, .ref (ad bs o)), (1, .int a1), (2, .int a2)]) : W p l e ({ frames := 2, cells := 0, slots := 0, locals := 42 } : Room) s m args below meth c H locs 0 0 (MQ below (QI D cA bs (fun r u => ∃ b, r = bI b ∧ u = (n, K, R, I, L) ∧ post b)) args s 0 0 (Ab bs)) (F0 m 26 ls [.int s0]) := by
  have hx := E.1.1
  have hb := E.1.2.1
  refine lv_istore (lv' := [(4, .int s0), (0, .ref (ad bs o)), (1, .int a1), (2, .int a2)]) hx hb dX12_isHeard_26 hl (by decide) rfl (fun ls hl => ?_)
  refine lv_iload_n hx hb dX12_isHeard_28 rfl (lv_at hl 3 rfl) ?_
  refine lv_if_le (tgt := 55) hx hb dX12_isHeard_29 (by decide) (fun cq => ?_) (fun cq => ?_)
  · have hw := hw.1 cq
    refine lv_iconst (v := 0) hx hb dX12_isHeard_55 (by decide) ?_
    exact m_retz hx hb hr hlk (Or.inl rfl) hM hS ⟨false, rfl, rfl, hw⟩ dX12_isHeard_56
  · have hw := hw.2 cq
    refine lv_iload hx hb dX12_isHeard_32 (lv_at hl 0 rfl) ?_
    refine lv_aload_n hx hb dX12_isHeard_34 rfl (lv_at hl 1 rfl) ?_
    refine lv_bipush (v := 29) hx hb dX12_isHeard_35 (by decide) ?_
    refine lv_iconst (v := 2) hx hb dX12_isHeard_37 (by decide) ?_
    refine lv_iload_n hx hb dX12_isHeard_38 rfl (lv_at hl 2 rfl) ?_
    refine lv_imul hx hb dX12_isHeard_39 ?_
    refine lv_iadd hx hb dX12_isHeard_40 ?_
    refine lv_iconst (v := 1) hx hb dX12_isHeard_41 (by decide) ?_
    refine lv_iadd hx hb dX12_isHeard_42 ?_
    refine m_ci (m_runV E hM hS cs_X12_205 ho.1 (by decide) rfl rfl (c_X12_of ho hw) rfl rfl ⟨Nat.le_of_ble_eq_true rfl, Nat.le_of_ble_eq_true rfl⟩ rfl hl.1 rfl (Nat.le_of_ble_eq_true rfl) dX12_isHeard_43 ⟨Nat.le_of_ble_eq_true rfl, Nat.le_of_ble_eq_true rfl⟩) hS (fun r4 u H locs hp hM hS => ?_)
    obtain ⟨rfl, hw⟩ := hp
    refine lv_iload_n hx hb dX12_isHeard_46 rfl (lv_at hl 3 rfl) ?_
    refine lv_iadd hx hb dX12_isHeard_47 ?_
    refine lv_icmp_gt (tgt := 55) hx hb dX12_isHeard_48 (by decide) (fun cq => ?_) (fun cq => ?_)
    · have hw := hw.1 cq
      refine lv_iconst (v := 0) hx hb dX12_isHeard_55 (by decide) ?_
      exact m_retz hx hb hr hlk (Or.inl rfl) hM hS ⟨false, rfl, rfl, hw⟩ dX12_isHeard_56
    · have hw := hw.2 cq
      refine lv_iconst (v := 1) hx hb dX12_isHeard_51 (by decide) ?_
      refine lv_goto (tgt := 56) hx hb dX12_isHeard_52 (by decide) ?_
      exact m_retz hx hb hr hlk (Or.inr rfl) hM hS ⟨true, rfl, rfl, hw⟩ dX12_isHeard_56
def w_X12_isHeard (I : mI) (o : Nat) (a1 : Int32) (a2 : Int32) (a3 : Int32) (post : Bool → Prop) : Prop := w_X12_flatAt I o a1 (fun r1 => (a3 ≤ r1 → w_X12_flatAt I o a1 (fun r2 => (w_X12_isHeard_26 I o a1 a2 a3 post) (r2 - a3))) ∧ (¬ a3 ≤ r1 → w_X12_flatAt I o a1 (fun r3 => (w_X12_isHeard_26 I o a1 a2 a3 post) (a3 - r3))))
set_option maxRecDepth 100000 in
set_option maxHeartbeats 4000000 in
theorem c_X12_isHeard {l : Launch} {D : va_G} {cA : Nat → ClassId} {Z : mZ} {bs : Ad} {n : Nat} {K : mK} {R : mR} {I : mI} {L : mL} {o : Nat} {a1 : Int32} {a2 : Int32} {a3 : Int32} {post : Bool → Prop} (ho : isX12 K R o) (hw : w_X12_isHeard I o a1 a2 a3 post) : Met l yX12_isHeard (.code yX12_isHeard cX12_isHeard 5 (some .boolean) :: gw) ({ frames := 2, cells := 0, slots := 0, locals := 42 } : Room) (PreM D cA Z bs (n, K, R, I, L) [.ref (ad bs o), .int a1, .int a2, .int a3]) (QI D cA bs (fun r u => ∃ b, r = bI b ∧ u = (n, K, R, I, L) ∧ post b)) 0 0 (Ab bs) := by
  refine m_met (by decide) (Nat.le_of_ble_eq_true rfl) (fun p e s m below meth c ls E hr hlk hM hS hl => ?_)
  have E : Ev p s m _ c cX12_isHeard 5 RX12 D cA Z bs := E
  have hl : lv_has ls 5 [(0, .ref (ad bs o)), (1, .int a1), (2, .int a2), (3, .int a3)] := hl
  have hx := E.1.1
  have hb := E.1.2.1
  generalize hHe : s.heap = H at hM ⊢
  have hS : va_S (Ab bs) s.heap H [] := by rw [← hHe]; exact va_S.rf
  clear hHe
  refine lv_iload_n hx hb dX12_isHeard_0 rfl (lv_at hl 3 rfl) ?_
  refine lv_aload_n hx hb dX12_isHeard_1 rfl (lv_at hl 0 rfl) ?_
  refine lv_iload_n hx hb dX12_isHeard_2 rfl (lv_at hl 1 rfl) ?_
  refine m_ci (m_runV E hM hS cs_X12_253 ho.1 (by decide) rfl rfl (c_X12_flatAt ho hw) rfl rfl ⟨Nat.le_of_ble_eq_true rfl, Nat.le_of_ble_eq_true rfl⟩ rfl hl.1 rfl (Nat.le_of_ble_eq_true rfl) dX12_isHeard_3 ⟨Nat.le_of_ble_eq_true rfl, Nat.le_of_ble_eq_true rfl⟩) hS (fun r1 u H locs hp hM hS => ?_)
  obtain ⟨rfl, hw⟩ := hp
  refine lv_icmp_le (tgt := 19) hx hb dX12_isHeard_6 (by decide) (fun cq => ?_) (fun cq => ?_)
  · have hw := hw.1 cq
    refine lv_aload_n hx hb dX12_isHeard_19 rfl (lv_at hl 0 rfl) ?_
    refine lv_iload_n hx hb dX12_isHeard_20 rfl (lv_at hl 1 rfl) ?_
    refine m_ci (m_runV E hM hS cs_X12_253 ho.1 (by decide) rfl rfl (c_X12_flatAt ho hw) rfl rfl ⟨Nat.le_of_ble_eq_true rfl, Nat.le_of_ble_eq_true rfl⟩ rfl hl.1 rfl (Nat.le_of_ble_eq_true rfl) dX12_isHeard_21 ⟨Nat.le_of_ble_eq_true rfl, Nat.le_of_ble_eq_true rfl⟩) hS (fun r2 u H locs hp hM hS => ?_)
    obtain ⟨rfl, hw⟩ := hp
    refine lv_iload_n hx hb dX12_isHeard_24 rfl (lv_at hl 3 rfl) ?_
    refine lv_isub hx hb dX12_isHeard_25 ?_
    exact s_X12_isHeard_26 E hr hlk ho  hw hM hS (lv_sub hl [0, 1, 2] rfl)
  · have hw := hw.2 cq
    refine lv_iload_n hx hb dX12_isHeard_9 rfl (lv_at hl 3 rfl) ?_
    refine lv_aload_n hx hb dX12_isHeard_10 rfl (lv_at hl 0 rfl) ?_
    refine lv_iload_n hx hb dX12_isHeard_11 rfl (lv_at hl 1 rfl) ?_
    refine m_ci (m_runV E hM hS cs_X12_253 ho.1 (by decide) rfl rfl (c_X12_flatAt ho hw) rfl rfl ⟨Nat.le_of_ble_eq_true rfl, Nat.le_of_ble_eq_true rfl⟩ rfl hl.1 rfl (Nat.le_of_ble_eq_true rfl) dX12_isHeard_12 ⟨Nat.le_of_ble_eq_true rfl, Nat.le_of_ble_eq_true rfl⟩) hS (fun r3 u H locs hp hM hS => ?_)
    obtain ⟨rfl, hw⟩ := hp
    refine lv_isub hx hb dX12_isHeard_15 ?_
    refine lv_goto (tgt := 26) hx hb dX12_isHeard_16 (by decide) ?_
    exact s_X12_isHeard_26 E hr hlk ho  hw hM hS (lv_sub hl [0, 1, 2] rfl)
theorem dX12_ears_0 : decode cX12_ears 0 = .ok (.iconst 0, 1) := by decide +kernel
theorem dX12_ears_1 : decode cX12_ears 1 = .ok (.istore_n 3, 1) := by decide +kernel
theorem dX12_ears_2 : decode cX12_ears 2 = .ok (.iconst 0, 1) := by decide +kernel
theorem dX12_ears_3 : decode cX12_ears 3 = .ok (.istore 4, 2) := by decide +kernel
theorem dX12_ears_5 : decode cX12_ears 5 = .ok (.iload 4, 2) := by decide +kernel
theorem dX12_ears_7 : decode cX12_ears 7 = .ok (.aload_n 0, 1) := by decide +kernel
theorem dX12_ears_8 : decode cX12_ears 8 = .ok (.invokevirtual 211, 3) := by decide +kernel
theorem dX12_ears_11 : decode cX12_ears 11 = .ok (.if_icmp .ge 31, 3) := by decide +kernel
theorem dX12_ears_14 : decode cX12_ears 14 = .ok (.iload_n 3, 1) := by decide +kernel
theorem dX12_ears_15 : decode cX12_ears 15 = .ok (.aload_n 0, 1) := by decide +kernel
theorem dX12_ears_16 : decode cX12_ears 16 = .ok (.iload 4, 2) := by decide +kernel
theorem dX12_ears_18 : decode cX12_ears 18 = .ok (.iload_n 1, 1) := by decide +kernel
theorem dX12_ears_19 : decode cX12_ears 19 = .ok (.iload_n 2, 1) := by decide +kernel
theorem dX12_ears_20 : decode cX12_ears 20 = .ok (.invokevirtual 256, 3) := by decide +kernel
theorem dX12_ears_23 : decode cX12_ears 23 = .ok (.ifCond .eq 10, 3) := by decide +kernel
theorem dX12_ears_26 : decode cX12_ears 26 = .ok (.iconst 1, 1) := by decide +kernel
theorem dX12_ears_27 : decode cX12_ears 27 = .ok (.iload 4, 2) := by decide +kernel
theorem dX12_ears_29 : decode cX12_ears 29 = .ok (.ishl, 1) := by decide +kernel
theorem dX12_ears_30 : decode cX12_ears 30 = .ok (.goto 4, 3) := by decide +kernel
theorem dX12_ears_33 : decode cX12_ears 33 = .ok (.iconst 0, 1) := by decide +kernel
theorem dX12_ears_34 : decode cX12_ears 34 = .ok (.ior, 1) := by decide +kernel
theorem dX12_ears_35 : decode cX12_ears 35 = .ok (.istore_n 3, 1) := by decide +kernel
theorem dX12_ears_36 : decode cX12_ears 36 = .ok (.iinc 4 1, 3) := by decide +kernel
theorem dX12_ears_39 : decode cX12_ears 39 = .ok (.goto (-34), 3) := by decide +kernel
theorem dX12_ears_42 : decode cX12_ears 42 = .ok (.iload_n 3, 1) := by decide +kernel
theorem dX12_ears_43 : decode cX12_ears 43 = .ok (.ireturn, 1) := by decide +kernel
def w_X12_ears_5 (I : mI) (o : Nat) (a1 : Int32) (a2 : Int32) (post : Int32 → Prop) (v3 : Int32) (v4 : Int32) : Prop := ∀ ZZ : (Int32 → Int32 → Prop), (∀ (v3 : Int32) (v4 : Int32), (w_X12_flats I o (fun r1 => (r1 ≤ v4 → post v3) ∧ (¬ r1 ≤ v4 → w_X12_isHeard I o v4 a1 a2 (fun b2 => (b2 = false → ∀ x3, x3 = (v3 ||| 0) → ∀ x4, x4 = v4 + 1 → ZZ x3 x4) ∧ (b2 = true → ∀ x5, x5 = (v3 ||| (1 <<< (v4 &&& 31))) → ∀ x6, x6 = v4 + 1 → ZZ x5 x6))))) → ZZ v3 v4) → ZZ v3 v4
set_option maxRecDepth 100000 in
set_option maxHeartbeats 4000000 in
theorem s_X12_ears_5 {p : Program} {l : Launch} {e : Env} {s : State} {m : MethodId} {args : Array Value} {below : List Frame} {meth : Method} {c : Code} {D : va_G} {cA : Nat → ClassId} {Z : mZ} {bs : Ad} {n : Nat} {K : mK} {R : mR} {I : mI} {L : mL} (E : Ev p s m args c cX12_ears 5 RX12 D cA Z bs) (hr : meth.sig.returnType = (some .int)) (hlk : meth.locks = false) {o : Nat} {a1 : Int32} {a2 : Int32} (ho : isX12 K R o) {post : Int32 → Prop} {v3 : Int32} {v4 : Int32} {H : Heap} {locs : List Loc} {ls : Array Slot} (hw : w_X12_ears_5 I o a1 a2 post v3 v4) (hM : mm D cA bs (n, K, R, I, L) H) (hS : va_S (Ab bs) s.heap H locs) (hl : lv_has ls 5 [(0, .ref (ad bs o)), (1, .int a1), (2, .int a2), (3, .int v3), (4, .int v4)]) : W p l e ({ frames := 3, cells := 0, slots := 0, locals := 66 } : Room) s m args below meth c H locs 0 0 (MQ below (QI D cA bs (fun r u => u = (n, K, R, I, L) ∧ post r)) args s 0 0 (Ab bs)) (F0 m 5 ls []) := by
  have hx := E.1.1
  have hb := E.1.2.1
  refine hw (fun v3 v4 => ∀ (H : Heap) (locs : List Loc) (ls : Array Slot), mm D cA bs (n, K, R, I, L) H → va_S (Ab bs) s.heap H locs → lv_has ls 5 [(0, .ref (ad bs o)), (1, .int a1), (2, .int a2), (3, .int v3), (4, .int v4)] → W p l e ({ frames := 3, cells := 0, slots := 0, locals := 66 } : Room) s m args below meth c H locs 0 0 (MQ below (QI D cA bs (fun r u => u = (n, K, R, I, L) ∧ post r)) args s 0 0 (Ab bs)) (F0 m 5 ls [])) ?_ H locs ls hM hS hl
  clear hw hM hS hl
  intro v3 v4 hw H locs ls hM hS hl
  refine lv_iload hx hb dX12_ears_5 (lv_at hl 4 rfl) ?_
  refine lv_aload_n hx hb dX12_ears_7 rfl (lv_at hl 0 rfl) ?_
  refine m_ci (m_runV E hM hS cs_X12_211 ho.1 (by decide) rfl rfl (c_X12_flats ho hw) rfl rfl ⟨Nat.le_of_ble_eq_true rfl, Nat.le_of_ble_eq_true rfl⟩ rfl hl.1 rfl (Nat.le_of_ble_eq_true rfl) dX12_ears_8 ⟨Nat.le_of_ble_eq_true rfl, Nat.le_of_ble_eq_true rfl⟩) hS (fun r1 u H locs hp hM hS => ?_)
  obtain ⟨rfl, hw⟩ := hp
  refine lv_icmp_ge (tgt := 42) hx hb dX12_ears_11 (by decide) (fun cq => ?_) (fun cq => ?_)
  · have hw := hw.1 cq
    refine lv_iload_n hx hb dX12_ears_42 rfl (lv_at hl 3 rfl) ?_
    exact m_reti hx hb hr hlk hM hS ⟨rfl, hw⟩ dX12_ears_43
  · have hw := hw.2 cq
    refine lv_iload_n hx hb dX12_ears_14 rfl (lv_at hl 3 rfl) ?_
    refine lv_aload_n hx hb dX12_ears_15 rfl (lv_at hl 0 rfl) ?_
    refine lv_iload hx hb dX12_ears_16 (lv_at hl 4 rfl) ?_
    refine lv_iload_n hx hb dX12_ears_18 rfl (lv_at hl 1 rfl) ?_
    refine lv_iload_n hx hb dX12_ears_19 rfl (lv_at hl 2 rfl) ?_
    refine m_ci (m_runV E hM hS cs_X12_256 ho.1 (by decide) rfl rfl (c_X12_isHeard ho hw) rfl rfl ⟨Nat.le_of_ble_eq_true rfl, Nat.le_of_ble_eq_true rfl⟩ rfl hl.1 rfl (Nat.le_of_ble_eq_true rfl) dX12_ears_20 ⟨Nat.le_of_ble_eq_true rfl, Nat.le_of_ble_eq_true rfl⟩) hS (fun r9 u H locs hp hM hS => ?_)
    obtain ⟨b2, rfl, rfl, hw⟩ := hp
    refine lv_if_eq (tgt := 33) hx hb dX12_ears_23 (by decide) (fun cq => ?_) (fun cq => ?_)
    · have hw := hw.1 (bI_f cq)
      refine lv_iconst (v := 0) hx hb dX12_ears_33 (by decide) ?_
      refine lv_ior hx hb dX12_ears_34 ?_
      refine lv_topi (fun x3 ex3 => ?_)
      have hw := hw x3 ex3
      refine lv_istore_n (lv' := [(3, .int x3), (0, .ref (ad bs o)), (1, .int a1), (2, .int a2), (4, .int v4)]) hx hb dX12_ears_35 rfl hl (by decide) rfl (fun ls hl => ?_)
      obtain ⟨x4, ex4⟩ : ∃ y : Int32, y = v4 + 1 := ⟨_, rfl⟩
      have hw := hw x4 ex4
      refine lv_iinc (v := x4) (lv' := [(4, .int x4), (3, .int x3), (0, .ref (ad bs o)), (1, .int a1), (2, .int a2)]) hx hb dX12_ears_36 hl (k := 4) rfl (by rw [ex4]; rfl) (by decide) rfl (fun ls hl => ?_)
      refine lv_goto (tgt := 5) hx hb dX12_ears_39 (by decide) ?_
      exact hw H locs ls  hM hS (lv_sub hl [2, 3, 4, 1, 0] rfl)
    · have hw := hw.2 (bI_t cq)
      refine lv_iconst (v := 1) hx hb dX12_ears_26 (by decide) ?_
      refine lv_iload hx hb dX12_ears_27 (lv_at hl 4 rfl) ?_
      refine lv_ishl hx hb dX12_ears_29 ?_
      refine lv_goto (tgt := 34) hx hb dX12_ears_30 (by decide) ?_
      refine lv_ior hx hb dX12_ears_34 ?_
      refine lv_topi (fun x5 ex5 => ?_)
      have hw := hw x5 ex5
      refine lv_istore_n (lv' := [(3, .int x5), (0, .ref (ad bs o)), (1, .int a1), (2, .int a2), (4, .int v4)]) hx hb dX12_ears_35 rfl hl (by decide) rfl (fun ls hl => ?_)
      obtain ⟨x6, ex6⟩ : ∃ y : Int32, y = v4 + 1 := ⟨_, rfl⟩
      have hw := hw x6 ex6
      refine lv_iinc (v := x6) (lv' := [(4, .int x6), (3, .int x5), (0, .ref (ad bs o)), (1, .int a1), (2, .int a2)]) hx hb dX12_ears_36 hl (k := 4) rfl (by rw [ex6]; rfl) (by decide) rfl (fun ls hl => ?_)
      refine lv_goto (tgt := 5) hx hb dX12_ears_39 (by decide) ?_
      exact hw H locs ls  hM hS (lv_sub hl [2, 3, 4, 1, 0] rfl)
def w_X12_ears (I : mI) (o : Nat) (a1 : Int32) (a2 : Int32) (post : Int32 → Prop) : Prop := (w_X12_ears_5 I o a1 a2 post) 0 0
set_option maxRecDepth 100000 in
set_option maxHeartbeats 4000000 in
theorem c_X12_ears {l : Launch} {D : va_G} {cA : Nat → ClassId} {Z : mZ} {bs : Ad} {n : Nat} {K : mK} {R : mR} {I : mI} {L : mL} {o : Nat} {a1 : Int32} {a2 : Int32} {post : Int32 → Prop} (ho : isX12 K R o) (hw : w_X12_ears I o a1 a2 post) : Met l yX12_ears (.code yX12_ears cX12_ears 5 (some .int) :: gw) ({ frames := 3, cells := 0, slots := 0, locals := 66 } : Room) (PreM D cA Z bs (n, K, R, I, L) [.ref (ad bs o), .int a1, .int a2]) (QI D cA bs (fun r u => u = (n, K, R, I, L) ∧ post r)) 0 0 (Ab bs) := by
  refine m_met (by decide) (Nat.le_of_ble_eq_true rfl) (fun p e s m below meth c ls E hr hlk hM hS hl => ?_)
  have E : Ev p s m _ c cX12_ears 5 RX12 D cA Z bs := E
  have hl : lv_has ls 5 [(0, .ref (ad bs o)), (1, .int a1), (2, .int a2)] := hl
  have hx := E.1.1
  have hb := E.1.2.1
  generalize hHe : s.heap = H at hM ⊢
  have hS : va_S (Ab bs) s.heap H [] := by rw [← hHe]; exact va_S.rf
  clear hHe
  refine lv_iconst (v := 0) hx hb dX12_ears_0 (by decide) ?_
  refine lv_istore_n (lv' := [(3, .int 0), (0, .ref (ad bs o)), (1, .int a1), (2, .int a2)]) hx hb dX12_ears_1 rfl hl (by decide) rfl (fun ls hl => ?_)
  refine lv_iconst (v := 0) hx hb dX12_ears_2 (by decide) ?_
  refine lv_istore (lv' := [(4, .int 0), (3, .int 0), (0, .ref (ad bs o)), (1, .int a1), (2, .int a2)]) hx hb dX12_ears_3 hl (by decide) rfl (fun ls hl => ?_)
  exact s_X12_ears_5 E hr hlk ho  hw hM hS (lv_sub hl [2, 3, 4, 1, 0] rfl)
theorem dX12_minuteOf_0 : decode cX12_minuteOf 0 = .ok (.iload_n 1, 1) := by decide +kernel
theorem dX12_minuteOf_1 : decode cX12_minuteOf 1 = .ok (.aload_n 0, 1) := by decide +kernel
theorem dX12_minuteOf_2 : decode cX12_minuteOf 2 = .ok (.getfield 223, 3) := by decide +kernel
theorem dX12_minuteOf_5 : decode cX12_minuteOf 5 = .ok (.if_icmp .ne 10, 3) := by decide +kernel
theorem dX12_minuteOf_8 : decode cX12_minuteOf 8 = .ok (.aload_n 0, 1) := by decide +kernel
theorem dX12_minuteOf_9 : decode cX12_minuteOf 9 = .ok (.getfield 259, 3) := by decide +kernel
theorem dX12_minuteOf_12 : decode cX12_minuteOf 12 = .ok (.goto 9, 3) := by decide +kernel
theorem dX12_minuteOf_15 : decode cX12_minuteOf 15 = .ok (.aload_n 0, 1) := by decide +kernel
theorem dX12_minuteOf_16 : decode cX12_minuteOf 16 = .ok (.iload_n 1, 1) := by decide +kernel
theorem dX12_minuteOf_17 : decode cX12_minuteOf 17 = .ok (.iconst 3, 1) := by decide +kernel
theorem dX12_minuteOf_18 : decode cX12_minuteOf 18 = .ok (.invokevirtual 241, 3) := by decide +kernel
theorem dX12_minuteOf_21 : decode cX12_minuteOf 21 = .ok (.ireturn, 1) := by decide +kernel
def w_X12_minuteOf (I : mI) (o : Nat) (a1 : Int32) (post : Int32 → Prop) : Prop := (¬ a1 = (I o 15) → w_X12_told I o a1 3 (fun r1 => post r1)) ∧ (a1 = (I o 15) → post (I o 16))
set_option maxRecDepth 100000 in
set_option maxHeartbeats 4000000 in
theorem c_X12_minuteOf {l : Launch} {D : va_G} {cA : Nat → ClassId} {Z : mZ} {bs : Ad} {n : Nat} {K : mK} {R : mR} {I : mI} {L : mL} {o : Nat} {a1 : Int32} {post : Int32 → Prop} (ho : isX12 K R o) (hw : w_X12_minuteOf I o a1 post) : Met l yX12_minuteOf (.code yX12_minuteOf cX12_minuteOf 2 (some .int) :: gw) ({ frames := 1, cells := 0, slots := 0, locals := 22 } : Room) (PreM D cA Z bs (n, K, R, I, L) [.ref (ad bs o), .int a1]) (QI D cA bs (fun r u => u = (n, K, R, I, L) ∧ post r)) 0 0 (Ab bs) := by
  refine m_met (by decide) (Nat.le_of_ble_eq_true rfl) (fun p e s m below meth c ls E hr hlk hM hS hl => ?_)
  have E : Ev p s m _ c cX12_minuteOf 2 RX12 D cA Z bs := E
  have hl : lv_has ls 2 [(0, .ref (ad bs o)), (1, .int a1)] := hl
  have hx := E.1.1
  have hb := E.1.2.1
  generalize hHe : s.heap = H at hM ⊢
  have hS : va_S (Ab bs) s.heap H [] := by rw [← hHe]; exact va_S.rf
  clear hHe
  refine lv_iload_n hx hb dX12_minuteOf_0 rfl (lv_at hl 1 rfl) ?_
  refine lv_aload_n hx hb dX12_minuteOf_1 rfl (lv_at hl 0 rfl) ?_
  refine m_geti E hM fs_X12_223 ho.1 dX12_minuteOf_2 ?_
  refine lv_icmp_ne (tgt := 15) hx hb dX12_minuteOf_5 (by decide) (fun cq => ?_) (fun cq => ?_)
  · have hw := hw.1 cq
    refine lv_aload_n hx hb dX12_minuteOf_15 rfl (lv_at hl 0 rfl) ?_
    refine lv_iload_n hx hb dX12_minuteOf_16 rfl (lv_at hl 1 rfl) ?_
    refine lv_iconst (v := 3) hx hb dX12_minuteOf_17 (by decide) ?_
    refine m_ci (m_runV E hM hS cs_X12_241 ho.1 (by decide) rfl rfl (c_X12_told ho hw) rfl rfl ⟨Nat.le_of_ble_eq_true rfl, Nat.le_of_ble_eq_true rfl⟩ rfl hl.1 rfl (Nat.le_of_ble_eq_true rfl) dX12_minuteOf_18 ⟨Nat.le_of_ble_eq_true rfl, Nat.le_of_ble_eq_true rfl⟩) hS (fun r1 u H locs hp hM hS => ?_)
    obtain ⟨rfl, hw⟩ := hp
    exact m_reti hx hb hr hlk hM hS ⟨rfl, hw⟩ dX12_minuteOf_21
  · have hw := hw.2 cq
    refine lv_aload_n hx hb dX12_minuteOf_8 rfl (lv_at hl 0 rfl) ?_
    refine m_geti E hM fs_X12_259 ho.1 dX12_minuteOf_9 ?_
    refine lv_goto (tgt := 21) hx hb dX12_minuteOf_12 (by decide) ?_
    exact m_reti hx hb hr hlk hM hS ⟨rfl, hw⟩ dX12_minuteOf_21
theorem dX12_latest_0 : decode cX12_latest 0 = .ok (.aload_n 0, 1) := by decide +kernel
theorem dX12_latest_1 : decode cX12_latest 1 = .ok (.getfield 262, 3) := by decide +kernel
theorem dX12_latest_4 : decode cX12_latest 4 = .ok (.iconst 1, 1) := by decide +kernel
theorem dX12_latest_5 : decode cX12_latest 5 = .ok (.isub, 1) := by decide +kernel
theorem dX12_latest_6 : decode cX12_latest 6 = .ok (.istore_n 3, 1) := by decide +kernel
theorem dX12_latest_7 : decode cX12_latest 7 = .ok (.iload_n 3, 1) := by decide +kernel
theorem dX12_latest_8 : decode cX12_latest 8 = .ok (.ifCond .lt 31, 3) := by decide +kernel
theorem dX12_latest_11 : decode cX12_latest 11 = .ok (.aload_n 0, 1) := by decide +kernel
theorem dX12_latest_12 : decode cX12_latest 12 = .ok (.getfield 23, 3) := by decide +kernel
theorem dX12_latest_15 : decode cX12_latest 15 = .ok (.iload_n 3, 1) := by decide +kernel
theorem dX12_latest_16 : decode cX12_latest 16 = .ok (.iaload, 1) := by decide +kernel
theorem dX12_latest_17 : decode cX12_latest 17 = .ok (.iload_n 1, 1) := by decide +kernel
theorem dX12_latest_18 : decode cX12_latest 18 = .ok (.if_icmp .ne 15, 3) := by decide +kernel
theorem dX12_latest_21 : decode cX12_latest 21 = .ok (.aload_n 0, 1) := by decide +kernel
theorem dX12_latest_22 : decode cX12_latest 22 = .ok (.getfield 20, 3) := by decide +kernel
theorem dX12_latest_25 : decode cX12_latest 25 = .ok (.iload_n 3, 1) := by decide +kernel
theorem dX12_latest_26 : decode cX12_latest 26 = .ok (.iaload, 1) := by decide +kernel
theorem dX12_latest_27 : decode cX12_latest 27 = .ok (.iload_n 2, 1) := by decide +kernel
theorem dX12_latest_28 : decode cX12_latest 28 = .ok (.if_icmp .eq 5, 3) := by decide +kernel
theorem dX12_latest_31 : decode cX12_latest 31 = .ok (.iload_n 3, 1) := by decide +kernel
theorem dX12_latest_32 : decode cX12_latest 32 = .ok (.ireturn, 1) := by decide +kernel
theorem dX12_latest_33 : decode cX12_latest 33 = .ok (.iinc 3 (-1), 3) := by decide +kernel
theorem dX12_latest_36 : decode cX12_latest 36 = .ok (.goto (-29), 3) := by decide +kernel
theorem dX12_latest_39 : decode cX12_latest 39 = .ok (.iconst (-1), 1) := by decide +kernel
theorem dX12_latest_40 : decode cX12_latest 40 = .ok (.ireturn, 1) := by decide +kernel
def w_X12_latest_7 (I : mI) (o : Nat) (a1 : Int32) (a2 : Int32) (post : Int32 → Prop) (v3 : Int32) : Prop := ∀ ZZ : (Int32 → Prop), (∀ (v3 : Int32), ((v3 < 0 → post (-1)) ∧ (¬ v3 < 0 → vp_in v3 640 ∧ (¬ (I (o + 5) v3.toNatClampNeg) = a1 → ∀ x2, x2 = v3 + (-1) → ZZ x2) ∧ ((I (o + 5) v3.toNatClampNeg) = a1 → vp_in v3 640 ∧ ((I (o + 4) v3.toNatClampNeg) = a2 → ∀ x3, x3 = v3 + (-1) → ZZ x3) ∧ (¬ (I (o + 4) v3.toNatClampNeg) = a2 → post v3)))) → ZZ v3) → ZZ v3
set_option maxRecDepth 100000 in
set_option maxHeartbeats 4000000 in
theorem s_X12_latest_7 {p : Program} {l : Launch} {e : Env} {s : State} {m : MethodId} {args : Array Value} {below : List Frame} {meth : Method} {c : Code} {D : va_G} {cA : Nat → ClassId} {Z : mZ} {bs : Ad} {n : Nat} {K : mK} {R : mR} {I : mI} {L : mL} (E : Ev p s m args c cX12_latest 4 RX12 D cA Z bs) (hr : meth.sig.returnType = (some .int)) (hlk : meth.locks = false) {o : Nat} {a1 : Int32} {a2 : Int32} (ho : isX12 K R o) {post : Int32 → Prop} {v3 : Int32} {H : Heap} {locs : List Loc} {ls : Array Slot} (hw : w_X12_latest_7 I o a1 a2 post v3) (hM : mm D cA bs (n, K, R, I, L) H) (hS : va_S (Ab bs) s.heap H locs) (hl : lv_has ls 4 [(0, .ref (ad bs o)), (1, .int a1), (2, .int a2), (3, .int v3)]) : W p l e ({ frames := 0, cells := 0, slots := 0, locals := 0 } : Room) s m args below meth c H locs 0 0 (MQ below (QI D cA bs (fun r u => u = (n, K, R, I, L) ∧ post r)) args s 0 0 (Ab bs)) (F0 m 7 ls []) := by
  have hx := E.1.1
  have hb := E.1.2.1
  refine hw (fun v3 => ∀ (H : Heap) (locs : List Loc) (ls : Array Slot), mm D cA bs (n, K, R, I, L) H → va_S (Ab bs) s.heap H locs → lv_has ls 4 [(0, .ref (ad bs o)), (1, .int a1), (2, .int a2), (3, .int v3)] → W p l e ({ frames := 0, cells := 0, slots := 0, locals := 0 } : Room) s m args below meth c H locs 0 0 (MQ below (QI D cA bs (fun r u => u = (n, K, R, I, L) ∧ post r)) args s 0 0 (Ab bs)) (F0 m 7 ls [])) ?_ H locs ls hM hS hl
  clear hw hM hS hl
  intro v3 hw H locs ls hM hS hl
  refine lv_iload_n hx hb dX12_latest_7 rfl (lv_at hl 3 rfl) ?_
  refine lv_if_lt (tgt := 39) hx hb dX12_latest_8 (by decide) (fun cq => ?_) (fun cq => ?_)
  · have hw := hw.1 cq
    refine lv_iconst (v := (-1)) hx hb dX12_latest_39 (by decide) ?_
    exact m_reti hx hb hr hlk hM hS ⟨rfl, hw⟩ dX12_latest_40
  · have hw := hw.2 cq
    refine lv_aload_n hx hb dX12_latest_11 rfl (lv_at hl 0 rfl) ?_
    refine m_getr E hM fs_X12_23 ho.1 (isO_at ho 4 rfl).1 dX12_latest_12 ?_
    refine lv_iload_n hx hb dX12_latest_15 rfl (lv_at hl 3 rfl) ?_
    obtain ⟨hv, hw⟩ := hw
    refine m_iald E hM (isO_at ho 4 rfl).2 hv dX12_latest_16 ?_
    refine lv_iload_n hx hb dX12_latest_17 rfl (lv_at hl 1 rfl) ?_
    refine lv_icmp_ne (tgt := 33) hx hb dX12_latest_18 (by decide) (fun cq => ?_) (fun cq => ?_)
    · have hw := hw.1 cq
      obtain ⟨x2, ex2⟩ : ∃ y : Int32, y = v3 + (-1) := ⟨_, rfl⟩
      have hw := hw x2 ex2
      refine lv_iinc (v := x2) (lv' := [(3, .int x2), (0, .ref (ad bs o)), (1, .int a1), (2, .int a2)]) hx hb dX12_latest_33 hl (k := 3) rfl (by rw [ex2]; rfl) (by decide) rfl (fun ls hl => ?_)
      refine lv_goto (tgt := 7) hx hb dX12_latest_36 (by decide) ?_
      exact hw H locs ls  hM hS (lv_sub hl [1, 2, 3, 0] rfl)
    · have hw := hw.2 cq
      refine lv_aload_n hx hb dX12_latest_21 rfl (lv_at hl 0 rfl) ?_
      refine m_getr E hM fs_X12_20 ho.1 (isO_at ho 3 rfl).1 dX12_latest_22 ?_
      refine lv_iload_n hx hb dX12_latest_25 rfl (lv_at hl 3 rfl) ?_
      obtain ⟨hv, hw⟩ := hw
      refine m_iald E hM (isO_at ho 3 rfl).2 hv dX12_latest_26 ?_
      refine lv_iload_n hx hb dX12_latest_27 rfl (lv_at hl 2 rfl) ?_
      refine lv_icmp_eq (tgt := 33) hx hb dX12_latest_28 (by decide) (fun cq => ?_) (fun cq => ?_)
      · have hw := hw.1 cq
        obtain ⟨x3, ex3⟩ : ∃ y : Int32, y = v3 + (-1) := ⟨_, rfl⟩
        have hw := hw x3 ex3
        refine lv_iinc (v := x3) (lv' := [(3, .int x3), (0, .ref (ad bs o)), (1, .int a1), (2, .int a2)]) hx hb dX12_latest_33 hl (k := 3) rfl (by rw [ex3]; rfl) (by decide) rfl (fun ls hl => ?_)
        refine lv_goto (tgt := 7) hx hb dX12_latest_36 (by decide) ?_
        exact hw H locs ls  hM hS (lv_sub hl [1, 2, 3, 0] rfl)
      · have hw := hw.2 cq
        refine lv_iload_n hx hb dX12_latest_31 rfl (lv_at hl 3 rfl) ?_
        exact m_reti hx hb hr hlk hM hS ⟨rfl, hw⟩ dX12_latest_32
def w_X12_latest (I : mI) (o : Nat) (a1 : Int32) (a2 : Int32) (post : Int32 → Prop) : Prop := ∀ x1, x1 = ((I o 25) - 1) → (w_X12_latest_7 I o a1 a2 post) x1
set_option maxRecDepth 100000 in
set_option maxHeartbeats 4000000 in
theorem c_X12_latest {l : Launch} {D : va_G} {cA : Nat → ClassId} {Z : mZ} {bs : Ad} {n : Nat} {K : mK} {R : mR} {I : mI} {L : mL} {o : Nat} {a1 : Int32} {a2 : Int32} {post : Int32 → Prop} (ho : isX12 K R o) (hw : w_X12_latest I o a1 a2 post) : Met l yX12_latest (.code yX12_latest cX12_latest 4 (some .int) :: gw) ({ frames := 0, cells := 0, slots := 0, locals := 0 } : Room) (PreM D cA Z bs (n, K, R, I, L) [.ref (ad bs o), .int a1, .int a2]) (QI D cA bs (fun r u => u = (n, K, R, I, L) ∧ post r)) 0 0 (Ab bs) := by
  refine m_met (by decide) (Nat.le_of_ble_eq_true rfl) (fun p e s m below meth c ls E hr hlk hM hS hl => ?_)
  have E : Ev p s m _ c cX12_latest 4 RX12 D cA Z bs := E
  have hl : lv_has ls 4 [(0, .ref (ad bs o)), (1, .int a1), (2, .int a2)] := hl
  have hx := E.1.1
  have hb := E.1.2.1
  generalize hHe : s.heap = H at hM ⊢
  have hS : va_S (Ab bs) s.heap H [] := by rw [← hHe]; exact va_S.rf
  clear hHe
  refine lv_aload_n hx hb dX12_latest_0 rfl (lv_at hl 0 rfl) ?_
  refine m_geti E hM fs_X12_262 ho.1 dX12_latest_1 ?_
  refine lv_iconst (v := 1) hx hb dX12_latest_4 (by decide) ?_
  refine lv_isub hx hb dX12_latest_5 ?_
  refine lv_topi (fun x1 ex1 => ?_)
  have hw := hw x1 ex1
  refine lv_istore_n (lv' := [(3, .int x1), (0, .ref (ad bs o)), (1, .int a1), (2, .int a2)]) hx hb dX12_latest_6 rfl hl (by decide) rfl (fun ls hl => ?_)
  exact s_X12_latest_7 E hr hlk ho  hw hM hS (lv_sub hl [1, 2, 3, 0] rfl)
