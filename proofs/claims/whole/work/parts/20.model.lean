theorem dX12_ends__0 : decode cX12_ends_ 0 = .ok (.aload_n 0, 1) := by decide +kernel
theorem dX12_ends__1 : decode cX12_ends_ 1 = .ok (.iload_n 1, 1) := by decide +kernel
theorem dX12_ends__2 : decode cX12_ends_ 2 = .ok (.invokevirtual 214, 3) := by decide +kernel
theorem dX12_ends__5 : decode cX12_ends_ 5 = .ok (.ifCond .eq 12, 3) := by decide +kernel
theorem dX12_ends__8 : decode cX12_ends_ 8 = .ok (.iload_n 2, 1) := by decide +kernel
theorem dX12_ends__9 : decode cX12_ends_ 9 = .ok (.iconst 0, 1) := by decide +kernel
theorem dX12_ends__10 : decode cX12_ends_ 10 = .ok (.iconst 2, 1) := by decide +kernel
theorem dX12_ends__11 : decode cX12_ends_ 11 = .ok (.invokestatic 133, 3) := by decide +kernel
theorem dX12_ends__14 : decode cX12_ends_ 14 = .ok (.ifCond .ne 5, 3) := by decide +kernel
theorem dX12_ends__17 : decode cX12_ends_ 17 = .ok (.iconst (-1), 1) := by decide +kernel
theorem dX12_ends__18 : decode cX12_ends_ 18 = .ok (.ireturn, 1) := by decide +kernel
theorem dX12_ends__19 : decode cX12_ends_ 19 = .ok (.aload_n 0, 1) := by decide +kernel
theorem dX12_ends__20 : decode cX12_ends_ 20 = .ok (.invokevirtual 306, 3) := by decide +kernel
theorem dX12_ends__23 : decode cX12_ends_ 23 = .ok (.iconst 0, 1) := by decide +kernel
theorem dX12_ends__24 : decode cX12_ends_ 24 = .ok (.istore_n 3, 1) := by decide +kernel
theorem dX12_ends__25 : decode cX12_ends_ 25 = .ok (.iconst 0, 1) := by decide +kernel
theorem dX12_ends__26 : decode cX12_ends_ 26 = .ok (.istore 4, 2) := by decide +kernel
theorem dX12_ends__28 : decode cX12_ends_ 28 = .ok (.iload 4, 2) := by decide +kernel
theorem dX12_ends__30 : decode cX12_ends_ 30 = .ok (.aload_n 0, 1) := by decide +kernel
theorem dX12_ends__31 : decode cX12_ends_ 31 = .ok (.invokevirtual 208, 3) := by decide +kernel
theorem dX12_ends__34 : decode cX12_ends_ 34 = .ok (.if_icmp .ge 98, 3) := by decide +kernel
theorem dX12_ends__37 : decode cX12_ends_ 37 = .ok (.aload_n 0, 1) := by decide +kernel
theorem dX12_ends__38 : decode cX12_ends_ 38 = .ok (.iload 4, 2) := by decide +kernel
theorem dX12_ends__40 : decode cX12_ends_ 40 = .ok (.invokevirtual 309, 3) := by decide +kernel
theorem dX12_ends__43 : decode cX12_ends_ 43 = .ok (.istore 5, 2) := by decide +kernel
theorem dX12_ends__45 : decode cX12_ends_ 45 = .ok (.iload_n 2, 1) := by decide +kernel
theorem dX12_ends__46 : decode cX12_ends_ 46 = .ok (.ifCond .ne 23, 3) := by decide +kernel
theorem dX12_ends__49 : decode cX12_ends_ 49 = .ok (.iload 5, 2) := by decide +kernel
theorem dX12_ends__51 : decode cX12_ends_ 51 = .ok (.aload_n 0, 1) := by decide +kernel
theorem dX12_ends__52 : decode cX12_ends_ 52 = .ok (.iload 4, 2) := by decide +kernel
theorem dX12_ends__54 : decode cX12_ends_ 54 = .ok (.iconst 4, 1) := by decide +kernel
theorem dX12_ends__55 : decode cX12_ends_ 55 = .ok (.invokevirtual 241, 3) := by decide +kernel
theorem dX12_ends__58 : decode cX12_ends_ 58 = .ok (.if_icmp .le 7, 3) := by decide +kernel
theorem dX12_ends__61 : decode cX12_ends_ 61 = .ok (.iconst 1, 1) := by decide +kernel
theorem dX12_ends__62 : decode cX12_ends_ 62 = .ok (.goto 46, 3) := by decide +kernel
theorem dX12_ends__65 : decode cX12_ends_ 65 = .ok (.iconst 0, 1) := by decide +kernel
theorem dX12_ends__66 : decode cX12_ends_ 66 = .ok (.goto 42, 3) := by decide +kernel
theorem dX12_ends__69 : decode cX12_ends_ 69 = .ok (.iload_n 2, 1) := by decide +kernel
theorem dX12_ends__70 : decode cX12_ends_ 70 = .ok (.iconst 1, 1) := by decide +kernel
theorem dX12_ends__71 : decode cX12_ends_ 71 = .ok (.if_icmp .ne 23, 3) := by decide +kernel
theorem dX12_ends__74 : decode cX12_ends_ 74 = .ok (.iload 5, 2) := by decide +kernel
theorem dX12_ends__76 : decode cX12_ends_ 76 = .ok (.aload_n 0, 1) := by decide +kernel
theorem dX12_ends__77 : decode cX12_ends_ 77 = .ok (.iload 4, 2) := by decide +kernel
theorem dX12_ends__79 : decode cX12_ends_ 79 = .ok (.iconst 4, 1) := by decide +kernel
theorem dX12_ends__80 : decode cX12_ends_ 80 = .ok (.invokevirtual 241, 3) := by decide +kernel
theorem dX12_ends__83 : decode cX12_ends_ 83 = .ok (.if_icmp .ge 7, 3) := by decide +kernel
theorem dX12_ends__86 : decode cX12_ends_ 86 = .ok (.iconst 1, 1) := by decide +kernel
theorem dX12_ends__87 : decode cX12_ends_ 87 = .ok (.goto 21, 3) := by decide +kernel
theorem dX12_ends__90 : decode cX12_ends_ 90 = .ok (.iconst 0, 1) := by decide +kernel
theorem dX12_ends__91 : decode cX12_ends_ 91 = .ok (.goto 17, 3) := by decide +kernel
theorem dX12_ends__94 : decode cX12_ends_ 94 = .ok (.aload_n 0, 1) := by decide +kernel
theorem dX12_ends__95 : decode cX12_ends_ 95 = .ok (.iload 4, 2) := by decide +kernel
theorem dX12_ends__97 : decode cX12_ends_ 97 = .ok (.invokevirtual 327, 3) := by decide +kernel
theorem dX12_ends__100 : decode cX12_ends_ 100 = .ok (.ifCond .ne 7, 3) := by decide +kernel
theorem dX12_ends__103 : decode cX12_ends_ 103 = .ok (.iconst 1, 1) := by decide +kernel
theorem dX12_ends__104 : decode cX12_ends_ 104 = .ok (.goto 4, 3) := by decide +kernel
theorem dX12_ends__107 : decode cX12_ends_ 107 = .ok (.iconst 0, 1) := by decide +kernel
theorem dX12_ends__108 : decode cX12_ends_ 108 = .ok (.istore 6, 2) := by decide +kernel
theorem dX12_ends__110 : decode cX12_ends_ 110 = .ok (.iload_n 3, 1) := by decide +kernel
theorem dX12_ends__111 : decode cX12_ends_ 111 = .ok (.iload 6, 2) := by decide +kernel
theorem dX12_ends__113 : decode cX12_ends_ 113 = .ok (.ifCond .eq 10, 3) := by decide +kernel
theorem dX12_ends__116 : decode cX12_ends_ 116 = .ok (.iconst 1, 1) := by decide +kernel
theorem dX12_ends__117 : decode cX12_ends_ 117 = .ok (.iload 4, 2) := by decide +kernel
theorem dX12_ends__119 : decode cX12_ends_ 119 = .ok (.ishl, 1) := by decide +kernel
theorem dX12_ends__120 : decode cX12_ends_ 120 = .ok (.goto 4, 3) := by decide +kernel
theorem dX12_ends__123 : decode cX12_ends_ 123 = .ok (.iconst 0, 1) := by decide +kernel
theorem dX12_ends__124 : decode cX12_ends_ 124 = .ok (.ior, 1) := by decide +kernel
theorem dX12_ends__125 : decode cX12_ends_ 125 = .ok (.istore_n 3, 1) := by decide +kernel
theorem dX12_ends__126 : decode cX12_ends_ 126 = .ok (.iinc 4 1, 3) := by decide +kernel
theorem dX12_ends__129 : decode cX12_ends_ 129 = .ok (.goto (-101), 3) := by decide +kernel
theorem dX12_ends__132 : decode cX12_ends_ 132 = .ok (.iload_n 3, 1) := by decide +kernel
theorem dX12_ends__133 : decode cX12_ends_ 133 = .ok (.ireturn, 1) := by decide +kernel
def w_X12_ends__108 (o : Nat) (a1 : Int32) (a2 : Int32) (post : Int32 → mI → Prop) (k28 : mI → Int32 → Int32 → Prop) (I : mI) (v3 : Int32) (v4 : Int32) (s0 : Int32) : Prop := (s0 = 0 → ∀ x10, x10 = (v3 ||| 0) → ∀ x11, x11 = v4 + 1 → k28 I x10 x11) ∧ (¬ s0 = 0 → ∀ x12, x12 = (v3 ||| (1 <<< (v4 &&& 31))) → ∀ x13, x13 = v4 + 1 → k28 I x12 x13)
set_option maxRecDepth 100000 in
set_option maxHeartbeats 4000000 in
theorem s_X12_ends__108 {p : Program} {l : Launch} {e : Env} {s : State} {m : MethodId} {args : Array Value} {below : List Frame} {meth : Method} {c : Code} {D : va_G} {cA : Nat → ClassId} {Z : mZ} {bs : Ad} {n : Nat} {K : mK} {R : mR} {L : mL} (E : Ev p s m args c cX12_ends_ 7 RX12 D cA Z bs) (hr : meth.sig.returnType = (some .int)) (hlk : meth.locks = false) {o : Nat} {a1 : Int32} {a2 : Int32} (ho : isX12 K R o) {post : Int32 → mI → Prop} {k28 : mI → Int32 → Int32 → Prop} (hk28 : ∀ (I : mI) (v3 : Int32) (v4 : Int32) (H : Heap) (locs : List Loc) (ls : Array Slot), k28 I v3 v4 → mm D cA bs (n, K, R, I, L) H → va_S (Ab bs) s.heap H locs → lv_has ls 7 [(0, .ref (ad bs o)), (2, .int a2), (3, .int v3), (4, .int v4)] → W p l e ({ frames := 7, cells := 0, slots := 0, locals := 159 } : Room) s m args below meth c H locs 0 0 (MQ below (QI D cA bs (fun r u => ∃ I', u = (n, K, R, I', L) ∧ post r I')) args s 0 0 (Ab bs)) (F0 m 28 ls [])) {I : mI} {v3 : Int32} {v4 : Int32} {s0 : Int32} {H : Heap} {locs : List Loc} {ls : Array Slot} (hw : w_X12_ends__108 o a1 a2 post k28 I v3 v4 s0) (hM : mm D cA bs (n, K, R, I, L) H) (hS : va_S (Ab bs) s.heap H locs) (hl : lv_has ls 7 [(0, .ref (ad bs o)), (2, .int a2), (3, .int v3), (4, .int v4)]) : W p l e ({ frames := 7, cells := 0, slots := 0, locals := 159 } : Room) s m args below meth c H locs 0 0 (MQ below (QI D cA bs (fun r u => ∃ I', u = (n, K, R, I', L) ∧ post r I')) args s 0 0 (Ab bs)) (F0 m 108 ls [.int s0]) := by
  have hx := E.1.1
  have hb := E.1.2.1
  refine lv_istore (lv' := [(6, .int s0), (0, .ref (ad bs o)), (2, .int a2), (3, .int v3), (4, .int v4)]) hx hb dX12_ends__108 hl (by decide) rfl (fun ls hl => ?_)
  refine lv_iload_n hx hb dX12_ends__110 rfl (lv_at hl 3 rfl) ?_
  refine lv_iload hx hb dX12_ends__111 (lv_at hl 0 rfl) ?_
  refine lv_if_eq (tgt := 123) hx hb dX12_ends__113 (by decide) (fun cq => ?_) (fun cq => ?_)
  · have hw := hw.1 cq
    refine lv_iconst (v := 0) hx hb dX12_ends__123 (by decide) ?_
    refine lv_ior hx hb dX12_ends__124 ?_
    refine lv_topi (fun x10 ex10 => ?_)
    have hw := hw x10 ex10
    refine lv_istore_n (lv' := [(3, .int x10), (6, .int s0), (0, .ref (ad bs o)), (2, .int a2), (4, .int v4)]) hx hb dX12_ends__125 rfl hl (by decide) rfl (fun ls hl => ?_)
    obtain ⟨x11, ex11⟩ : ∃ y : Int32, y = v4 + 1 := ⟨_, rfl⟩
    have hw := hw x11 ex11
    refine lv_iinc (v := x11) (lv' := [(4, .int x11), (3, .int x10), (6, .int s0), (0, .ref (ad bs o)), (2, .int a2)]) hx hb dX12_ends__126 hl (k := 4) rfl (by rw [ex11]; rfl) (by decide) rfl (fun ls hl => ?_)
    refine lv_goto (tgt := 28) hx hb dX12_ends__129 (by decide) ?_
    exact hk28 _ _ _ H locs ls  hw hM hS (lv_sub hl [3, 4, 1, 0] rfl)
  · have hw := hw.2 cq
    refine lv_iconst (v := 1) hx hb dX12_ends__116 (by decide) ?_
    refine lv_iload hx hb dX12_ends__117 (lv_at hl 4 rfl) ?_
    refine lv_ishl hx hb dX12_ends__119 ?_
    refine lv_goto (tgt := 124) hx hb dX12_ends__120 (by decide) ?_
    refine lv_ior hx hb dX12_ends__124 ?_
    refine lv_topi (fun x12 ex12 => ?_)
    have hw := hw x12 ex12
    refine lv_istore_n (lv' := [(3, .int x12), (6, .int s0), (0, .ref (ad bs o)), (2, .int a2), (4, .int v4)]) hx hb dX12_ends__125 rfl hl (by decide) rfl (fun ls hl => ?_)
    obtain ⟨x13, ex13⟩ : ∃ y : Int32, y = v4 + 1 := ⟨_, rfl⟩
    have hw := hw x13 ex13
    refine lv_iinc (v := x13) (lv' := [(4, .int x13), (3, .int x12), (6, .int s0), (0, .ref (ad bs o)), (2, .int a2)]) hx hb dX12_ends__126 hl (k := 4) rfl (by rw [ex13]; rfl) (by decide) rfl (fun ls hl => ?_)
    refine lv_goto (tgt := 28) hx hb dX12_ends__129 (by decide) ?_
    exact hk28 _ _ _ H locs ls  hw hM hS (lv_sub hl [3, 4, 1, 0] rfl)
def w_X12_ends__28 (o : Nat) (a1 : Int32) (a2 : Int32) (post : Int32 → mI → Prop) (I : mI) (v3 : Int32) (v4 : Int32) : Prop := ∀ ZZ : (mI → Int32 → Int32 → Prop), (∀ (I : mI) (v3 : Int32) (v4 : Int32), (w_X12_people I o (fun r5 => (r5 ≤ v4 → post v3 I) ∧ (¬ r5 ≤ v4 → w_X12_goalsEnd I o v4 (fun r6 => (¬ a2 = 0 → (¬ a2 = 1 → w_X12_heardOf I o v4 (fun r7 => (¬ r7 = 0 → (w_X12_ends__108 o a1 a2 post ZZ) I v3 v4 0) ∧ (r7 = 0 → (w_X12_ends__108 o a1 a2 post ZZ) I v3 v4 1))) ∧ (a2 = 1 → w_X12_told I o v4 4 (fun r8 => (r8 ≤ r6 → (w_X12_ends__108 o a1 a2 post ZZ) I v3 v4 0) ∧ (¬ r8 ≤ r6 → (w_X12_ends__108 o a1 a2 post ZZ) I v3 v4 1)))) ∧ (a2 = 0 → w_X12_told I o v4 4 (fun r9 => (r6 ≤ r9 → (w_X12_ends__108 o a1 a2 post ZZ) I v3 v4 0) ∧ (¬ r6 ≤ r9 → (w_X12_ends__108 o a1 a2 post ZZ) I v3 v4 1))))))) → ZZ I v3 v4) → ZZ I v3 v4
set_option maxRecDepth 100000 in
set_option maxHeartbeats 4000000 in
theorem s_X12_ends__28 {p : Program} {l : Launch} {e : Env} {s : State} {m : MethodId} {args : Array Value} {below : List Frame} {meth : Method} {c : Code} {D : va_G} {cA : Nat → ClassId} {Z : mZ} {bs : Ad} {n : Nat} {K : mK} {R : mR} {L : mL} (E : Ev p s m args c cX12_ends_ 7 RX12 D cA Z bs) (hr : meth.sig.returnType = (some .int)) (hlk : meth.locks = false) {o : Nat} {a1 : Int32} {a2 : Int32} (ho : isX12 K R o) {post : Int32 → mI → Prop} {I : mI} {v3 : Int32} {v4 : Int32} {H : Heap} {locs : List Loc} {ls : Array Slot} (hw : w_X12_ends__28 o a1 a2 post I v3 v4) (hM : mm D cA bs (n, K, R, I, L) H) (hS : va_S (Ab bs) s.heap H locs) (hl : lv_has ls 7 [(0, .ref (ad bs o)), (2, .int a2), (3, .int v3), (4, .int v4)]) : W p l e ({ frames := 7, cells := 0, slots := 0, locals := 159 } : Room) s m args below meth c H locs 0 0 (MQ below (QI D cA bs (fun r u => ∃ I', u = (n, K, R, I', L) ∧ post r I')) args s 0 0 (Ab bs)) (F0 m 28 ls []) := by
  have hx := E.1.1
  have hb := E.1.2.1
  refine hw (fun I v3 v4 => ∀ (H : Heap) (locs : List Loc) (ls : Array Slot), mm D cA bs (n, K, R, I, L) H → va_S (Ab bs) s.heap H locs → lv_has ls 7 [(0, .ref (ad bs o)), (2, .int a2), (3, .int v3), (4, .int v4)] → W p l e ({ frames := 7, cells := 0, slots := 0, locals := 159 } : Room) s m args below meth c H locs 0 0 (MQ below (QI D cA bs (fun r u => ∃ I', u = (n, K, R, I', L) ∧ post r I')) args s 0 0 (Ab bs)) (F0 m 28 ls [])) ?_ H locs ls hM hS hl
  clear hw hM hS hl
  intro I v3 v4 hw H locs ls hM hS hl
  refine lv_iload hx hb dX12_ends__28 (lv_at hl 3 rfl) ?_
  refine lv_aload_n hx hb dX12_ends__30 rfl (lv_at hl 0 rfl) ?_
  refine m_ci (m_runV E hM hS cs_X12_208 ho.1 (by decide) rfl rfl (c_X12_people ho hw) rfl rfl ⟨Nat.le_of_ble_eq_true rfl, Nat.le_of_ble_eq_true rfl⟩ rfl hl.1 rfl (Nat.le_of_ble_eq_true rfl) dX12_ends__31 ⟨Nat.le_of_ble_eq_true rfl, Nat.le_of_ble_eq_true rfl⟩) hS (fun r5 u H locs hp hM hS => ?_)
  obtain ⟨rfl, hw⟩ := hp
  refine lv_icmp_ge (tgt := 132) hx hb dX12_ends__34 (by decide) (fun cq => ?_) (fun cq => ?_)
  · have hw := hw.1 cq
    refine lv_iload_n hx hb dX12_ends__132 rfl (lv_at hl 2 rfl) ?_
    exact m_reti hx hb hr hlk hM hS ⟨_, rfl, hw⟩ dX12_ends__133
  · have hw := hw.2 cq
    refine lv_aload_n hx hb dX12_ends__37 rfl (lv_at hl 0 rfl) ?_
    refine lv_iload hx hb dX12_ends__38 (lv_at hl 3 rfl) ?_
    refine m_ci (m_runV E hM hS cs_X12_309 ho.1 (by decide) rfl rfl (c_X12_goalsEnd ho hw) rfl rfl ⟨Nat.le_of_ble_eq_true rfl, Nat.le_of_ble_eq_true rfl⟩ rfl hl.1 rfl (Nat.le_of_ble_eq_true rfl) dX12_ends__40 ⟨Nat.le_of_ble_eq_true rfl, Nat.le_of_ble_eq_true rfl⟩) hS (fun r6 u H locs hp hM hS => ?_)
    obtain ⟨rfl, hw⟩ := hp
    refine lv_istore (lv' := [(5, .int r6), (0, .ref (ad bs o)), (2, .int a2), (3, .int v3), (4, .int v4)]) hx hb dX12_ends__43 hl (by decide) rfl (fun ls hl => ?_)
    refine lv_iload_n hx hb dX12_ends__45 rfl (lv_at hl 2 rfl) ?_
    refine lv_if_ne (tgt := 69) hx hb dX12_ends__46 (by decide) (fun cq => ?_) (fun cq => ?_)
    · have hw := hw.1 cq
      refine lv_iload_n hx hb dX12_ends__69 rfl (lv_at hl 2 rfl) ?_
      refine lv_iconst (v := 1) hx hb dX12_ends__70 (by decide) ?_
      refine lv_icmp_ne (tgt := 94) hx hb dX12_ends__71 (by decide) (fun cq => ?_) (fun cq => ?_)
      · have hw := hw.1 cq
        refine lv_aload_n hx hb dX12_ends__94 rfl (lv_at hl 1 rfl) ?_
        refine lv_iload hx hb dX12_ends__95 (lv_at hl 4 rfl) ?_
        refine m_ci (m_runV E hM hS cs_X12_327 ho.1 (by decide) rfl rfl (c_X12_heardOf ho hw) rfl rfl ⟨Nat.le_of_ble_eq_true rfl, Nat.le_of_ble_eq_true rfl⟩ rfl hl.1 rfl (Nat.le_of_ble_eq_true rfl) dX12_ends__97 ⟨Nat.le_of_ble_eq_true rfl, Nat.le_of_ble_eq_true rfl⟩) hS (fun r7 u H locs hp hM hS => ?_)
        obtain ⟨rfl, hw⟩ := hp
        refine lv_if_ne (tgt := 107) hx hb dX12_ends__100 (by decide) (fun cq => ?_) (fun cq => ?_)
        · have hw := hw.1 cq
          refine lv_iconst (v := 0) hx hb dX12_ends__107 (by decide) ?_
          exact s_X12_ends__108 E hr hlk ho (fun I v3 v4 H locs ls  hw hM hS hl => hw H locs ls  hM hS hl)  hw hM hS (lv_sub hl [1, 2, 3, 4] rfl)
        · have hw := hw.2 cq
          refine lv_iconst (v := 1) hx hb dX12_ends__103 (by decide) ?_
          refine lv_goto (tgt := 108) hx hb dX12_ends__104 (by decide) ?_
          exact s_X12_ends__108 E hr hlk ho (fun I v3 v4 H locs ls  hw hM hS hl => hw H locs ls  hM hS hl)  hw hM hS (lv_sub hl [1, 2, 3, 4] rfl)
      · have hw := hw.2 cq
        refine lv_iload hx hb dX12_ends__74 (lv_at hl 0 rfl) ?_
        refine lv_aload_n hx hb dX12_ends__76 rfl (lv_at hl 1 rfl) ?_
        refine lv_iload hx hb dX12_ends__77 (lv_at hl 4 rfl) ?_
        refine lv_iconst (v := 4) hx hb dX12_ends__79 (by decide) ?_
        refine m_ci (m_runV E hM hS cs_X12_241 ho.1 (by decide) rfl rfl (c_X12_told ho hw) rfl rfl ⟨Nat.le_of_ble_eq_true rfl, Nat.le_of_ble_eq_true rfl⟩ rfl hl.1 rfl (Nat.le_of_ble_eq_true rfl) dX12_ends__80 ⟨Nat.le_of_ble_eq_true rfl, Nat.le_of_ble_eq_true rfl⟩) hS (fun r8 u H locs hp hM hS => ?_)
        obtain ⟨rfl, hw⟩ := hp
        refine lv_icmp_ge (tgt := 90) hx hb dX12_ends__83 (by decide) (fun cq => ?_) (fun cq => ?_)
        · have hw := hw.1 cq
          refine lv_iconst (v := 0) hx hb dX12_ends__90 (by decide) ?_
          refine lv_goto (tgt := 108) hx hb dX12_ends__91 (by decide) ?_
          exact s_X12_ends__108 E hr hlk ho (fun I v3 v4 H locs ls  hw hM hS hl => hw H locs ls  hM hS hl)  hw hM hS (lv_sub hl [1, 2, 3, 4] rfl)
        · have hw := hw.2 cq
          refine lv_iconst (v := 1) hx hb dX12_ends__86 (by decide) ?_
          refine lv_goto (tgt := 108) hx hb dX12_ends__87 (by decide) ?_
          exact s_X12_ends__108 E hr hlk ho (fun I v3 v4 H locs ls  hw hM hS hl => hw H locs ls  hM hS hl)  hw hM hS (lv_sub hl [1, 2, 3, 4] rfl)
    · have hw := hw.2 cq
      refine lv_iload hx hb dX12_ends__49 (lv_at hl 0 rfl) ?_
      refine lv_aload_n hx hb dX12_ends__51 rfl (lv_at hl 1 rfl) ?_
      refine lv_iload hx hb dX12_ends__52 (lv_at hl 4 rfl) ?_
      refine lv_iconst (v := 4) hx hb dX12_ends__54 (by decide) ?_
      refine m_ci (m_runV E hM hS cs_X12_241 ho.1 (by decide) rfl rfl (c_X12_told ho hw) rfl rfl ⟨Nat.le_of_ble_eq_true rfl, Nat.le_of_ble_eq_true rfl⟩ rfl hl.1 rfl (Nat.le_of_ble_eq_true rfl) dX12_ends__55 ⟨Nat.le_of_ble_eq_true rfl, Nat.le_of_ble_eq_true rfl⟩) hS (fun r9 u H locs hp hM hS => ?_)
      obtain ⟨rfl, hw⟩ := hp
      refine lv_icmp_le (tgt := 65) hx hb dX12_ends__58 (by decide) (fun cq => ?_) (fun cq => ?_)
      · have hw := hw.1 cq
        refine lv_iconst (v := 0) hx hb dX12_ends__65 (by decide) ?_
        refine lv_goto (tgt := 108) hx hb dX12_ends__66 (by decide) ?_
        exact s_X12_ends__108 E hr hlk ho (fun I v3 v4 H locs ls  hw hM hS hl => hw H locs ls  hM hS hl)  hw hM hS (lv_sub hl [1, 2, 3, 4] rfl)
      · have hw := hw.2 cq
        refine lv_iconst (v := 1) hx hb dX12_ends__61 (by decide) ?_
        refine lv_goto (tgt := 108) hx hb dX12_ends__62 (by decide) ?_
        exact s_X12_ends__108 E hr hlk ho (fun I v3 v4 H locs ls  hw hM hS hl => hw H locs ls  hM hS hl)  hw hM hS (lv_sub hl [1, 2, 3, 4] rfl)
def w_X12_ends_ (I : mI) (o : Nat) (a1 : Int32) (a2 : Int32) (post : Int32 → mI → Prop) : Prop := w_X12_isHouse I o a1 (fun b1 I2 => (b1 = false → post (-1) I2) ∧ (b1 = true → w_X12_isIn a2 0 2 (fun b3 => (b3 = true → w_X12_runs I2 o (fun I4 => (w_X12_ends__28 o a1 a2 post) I4 0 0)) ∧ (b3 = false → post (-1) I2))))
set_option maxRecDepth 100000 in
set_option maxHeartbeats 4000000 in
theorem c_X12_ends_ {l : Launch} {D : va_G} {cA : Nat → ClassId} {Z : mZ} {bs : Ad} {n : Nat} {K : mK} {R : mR} {I : mI} {L : mL} {o : Nat} {a1 : Int32} {a2 : Int32} {post : Int32 → mI → Prop} (ho : isX12 K R o) (hw : w_X12_ends_ I o a1 a2 post) : Met l yX12_ends_ (.code yX12_ends_ cX12_ends_ 7 (some .int) :: gw) ({ frames := 7, cells := 0, slots := 0, locals := 159 } : Room) (PreM D cA Z bs (n, K, R, I, L) [.ref (ad bs o), .int a1, .int a2]) (QI D cA bs (fun r u => ∃ I', u = (n, K, R, I', L) ∧ post r I')) 0 0 (Ab bs) := by
  refine m_met (by decide) (Nat.le_of_ble_eq_true rfl) (fun p e s m below meth c ls E hr hlk hM hS hl => ?_)
  have E : Ev p s m _ c cX12_ends_ 7 RX12 D cA Z bs := E
  have hl : lv_has ls 7 [(0, .ref (ad bs o)), (1, .int a1), (2, .int a2)] := hl
  have hx := E.1.1
  have hb := E.1.2.1
  generalize hHe : s.heap = H at hM ⊢
  have hS : va_S (Ab bs) s.heap H [] := by rw [← hHe]; exact va_S.rf
  clear hHe
  refine lv_aload_n hx hb dX12_ends__0 rfl (lv_at hl 0 rfl) ?_
  refine lv_iload_n hx hb dX12_ends__1 rfl (lv_at hl 1 rfl) ?_
  refine m_ci (m_runV E hM hS cs_X12_214 ho.1 (by decide) rfl rfl (c_X12_isHouse ho hw) rfl rfl ⟨Nat.le_of_ble_eq_true rfl, Nat.le_of_ble_eq_true rfl⟩ rfl hl.1 rfl (Nat.le_of_ble_eq_true rfl) dX12_ends__2 ⟨Nat.le_of_ble_eq_true rfl, Nat.le_of_ble_eq_true rfl⟩) hS (fun r9 u H locs hp hM hS => ?_)
  obtain ⟨b1, rfl, I2, rfl, hw⟩ := hp
  refine lv_if_eq (tgt := 17) hx hb dX12_ends__5 (by decide) (fun cq => ?_) (fun cq => ?_)
  · have hw := hw.1 (bI_f cq)
    refine lv_iconst (v := (-1)) hx hb dX12_ends__17 (by decide) ?_
    exact m_reti hx hb hr hlk hM hS ⟨_, rfl, hw⟩ dX12_ends__18
  · have hw := hw.2 (bI_t cq)
    refine lv_iload_n hx hb dX12_ends__8 rfl (lv_at hl 2 rfl) ?_
    refine lv_iconst (v := 0) hx hb dX12_ends__9 (by decide) ?_
    refine lv_iconst (v := 2) hx hb dX12_ends__10 (by decide) ?_
    refine m_ci (m_runS E hM hS cs_X12_133 (c_X12_isIn  hw) rfl rfl ⟨Nat.le_of_ble_eq_true rfl, Nat.le_of_ble_eq_true rfl⟩ rfl hl.1 rfl (Nat.le_of_ble_eq_true rfl) dX12_ends__11 ⟨Nat.le_of_ble_eq_true rfl, Nat.le_of_ble_eq_true rfl⟩) hS (fun r9 u H locs hp hM hS => ?_)
    obtain ⟨b3, rfl, rfl, hw⟩ := hp
    refine lv_if_ne (tgt := 19) hx hb dX12_ends__14 (by decide) (fun cq => ?_) (fun cq => ?_)
    · have hw := hw.1 (bI_t cq)
      refine lv_aload_n hx hb dX12_ends__19 rfl (lv_at hl 0 rfl) ?_
      refine m_cv (m_runV E hM hS cs_X12_306 ho.1 (by decide) rfl rfl (c_X12_runs ho hw) rfl rfl ⟨Nat.le_of_ble_eq_true rfl, Nat.le_of_ble_eq_true rfl⟩ rfl hl.1 rfl (Nat.le_of_ble_eq_true rfl) dX12_ends__20 ⟨Nat.le_of_ble_eq_true rfl, Nat.le_of_ble_eq_true rfl⟩) hS (fun u H locs hp hM hS => ?_)
      obtain ⟨I4, rfl, hw⟩ := hp
      refine lv_iconst (v := 0) hx hb dX12_ends__23 (by decide) ?_
      refine lv_istore_n (lv' := [(3, .int 0), (0, .ref (ad bs o)), (1, .int a1), (2, .int a2)]) hx hb dX12_ends__24 rfl hl (by decide) rfl (fun ls hl => ?_)
      refine lv_iconst (v := 0) hx hb dX12_ends__25 (by decide) ?_
      refine lv_istore (lv' := [(4, .int 0), (3, .int 0), (0, .ref (ad bs o)), (1, .int a1), (2, .int a2)]) hx hb dX12_ends__26 hl (by decide) rfl (fun ls hl => ?_)
      exact s_X12_ends__28 E hr hlk ho  hw hM hS (lv_sub hl [2, 4, 1, 0] rfl)
    · have hw := hw.2 (bI_f cq)
      refine lv_iconst (v := (-1)) hx hb dX12_ends__17 (by decide) ?_
      exact m_reti hx hb hr hlk hM hS ⟨_, rfl, hw⟩ dX12_ends__18
theorem dX12_costOf_0 : decode cX12_costOf 0 = .ok (.aload_n 0, 1) := by decide +kernel
theorem dX12_costOf_1 : decode cX12_costOf 1 = .ok (.aload_n 0, 1) := by decide +kernel
theorem dX12_costOf_2 : decode cX12_costOf 2 = .ok (.iload_n 1, 1) := by decide +kernel
theorem dX12_costOf_3 : decode cX12_costOf 3 = .ok (.aload_n 0, 1) := by decide +kernel
theorem dX12_costOf_4 : decode cX12_costOf 4 = .ok (.iload_n 1, 1) := by decide +kernel
theorem dX12_costOf_5 : decode cX12_costOf 5 = .ok (.iload_n 3, 1) := by decide +kernel
theorem dX12_costOf_6 : decode cX12_costOf 6 = .ok (.invokevirtual 268, 3) := by decide +kernel
theorem dX12_costOf_9 : decode cX12_costOf 9 = .ok (.iload_n 2, 1) := by decide +kernel
theorem dX12_costOf_10 : decode cX12_costOf 10 = .ok (.invokevirtual 271, 3) := by decide +kernel
theorem dX12_costOf_13 : decode cX12_costOf 13 = .ok (.iload_n 2, 1) := by decide +kernel
theorem dX12_costOf_14 : decode cX12_costOf 14 = .ok (.invokevirtual 275, 3) := by decide +kernel
theorem dX12_costOf_17 : decode cX12_costOf 17 = .ok (.istore 6, 2) := by decide +kernel
theorem dX12_costOf_19 : decode cX12_costOf 19 = .ok (.iconst (-1), 1) := by decide +kernel
theorem dX12_costOf_20 : decode cX12_costOf 20 = .ok (.istore 7, 2) := by decide +kernel
theorem dX12_costOf_22 : decode cX12_costOf 22 = .ok (.iconst 0, 1) := by decide +kernel
theorem dX12_costOf_23 : decode cX12_costOf 23 = .ok (.istore 8, 2) := by decide +kernel
theorem dX12_costOf_25 : decode cX12_costOf 25 = .ok (.iconst 0, 1) := by decide +kernel
theorem dX12_costOf_26 : decode cX12_costOf 26 = .ok (.istore 9, 2) := by decide +kernel
theorem dX12_costOf_28 : decode cX12_costOf 28 = .ok (.iload 9, 2) := by decide +kernel
theorem dX12_costOf_30 : decode cX12_costOf 30 = .ok (.aload_n 0, 1) := by decide +kernel
theorem dX12_costOf_31 : decode cX12_costOf 31 = .ok (.getfield 262, 3) := by decide +kernel
theorem dX12_costOf_34 : decode cX12_costOf 34 = .ok (.if_icmp .ge 100, 3) := by decide +kernel
theorem dX12_costOf_37 : decode cX12_costOf 37 = .ok (.aload_n 0, 1) := by decide +kernel
theorem dX12_costOf_38 : decode cX12_costOf 38 = .ok (.getfield 23, 3) := by decide +kernel
theorem dX12_costOf_41 : decode cX12_costOf 41 = .ok (.iload 9, 2) := by decide +kernel
theorem dX12_costOf_43 : decode cX12_costOf 43 = .ok (.iaload, 1) := by decide +kernel
theorem dX12_costOf_44 : decode cX12_costOf 44 = .ok (.iload_n 2, 1) := by decide +kernel
theorem dX12_costOf_45 : decode cX12_costOf 45 = .ok (.if_icmp .eq 6, 3) := by decide +kernel
theorem dX12_costOf_48 : decode cX12_costOf 48 = .ok (.goto 80, 3) := by decide +kernel
theorem dX12_costOf_51 : decode cX12_costOf 51 = .ok (.aload_n 0, 1) := by decide +kernel
theorem dX12_costOf_52 : decode cX12_costOf 52 = .ok (.getfield 26, 3) := by decide +kernel
theorem dX12_costOf_55 : decode cX12_costOf 55 = .ok (.iload 9, 2) := by decide +kernel
theorem dX12_costOf_57 : decode cX12_costOf 57 = .ok (.iaload, 1) := by decide +kernel
theorem dX12_costOf_58 : decode cX12_costOf 58 = .ok (.iload_n 3, 1) := by decide +kernel
theorem dX12_costOf_59 : decode cX12_costOf 59 = .ok (.if_icmp .lt 25, 3) := by decide +kernel
theorem dX12_costOf_62 : decode cX12_costOf 62 = .ok (.aload_n 0, 1) := by decide +kernel
theorem dX12_costOf_63 : decode cX12_costOf 63 = .ok (.getfield 26, 3) := by decide +kernel
theorem dX12_costOf_66 : decode cX12_costOf 66 = .ok (.iload 9, 2) := by decide +kernel
theorem dX12_costOf_68 : decode cX12_costOf 68 = .ok (.iaload, 1) := by decide +kernel
theorem dX12_costOf_69 : decode cX12_costOf 69 = .ok (.iload_n 3, 1) := by decide +kernel
theorem dX12_costOf_70 : decode cX12_costOf 70 = .ok (.if_icmp .ne 18, 3) := by decide +kernel
theorem dX12_costOf_73 : decode cX12_costOf 73 = .ok (.aload_n 0, 1) := by decide +kernel
theorem dX12_costOf_74 : decode cX12_costOf 74 = .ok (.getfield 20, 3) := by decide +kernel
theorem dX12_costOf_77 : decode cX12_costOf 77 = .ok (.iload 9, 2) := by decide +kernel
theorem dX12_costOf_79 : decode cX12_costOf 79 = .ok (.iaload, 1) := by decide +kernel
theorem dX12_costOf_80 : decode cX12_costOf 80 = .ok (.iload_n 1, 1) := by decide +kernel
theorem dX12_costOf_81 : decode cX12_costOf 81 = .ok (.if_icmp .ge 7, 3) := by decide +kernel
theorem dX12_costOf_84 : decode cX12_costOf 84 = .ok (.iconst 1, 1) := by decide +kernel
theorem dX12_costOf_85 : decode cX12_costOf 85 = .ok (.goto 4, 3) := by decide +kernel
theorem dX12_costOf_88 : decode cX12_costOf 88 = .ok (.iconst 0, 1) := by decide +kernel
theorem dX12_costOf_89 : decode cX12_costOf 89 = .ok (.istore 10, 2) := by decide +kernel
theorem dX12_costOf_91 : decode cX12_costOf 91 = .ok (.iload 10, 2) := by decide +kernel
theorem dX12_costOf_93 : decode cX12_costOf 93 = .ok (.ifCond .eq 8, 3) := by decide +kernel
theorem dX12_costOf_96 : decode cX12_costOf 96 = .ok (.iload 9, 2) := by decide +kernel
theorem dX12_costOf_98 : decode cX12_costOf 98 = .ok (.goto 5, 3) := by decide +kernel
theorem dX12_costOf_101 : decode cX12_costOf 101 = .ok (.iload 7, 2) := by decide +kernel
theorem dX12_costOf_103 : decode cX12_costOf 103 = .ok (.istore 7, 2) := by decide +kernel
theorem dX12_costOf_105 : decode cX12_costOf 105 = .ok (.iload 8, 2) := by decide +kernel
theorem dX12_costOf_107 : decode cX12_costOf 107 = .ok (.ifCond .ne 14, 3) := by decide +kernel
theorem dX12_costOf_110 : decode cX12_costOf 110 = .ok (.aload_n 0, 1) := by decide +kernel
theorem dX12_costOf_111 : decode cX12_costOf 111 = .ok (.getfield 26, 3) := by decide +kernel
theorem dX12_costOf_114 : decode cX12_costOf 114 = .ok (.iload 9, 2) := by decide +kernel
theorem dX12_costOf_116 : decode cX12_costOf 116 = .ok (.iaload, 1) := by decide +kernel
theorem dX12_costOf_117 : decode cX12_costOf 117 = .ok (.iload_n 3, 1) := by decide +kernel
theorem dX12_costOf_118 : decode cX12_costOf 118 = .ok (.if_icmp .ne 7, 3) := by decide +kernel
theorem dX12_costOf_121 : decode cX12_costOf 121 = .ok (.iconst 1, 1) := by decide +kernel
theorem dX12_costOf_122 : decode cX12_costOf 122 = .ok (.goto 4, 3) := by decide +kernel
theorem dX12_costOf_125 : decode cX12_costOf 125 = .ok (.iconst 0, 1) := by decide +kernel
theorem dX12_costOf_126 : decode cX12_costOf 126 = .ok (.istore 8, 2) := by decide +kernel
theorem dX12_costOf_128 : decode cX12_costOf 128 = .ok (.iinc 9 1, 3) := by decide +kernel
theorem dX12_costOf_131 : decode cX12_costOf 131 = .ok (.goto (-103), 3) := by decide +kernel
theorem dX12_costOf_134 : decode cX12_costOf 134 = .ok (.iload 7, 2) := by decide +kernel
theorem dX12_costOf_136 : decode cX12_costOf 136 = .ok (.iconst (-1), 1) := by decide +kernel
theorem dX12_costOf_137 : decode cX12_costOf 137 = .ok (.if_icmp .eq 39, 3) := by decide +kernel
theorem dX12_costOf_140 : decode cX12_costOf 140 = .ok (.iload_n 3, 1) := by decide +kernel
theorem dX12_costOf_141 : decode cX12_costOf 141 = .ok (.aload_n 0, 1) := by decide +kernel
theorem dX12_costOf_142 : decode cX12_costOf 142 = .ok (.getfield 26, 3) := by decide +kernel
theorem dX12_costOf_145 : decode cX12_costOf 145 = .ok (.iload 7, 2) := by decide +kernel
theorem dX12_costOf_147 : decode cX12_costOf 147 = .ok (.iaload, 1) := by decide +kernel
theorem dX12_costOf_148 : decode cX12_costOf 148 = .ok (.isub, 1) := by decide +kernel
theorem dX12_costOf_149 : decode cX12_costOf 149 = .ok (.aload_n 0, 1) := by decide +kernel
theorem dX12_costOf_150 : decode cX12_costOf 150 = .ok (.iconst 1, 1) := by decide +kernel
theorem dX12_costOf_151 : decode cX12_costOf 151 = .ok (.invokevirtual 205, 3) := by decide +kernel
theorem dX12_costOf_154 : decode cX12_costOf 154 = .ok (.if_icmp .gt 22, 3) := by decide +kernel
theorem dX12_costOf_157 : decode cX12_costOf 157 = .ok (.iload 6, 2) := by decide +kernel
theorem dX12_costOf_159 : decode cX12_costOf 159 = .ok (.aload_n 0, 1) := by decide +kernel
theorem dX12_costOf_160 : decode cX12_costOf 160 = .ok (.aload_n 0, 1) := by decide +kernel
theorem dX12_costOf_161 : decode cX12_costOf 161 = .ok (.getfield 32, 3) := by decide +kernel
theorem dX12_costOf_164 : decode cX12_costOf 164 = .ok (.iload 7, 2) := by decide +kernel
theorem dX12_costOf_166 : decode cX12_costOf 166 = .ok (.iaload, 1) := by decide +kernel
theorem dX12_costOf_167 : decode cX12_costOf 167 = .ok (.iconst 2, 1) := by decide +kernel
theorem dX12_costOf_168 : decode cX12_costOf 168 = .ok (.idiv, 1) := by decide +kernel
theorem dX12_costOf_169 : decode cX12_costOf 169 = .ok (.iload_n 2, 1) := by decide +kernel
theorem dX12_costOf_170 : decode cX12_costOf 170 = .ok (.invokevirtual 275, 3) := by decide +kernel
theorem dX12_costOf_173 : decode cX12_costOf 173 = .ok (.ior, 1) := by decide +kernel
theorem dX12_costOf_174 : decode cX12_costOf 174 = .ok (.istore 6, 2) := by decide +kernel
theorem dX12_costOf_176 : decode cX12_costOf 176 = .ok (.iload 6, 2) := by decide +kernel
theorem dX12_costOf_178 : decode cX12_costOf 178 = .ok (.iload 4, 2) := by decide +kernel
theorem dX12_costOf_180 : decode cX12_costOf 180 = .ok (.iand, 1) := by decide +kernel
theorem dX12_costOf_181 : decode cX12_costOf 181 = .ok (.ifCond .ne 5, 3) := by decide +kernel
theorem dX12_costOf_184 : decode cX12_costOf 184 = .ok (.iconst 0, 1) := by decide +kernel
theorem dX12_costOf_185 : decode cX12_costOf 185 = .ok (.ireturn, 1) := by decide +kernel
theorem dX12_costOf_186 : decode cX12_costOf 186 = .ok (.iload 5, 2) := by decide +kernel
theorem dX12_costOf_188 : decode cX12_costOf 188 = .ok (.ifCond .eq 16, 3) := by decide +kernel
theorem dX12_costOf_191 : decode cX12_costOf 191 = .ok (.iload 8, 2) := by decide +kernel
theorem dX12_costOf_193 : decode cX12_costOf 193 = .ok (.ifCond .eq 7, 3) := by decide +kernel
theorem dX12_costOf_196 : decode cX12_costOf 196 = .ok (.iconst 0, 1) := by decide +kernel
theorem dX12_costOf_197 : decode cX12_costOf 197 = .ok (.goto 10, 3) := by decide +kernel
theorem dX12_costOf_200 : decode cX12_costOf 200 = .ok (.iconst 1, 1) := by decide +kernel
theorem dX12_costOf_201 : decode cX12_costOf 201 = .ok (.goto 6, 3) := by decide +kernel
theorem dX12_costOf_204 : decode cX12_costOf 204 = .ok (.ldc_w 330, 3) := by decide +kernel
theorem dX12_costOf_207 : decode cX12_costOf 207 = .ok (.ireturn, 1) := by decide +kernel
def w_X12_costOf_103 (I : mI) (o : Nat) (a1 : Int32) (a2 : Int32) (a3 : Int32) (a4 : Int32) (a5 : Int32) (post : Int32 → Prop) (k28 : Int32 → Int32 → Int32 → Int32 → Prop) (v6 : Int32) (v8 : Int32) (v9 : Int32) (s0 : Int32) : Prop := (¬ v8 = 0 → ∀ x5, x5 = v9 + 1 → k28 v6 s0 1 x5) ∧ (v8 = 0 → vp_in v9 640 ∧ (¬ (I (o + 6) v9.toNatClampNeg) = a3 → ∀ x6, x6 = v9 + 1 → k28 v6 s0 0 x6) ∧ ((I (o + 6) v9.toNatClampNeg) = a3 → ∀ x7, x7 = v9 + 1 → k28 v6 s0 1 x7))
set_option maxRecDepth 100000 in
set_option maxHeartbeats 4000000 in
theorem s_X12_costOf_103 {p : Program} {l : Launch} {e : Env} {s : State} {m : MethodId} {args : Array Value} {below : List Frame} {meth : Method} {c : Code} {D : va_G} {cA : Nat → ClassId} {Z : mZ} {bs : Ad} {n : Nat} {K : mK} {R : mR} {I : mI} {L : mL} (E : Ev p s m args c cX12_costOf 11 RX12 D cA Z bs) (hr : meth.sig.returnType = (some .int)) (hlk : meth.locks = false) {o : Nat} {a1 : Int32} {a2 : Int32} {a3 : Int32} {a4 : Int32} {a5 : Int32} (ho : isX12 K R o) {post : Int32 → Prop} {k28 : Int32 → Int32 → Int32 → Int32 → Prop} (hk28 : ∀ (v6 : Int32) (v7 : Int32) (v8 : Int32) (v9 : Int32) (H : Heap) (locs : List Loc) (ls : Array Slot), k28 v6 v7 v8 v9 → mm D cA bs (n, K, R, I, L) H → va_S (Ab bs) s.heap H locs → lv_has ls 11 [(0, .ref (ad bs o)), (1, .int a1), (2, .int a2), (3, .int a3), (4, .int a4), (5, .int a5), (6, .int v6), (7, .int v7), (8, .int v8), (9, .int v9)] → W p l e ({ frames := 4, cells := 0, slots := 0, locals := 90 } : Room) s m args below meth c H locs 0 0 (MQ below (QI D cA bs (fun r u => u = (n, K, R, I, L) ∧ post r)) args s 0 0 (Ab bs)) (F0 m 28 ls [])) {v6 : Int32} {v8 : Int32} {v9 : Int32} {s0 : Int32} {H : Heap} {locs : List Loc} {ls : Array Slot} (hw : w_X12_costOf_103 I o a1 a2 a3 a4 a5 post k28 v6 v8 v9 s0) (hM : mm D cA bs (n, K, R, I, L) H) (hS : va_S (Ab bs) s.heap H locs) (hl : lv_has ls 11 [(0, .ref (ad bs o)), (1, .int a1), (2, .int a2), (3, .int a3), (4, .int a4), (5, .int a5), (6, .int v6), (8, .int v8), (9, .int v9)]) : W p l e ({ frames := 4, cells := 0, slots := 0, locals := 90 } : Room) s m args below meth c H locs 0 0 (MQ below (QI D cA bs (fun r u => u = (n, K, R, I, L) ∧ post r)) args s 0 0 (Ab bs)) (F0 m 103 ls [.int s0]) := by
  have hx := E.1.1
  have hb := E.1.2.1
  refine lv_istore (lv' := [(7, .int s0), (0, .ref (ad bs o)), (1, .int a1), (2, .int a2), (3, .int a3), (4, .int a4), (5, .int a5), (6, .int v6), (8, .int v8), (9, .int v9)]) hx hb dX12_costOf_103 hl (by decide) rfl (fun ls hl => ?_)
  refine lv_iload hx hb dX12_costOf_105 (lv_at hl 8 rfl) ?_
  refine lv_if_ne (tgt := 121) hx hb dX12_costOf_107 (by decide) (fun cq => ?_) (fun cq => ?_)
  · have hw := hw.1 cq
    refine lv_iconst (v := 1) hx hb dX12_costOf_121 (by decide) ?_
    refine lv_goto (tgt := 126) hx hb dX12_costOf_122 (by decide) ?_
    refine lv_istore (lv' := [(8, .int 1), (7, .int s0), (0, .ref (ad bs o)), (1, .int a1), (2, .int a2), (3, .int a3), (4, .int a4), (5, .int a5), (6, .int v6), (9, .int v9)]) hx hb dX12_costOf_126 hl (by decide) rfl (fun ls hl => ?_)
    obtain ⟨x5, ex5⟩ : ∃ y : Int32, y = v9 + 1 := ⟨_, rfl⟩
    have hw := hw x5 ex5
    refine lv_iinc (v := x5) (lv' := [(9, .int x5), (8, .int 1), (7, .int s0), (0, .ref (ad bs o)), (1, .int a1), (2, .int a2), (3, .int a3), (4, .int a4), (5, .int a5), (6, .int v6)]) hx hb dX12_costOf_128 hl (k := 9) rfl (by rw [ex5]; rfl) (by decide) rfl (fun ls hl => ?_)
    refine lv_goto (tgt := 28) hx hb dX12_costOf_131 (by decide) ?_
    exact hk28 _ _ _ _ H locs ls  hw hM hS (lv_sub hl [3, 4, 5, 6, 7, 8, 9, 2, 1, 0] rfl)
  · have hw := hw.2 cq
    refine lv_aload_n hx hb dX12_costOf_110 rfl (lv_at hl 1 rfl) ?_
    refine m_getr E hM fs_X12_26 ho.1 (isO_at ho 5 rfl).1 dX12_costOf_111 ?_
    refine lv_iload hx hb dX12_costOf_114 (lv_at hl 9 rfl) ?_
    obtain ⟨hv, hw⟩ := hw
    refine m_iald E hM (isO_at ho 5 rfl).2 hv dX12_costOf_116 ?_
    refine lv_iload_n hx hb dX12_costOf_117 rfl (lv_at hl 4 rfl) ?_
    refine lv_icmp_ne (tgt := 125) hx hb dX12_costOf_118 (by decide) (fun cq => ?_) (fun cq => ?_)
    · have hw := hw.1 cq
      refine lv_iconst (v := 0) hx hb dX12_costOf_125 (by decide) ?_
      refine lv_istore (lv' := [(8, .int 0), (7, .int s0), (0, .ref (ad bs o)), (1, .int a1), (2, .int a2), (3, .int a3), (4, .int a4), (5, .int a5), (6, .int v6), (9, .int v9)]) hx hb dX12_costOf_126 hl (by decide) rfl (fun ls hl => ?_)
      obtain ⟨x6, ex6⟩ : ∃ y : Int32, y = v9 + 1 := ⟨_, rfl⟩
      have hw := hw x6 ex6
      refine lv_iinc (v := x6) (lv' := [(9, .int x6), (8, .int 0), (7, .int s0), (0, .ref (ad bs o)), (1, .int a1), (2, .int a2), (3, .int a3), (4, .int a4), (5, .int a5), (6, .int v6)]) hx hb dX12_costOf_128 hl (k := 9) rfl (by rw [ex6]; rfl) (by decide) rfl (fun ls hl => ?_)
      refine lv_goto (tgt := 28) hx hb dX12_costOf_131 (by decide) ?_
      exact hk28 _ _ _ _ H locs ls  hw hM hS (lv_sub hl [3, 4, 5, 6, 7, 8, 9, 2, 1, 0] rfl)
    · have hw := hw.2 cq
      refine lv_iconst (v := 1) hx hb dX12_costOf_121 (by decide) ?_
      refine lv_goto (tgt := 126) hx hb dX12_costOf_122 (by decide) ?_
      refine lv_istore (lv' := [(8, .int 1), (7, .int s0), (0, .ref (ad bs o)), (1, .int a1), (2, .int a2), (3, .int a3), (4, .int a4), (5, .int a5), (6, .int v6), (9, .int v9)]) hx hb dX12_costOf_126 hl (by decide) rfl (fun ls hl => ?_)
      obtain ⟨x7, ex7⟩ : ∃ y : Int32, y = v9 + 1 := ⟨_, rfl⟩
      have hw := hw x7 ex7
      refine lv_iinc (v := x7) (lv' := [(9, .int x7), (8, .int 1), (7, .int s0), (0, .ref (ad bs o)), (1, .int a1), (2, .int a2), (3, .int a3), (4, .int a4), (5, .int a5), (6, .int v6)]) hx hb dX12_costOf_128 hl (k := 9) rfl (by rw [ex7]; rfl) (by decide) rfl (fun ls hl => ?_)
      refine lv_goto (tgt := 28) hx hb dX12_costOf_131 (by decide) ?_
      exact hk28 _ _ _ _ H locs ls  hw hM hS (lv_sub hl [3, 4, 5, 6, 7, 8, 9, 2, 1, 0] rfl)
def w_X12_costOf_89 (I : mI) (o : Nat) (a1 : Int32) (a2 : Int32) (a3 : Int32) (a4 : Int32) (a5 : Int32) (post : Int32 → Prop) (k28 : Int32 → Int32 → Int32 → Int32 → Prop) (v6 : Int32) (v7 : Int32) (v8 : Int32) (v9 : Int32) (s0 : Int32) : Prop := (s0 = 0 → (w_X12_costOf_103 I o a1 a2 a3 a4 a5 post k28) v6 v8 v9 v7) ∧ (¬ s0 = 0 → (w_X12_costOf_103 I o a1 a2 a3 a4 a5 post k28) v6 v8 v9 v9)
set_option maxRecDepth 100000 in
set_option maxHeartbeats 4000000 in
theorem s_X12_costOf_89 {p : Program} {l : Launch} {e : Env} {s : State} {m : MethodId} {args : Array Value} {below : List Frame} {meth : Method} {c : Code} {D : va_G} {cA : Nat → ClassId} {Z : mZ} {bs : Ad} {n : Nat} {K : mK} {R : mR} {I : mI} {L : mL} (E : Ev p s m args c cX12_costOf 11 RX12 D cA Z bs) (hr : meth.sig.returnType = (some .int)) (hlk : meth.locks = false) {o : Nat} {a1 : Int32} {a2 : Int32} {a3 : Int32} {a4 : Int32} {a5 : Int32} (ho : isX12 K R o) {post : Int32 → Prop} {k28 : Int32 → Int32 → Int32 → Int32 → Prop} (hk28 : ∀ (v6 : Int32) (v7 : Int32) (v8 : Int32) (v9 : Int32) (H : Heap) (locs : List Loc) (ls : Array Slot), k28 v6 v7 v8 v9 → mm D cA bs (n, K, R, I, L) H → va_S (Ab bs) s.heap H locs → lv_has ls 11 [(0, .ref (ad bs o)), (1, .int a1), (2, .int a2), (3, .int a3), (4, .int a4), (5, .int a5), (6, .int v6), (7, .int v7), (8, .int v8), (9, .int v9)] → W p l e ({ frames := 4, cells := 0, slots := 0, locals := 90 } : Room) s m args below meth c H locs 0 0 (MQ below (QI D cA bs (fun r u => u = (n, K, R, I, L) ∧ post r)) args s 0 0 (Ab bs)) (F0 m 28 ls [])) {v6 : Int32} {v7 : Int32} {v8 : Int32} {v9 : Int32} {s0 : Int32} {H : Heap} {locs : List Loc} {ls : Array Slot} (hw : w_X12_costOf_89 I o a1 a2 a3 a4 a5 post k28 v6 v7 v8 v9 s0) (hM : mm D cA bs (n, K, R, I, L) H) (hS : va_S (Ab bs) s.heap H locs) (hl : lv_has ls 11 [(0, .ref (ad bs o)), (1, .int a1), (2, .int a2), (3, .int a3), (4, .int a4), (5, .int a5), (6, .int v6), (7, .int v7), (8, .int v8), (9, .int v9)]) : W p l e ({ frames := 4, cells := 0, slots := 0, locals := 90 } : Room) s m args below meth c H locs 0 0 (MQ below (QI D cA bs (fun r u => u = (n, K, R, I, L) ∧ post r)) args s 0 0 (Ab bs)) (F0 m 89 ls [.int s0]) := by
  have hx := E.1.1
  have hb := E.1.2.1
  refine lv_istore (lv' := [(10, .int s0), (0, .ref (ad bs o)), (1, .int a1), (2, .int a2), (3, .int a3), (4, .int a4), (5, .int a5), (6, .int v6), (7, .int v7), (8, .int v8), (9, .int v9)]) hx hb dX12_costOf_89 hl (by decide) rfl (fun ls hl => ?_)
  refine lv_iload hx hb dX12_costOf_91 (lv_at hl 0 rfl) ?_
  refine lv_if_eq (tgt := 101) hx hb dX12_costOf_93 (by decide) (fun cq => ?_) (fun cq => ?_)
  · have hw := hw.1 cq
    refine lv_iload hx hb dX12_costOf_101 (lv_at hl 8 rfl) ?_
    exact s_X12_costOf_103 E hr hlk ho hk28  hw hM hS (lv_sub hl [1, 2, 3, 4, 5, 6, 7, 9, 10] rfl)
  · have hw := hw.2 cq
    refine lv_iload hx hb dX12_costOf_96 (lv_at hl 10 rfl) ?_
    refine lv_goto (tgt := 103) hx hb dX12_costOf_98 (by decide) ?_
    exact s_X12_costOf_103 E hr hlk ho hk28  hw hM hS (lv_sub hl [1, 2, 3, 4, 5, 6, 7, 9, 10] rfl)
def w_X12_costOf_84 (I : mI) (o : Nat) (a1 : Int32) (a2 : Int32) (a3 : Int32) (a4 : Int32) (a5 : Int32) (post : Int32 → Prop) (k28 : Int32 → Int32 → Int32 → Int32 → Prop) (v6 : Int32) (v7 : Int32) (v8 : Int32) (v9 : Int32) : Prop := (w_X12_costOf_89 I o a1 a2 a3 a4 a5 post k28) v6 v7 v8 v9 1
set_option maxRecDepth 100000 in
set_option maxHeartbeats 4000000 in
theorem s_X12_costOf_84 {p : Program} {l : Launch} {e : Env} {s : State} {m : MethodId} {args : Array Value} {below : List Frame} {meth : Method} {c : Code} {D : va_G} {cA : Nat → ClassId} {Z : mZ} {bs : Ad} {n : Nat} {K : mK} {R : mR} {I : mI} {L : mL} (E : Ev p s m args c cX12_costOf 11 RX12 D cA Z bs) (hr : meth.sig.returnType = (some .int)) (hlk : meth.locks = false) {o : Nat} {a1 : Int32} {a2 : Int32} {a3 : Int32} {a4 : Int32} {a5 : Int32} (ho : isX12 K R o) {post : Int32 → Prop} {k28 : Int32 → Int32 → Int32 → Int32 → Prop} (hk28 : ∀ (v6 : Int32) (v7 : Int32) (v8 : Int32) (v9 : Int32) (H : Heap) (locs : List Loc) (ls : Array Slot), k28 v6 v7 v8 v9 → mm D cA bs (n, K, R, I, L) H → va_S (Ab bs) s.heap H locs → lv_has ls 11 [(0, .ref (ad bs o)), (1, .int a1), (2, .int a2), (3, .int a3), (4, .int a4), (5, .int a5), (6, .int v6), (7, .int v7), (8, .int v8), (9, .int v9)] → W p l e ({ frames := 4, cells := 0, slots := 0, locals := 90 } : Room) s m args below meth c H locs 0 0 (MQ below (QI D cA bs (fun r u => u = (n, K, R, I, L) ∧ post r)) args s 0 0 (Ab bs)) (F0 m 28 ls [])) {v6 : Int32} {v7 : Int32} {v8 : Int32} {v9 : Int32} {H : Heap} {locs : List Loc} {ls : Array Slot} (hw : w_X12_costOf_84 I o a1 a2 a3 a4 a5 post k28 v6 v7 v8 v9) (hM : mm D cA bs (n, K, R, I, L) H) (hS : va_S (Ab bs) s.heap H locs) (hl : lv_has ls 11 [(0, .ref (ad bs o)), (1, .int a1), (2, .int a2), (3, .int a3), (4, .int a4), (5, .int a5), (6, .int v6), (7, .int v7), (8, .int v8), (9, .int v9)]) : W p l e ({ frames := 4, cells := 0, slots := 0, locals := 90 } : Room) s m args below meth c H locs 0 0 (MQ below (QI D cA bs (fun r u => u = (n, K, R, I, L) ∧ post r)) args s 0 0 (Ab bs)) (F0 m 84 ls []) := by
  have hx := E.1.1
  have hb := E.1.2.1
  refine lv_iconst (v := 1) hx hb dX12_costOf_84 (by decide) ?_
  refine lv_goto (tgt := 89) hx hb dX12_costOf_85 (by decide) ?_
  exact s_X12_costOf_89 E hr hlk ho hk28  hw hM hS (lv_sub hl [0, 1, 2, 3, 4, 5, 6, 7, 8, 9] rfl)
def w_X12_costOf_88 (I : mI) (o : Nat) (a1 : Int32) (a2 : Int32) (a3 : Int32) (a4 : Int32) (a5 : Int32) (post : Int32 → Prop) (k28 : Int32 → Int32 → Int32 → Int32 → Prop) (v6 : Int32) (v7 : Int32) (v8 : Int32) (v9 : Int32) : Prop := (w_X12_costOf_89 I o a1 a2 a3 a4 a5 post k28) v6 v7 v8 v9 0
set_option maxRecDepth 100000 in
set_option maxHeartbeats 4000000 in
theorem s_X12_costOf_88 {p : Program} {l : Launch} {e : Env} {s : State} {m : MethodId} {args : Array Value} {below : List Frame} {meth : Method} {c : Code} {D : va_G} {cA : Nat → ClassId} {Z : mZ} {bs : Ad} {n : Nat} {K : mK} {R : mR} {I : mI} {L : mL} (E : Ev p s m args c cX12_costOf 11 RX12 D cA Z bs) (hr : meth.sig.returnType = (some .int)) (hlk : meth.locks = false) {o : Nat} {a1 : Int32} {a2 : Int32} {a3 : Int32} {a4 : Int32} {a5 : Int32} (ho : isX12 K R o) {post : Int32 → Prop} {k28 : Int32 → Int32 → Int32 → Int32 → Prop} (hk28 : ∀ (v6 : Int32) (v7 : Int32) (v8 : Int32) (v9 : Int32) (H : Heap) (locs : List Loc) (ls : Array Slot), k28 v6 v7 v8 v9 → mm D cA bs (n, K, R, I, L) H → va_S (Ab bs) s.heap H locs → lv_has ls 11 [(0, .ref (ad bs o)), (1, .int a1), (2, .int a2), (3, .int a3), (4, .int a4), (5, .int a5), (6, .int v6), (7, .int v7), (8, .int v8), (9, .int v9)] → W p l e ({ frames := 4, cells := 0, slots := 0, locals := 90 } : Room) s m args below meth c H locs 0 0 (MQ below (QI D cA bs (fun r u => u = (n, K, R, I, L) ∧ post r)) args s 0 0 (Ab bs)) (F0 m 28 ls [])) {v6 : Int32} {v7 : Int32} {v8 : Int32} {v9 : Int32} {H : Heap} {locs : List Loc} {ls : Array Slot} (hw : w_X12_costOf_88 I o a1 a2 a3 a4 a5 post k28 v6 v7 v8 v9) (hM : mm D cA bs (n, K, R, I, L) H) (hS : va_S (Ab bs) s.heap H locs) (hl : lv_has ls 11 [(0, .ref (ad bs o)), (1, .int a1), (2, .int a2), (3, .int a3), (4, .int a4), (5, .int a5), (6, .int v6), (7, .int v7), (8, .int v8), (9, .int v9)]) : W p l e ({ frames := 4, cells := 0, slots := 0, locals := 90 } : Room) s m args below meth c H locs 0 0 (MQ below (QI D cA bs (fun r u => u = (n, K, R, I, L) ∧ post r)) args s 0 0 (Ab bs)) (F0 m 88 ls []) := by
  have hx := E.1.1
  have hb := E.1.2.1
  refine lv_iconst (v := 0) hx hb dX12_costOf_88 (by decide) ?_
  exact s_X12_costOf_89 E hr hlk ho hk28  hw hM hS (lv_sub hl [0, 1, 2, 3, 4, 5, 6, 7, 8, 9] rfl)
def w_X12_costOf_28 (I : mI) (o : Nat) (a1 : Int32) (a2 : Int32) (a3 : Int32) (a4 : Int32) (a5 : Int32) (post : Int32 → Prop) (k134 : Int32 → Int32 → Int32 → Prop) (v6 : Int32) (v7 : Int32) (v8 : Int32) (v9 : Int32) : Prop := ∀ ZZ : (Int32 → Int32 → Int32 → Int32 → Prop), (∀ (v6 : Int32) (v7 : Int32) (v8 : Int32) (v9 : Int32), (((I o 25) ≤ v9 → k134 v6 v7 v8) ∧ (¬ (I o 25) ≤ v9 → vp_in v9 640 ∧ ((I (o + 5) v9.toNatClampNeg) = a2 → vp_in v9 640 ∧ ((I (o + 6) v9.toNatClampNeg) < a3 → (w_X12_costOf_84 I o a1 a2 a3 a4 a5 post ZZ) v6 v7 v8 v9) ∧ (¬ (I (o + 6) v9.toNatClampNeg) < a3 → vp_in v9 640 ∧ (¬ (I (o + 6) v9.toNatClampNeg) = a3 → (w_X12_costOf_88 I o a1 a2 a3 a4 a5 post ZZ) v6 v7 v8 v9) ∧ ((I (o + 6) v9.toNatClampNeg) = a3 → vp_in v9 640 ∧ (a1 ≤ (I (o + 4) v9.toNatClampNeg) → (w_X12_costOf_88 I o a1 a2 a3 a4 a5 post ZZ) v6 v7 v8 v9) ∧ (¬ a1 ≤ (I (o + 4) v9.toNatClampNeg) → (w_X12_costOf_84 I o a1 a2 a3 a4 a5 post ZZ) v6 v7 v8 v9)))) ∧ (¬ (I (o + 5) v9.toNatClampNeg) = a2 → ∀ x4, x4 = v9 + 1 → ZZ v6 v7 v8 x4))) → ZZ v6 v7 v8 v9) → ZZ v6 v7 v8 v9
set_option maxRecDepth 100000 in
set_option maxHeartbeats 4000000 in
theorem s_X12_costOf_28 {p : Program} {l : Launch} {e : Env} {s : State} {m : MethodId} {args : Array Value} {below : List Frame} {meth : Method} {c : Code} {D : va_G} {cA : Nat → ClassId} {Z : mZ} {bs : Ad} {n : Nat} {K : mK} {R : mR} {I : mI} {L : mL} (E : Ev p s m args c cX12_costOf 11 RX12 D cA Z bs) (hr : meth.sig.returnType = (some .int)) (hlk : meth.locks = false) {o : Nat} {a1 : Int32} {a2 : Int32} {a3 : Int32} {a4 : Int32} {a5 : Int32} (ho : isX12 K R o) {post : Int32 → Prop} {k134 : Int32 → Int32 → Int32 → Prop} (hk134 : ∀ (v6 : Int32) (v7 : Int32) (v8 : Int32) (H : Heap) (locs : List Loc) (ls : Array Slot), k134 v6 v7 v8 → mm D cA bs (n, K, R, I, L) H → va_S (Ab bs) s.heap H locs → lv_has ls 11 [(0, .ref (ad bs o)), (2, .int a2), (3, .int a3), (4, .int a4), (5, .int a5), (6, .int v6), (7, .int v7), (8, .int v8)] → W p l e ({ frames := 4, cells := 0, slots := 0, locals := 90 } : Room) s m args below meth c H locs 0 0 (MQ below (QI D cA bs (fun r u => u = (n, K, R, I, L) ∧ post r)) args s 0 0 (Ab bs)) (F0 m 134 ls [])) {v6 : Int32} {v7 : Int32} {v8 : Int32} {v9 : Int32} {H : Heap} {locs : List Loc} {ls : Array Slot} (hw : w_X12_costOf_28 I o a1 a2 a3 a4 a5 post k134 v6 v7 v8 v9) (hM : mm D cA bs (n, K, R, I, L) H) (hS : va_S (Ab bs) s.heap H locs) (hl : lv_has ls 11 [(0, .ref (ad bs o)), (1, .int a1), (2, .int a2), (3, .int a3), (4, .int a4), (5, .int a5), (6, .int v6), (7, .int v7), (8, .int v8), (9, .int v9)]) : W p l e ({ frames := 4, cells := 0, slots := 0, locals := 90 } : Room) s m args below meth c H locs 0 0 (MQ below (QI D cA bs (fun r u => u = (n, K, R, I, L) ∧ post r)) args s 0 0 (Ab bs)) (F0 m 28 ls []) := by
  have hx := E.1.1
  have hb := E.1.2.1
  refine hw (fun v6 v7 v8 v9 => ∀ (H : Heap) (locs : List Loc) (ls : Array Slot), mm D cA bs (n, K, R, I, L) H → va_S (Ab bs) s.heap H locs → lv_has ls 11 [(0, .ref (ad bs o)), (1, .int a1), (2, .int a2), (3, .int a3), (4, .int a4), (5, .int a5), (6, .int v6), (7, .int v7), (8, .int v8), (9, .int v9)] → W p l e ({ frames := 4, cells := 0, slots := 0, locals := 90 } : Room) s m args below meth c H locs 0 0 (MQ below (QI D cA bs (fun r u => u = (n, K, R, I, L) ∧ post r)) args s 0 0 (Ab bs)) (F0 m 28 ls [])) ?_ H locs ls hM hS hl
  clear hw hM hS hl
  intro v6 v7 v8 v9 hw H locs ls hM hS hl
  refine lv_iload hx hb dX12_costOf_28 (lv_at hl 9 rfl) ?_
  refine lv_aload_n hx hb dX12_costOf_30 rfl (lv_at hl 0 rfl) ?_
  refine m_geti E hM fs_X12_262 ho.1 dX12_costOf_31 ?_
  refine lv_icmp_ge (tgt := 134) hx hb dX12_costOf_34 (by decide) (fun cq => ?_) (fun cq => ?_)
  · have hw := hw.1 cq
    exact hk134 _ _ _ H locs ls  hw hM hS (lv_sub hl [0, 2, 3, 4, 5, 6, 7, 8] rfl)
  · have hw := hw.2 cq
    refine lv_aload_n hx hb dX12_costOf_37 rfl (lv_at hl 0 rfl) ?_
    refine m_getr E hM fs_X12_23 ho.1 (isO_at ho 4 rfl).1 dX12_costOf_38 ?_
    refine lv_iload hx hb dX12_costOf_41 (lv_at hl 9 rfl) ?_
    obtain ⟨hv, hw⟩ := hw
    refine m_iald E hM (isO_at ho 4 rfl).2 hv dX12_costOf_43 ?_
    refine lv_iload_n hx hb dX12_costOf_44 rfl (lv_at hl 2 rfl) ?_
    refine lv_icmp_eq (tgt := 51) hx hb dX12_costOf_45 (by decide) (fun cq => ?_) (fun cq => ?_)
    · have hw := hw.1 cq
      refine lv_aload_n hx hb dX12_costOf_51 rfl (lv_at hl 0 rfl) ?_
      refine m_getr E hM fs_X12_26 ho.1 (isO_at ho 5 rfl).1 dX12_costOf_52 ?_
      refine lv_iload hx hb dX12_costOf_55 (lv_at hl 9 rfl) ?_
      obtain ⟨hv, hw⟩ := hw
      refine m_iald E hM (isO_at ho 5 rfl).2 hv dX12_costOf_57 ?_
      refine lv_iload_n hx hb dX12_costOf_58 rfl (lv_at hl 3 rfl) ?_
      refine lv_icmp_lt (tgt := 84) hx hb dX12_costOf_59 (by decide) (fun cq => ?_) (fun cq => ?_)
      · have hw := hw.1 cq
        exact s_X12_costOf_84 E hr hlk ho (fun v6 v7 v8 v9 H locs ls  hw hM hS hl => hw H locs ls  hM hS hl)  hw hM hS (lv_sub hl [0, 1, 2, 3, 4, 5, 6, 7, 8, 9] rfl)
      · have hw := hw.2 cq
        refine lv_aload_n hx hb dX12_costOf_62 rfl (lv_at hl 0 rfl) ?_
        refine m_getr E hM fs_X12_26 ho.1 (isO_at ho 5 rfl).1 dX12_costOf_63 ?_
        refine lv_iload hx hb dX12_costOf_66 (lv_at hl 9 rfl) ?_
        obtain ⟨hv, hw⟩ := hw
        refine m_iald E hM (isO_at ho 5 rfl).2 hv dX12_costOf_68 ?_
        refine lv_iload_n hx hb dX12_costOf_69 rfl (lv_at hl 3 rfl) ?_
        refine lv_icmp_ne (tgt := 88) hx hb dX12_costOf_70 (by decide) (fun cq => ?_) (fun cq => ?_)
        · have hw := hw.1 cq
          exact s_X12_costOf_88 E hr hlk ho (fun v6 v7 v8 v9 H locs ls  hw hM hS hl => hw H locs ls  hM hS hl)  hw hM hS (lv_sub hl [0, 1, 2, 3, 4, 5, 6, 7, 8, 9] rfl)
        · have hw := hw.2 cq
          refine lv_aload_n hx hb dX12_costOf_73 rfl (lv_at hl 0 rfl) ?_
          refine m_getr E hM fs_X12_20 ho.1 (isO_at ho 3 rfl).1 dX12_costOf_74 ?_
          refine lv_iload hx hb dX12_costOf_77 (lv_at hl 9 rfl) ?_
          obtain ⟨hv, hw⟩ := hw
          refine m_iald E hM (isO_at ho 3 rfl).2 hv dX12_costOf_79 ?_
          refine lv_iload_n hx hb dX12_costOf_80 rfl (lv_at hl 1 rfl) ?_
          refine lv_icmp_ge (tgt := 88) hx hb dX12_costOf_81 (by decide) (fun cq => ?_) (fun cq => ?_)
          · have hw := hw.1 cq
            exact s_X12_costOf_88 E hr hlk ho (fun v6 v7 v8 v9 H locs ls  hw hM hS hl => hw H locs ls  hM hS hl)  hw hM hS (lv_sub hl [0, 1, 2, 3, 4, 5, 6, 7, 8, 9] rfl)
          · have hw := hw.2 cq
            exact s_X12_costOf_84 E hr hlk ho (fun v6 v7 v8 v9 H locs ls  hw hM hS hl => hw H locs ls  hM hS hl)  hw hM hS (lv_sub hl [0, 1, 2, 3, 4, 5, 6, 7, 8, 9] rfl)
    · have hw := hw.2 cq
      refine lv_goto (tgt := 128) hx hb dX12_costOf_48 (by decide) ?_
      obtain ⟨x4, ex4⟩ : ∃ y : Int32, y = v9 + 1 := ⟨_, rfl⟩
      have hw := hw x4 ex4
      refine lv_iinc (v := x4) (lv' := [(9, .int x4), (0, .ref (ad bs o)), (1, .int a1), (2, .int a2), (3, .int a3), (4, .int a4), (5, .int a5), (6, .int v6), (7, .int v7), (8, .int v8)]) hx hb dX12_costOf_128 hl (k := 9) rfl (by rw [ex4]; rfl) (by decide) rfl (fun ls hl => ?_)
      refine lv_goto (tgt := 28) hx hb dX12_costOf_131 (by decide) ?_
      exact hw H locs ls  hM hS (lv_sub hl [1, 2, 3, 4, 5, 6, 7, 8, 9, 0] rfl)
def w_X12_costOf_176 (I : mI) (o : Nat) (a1 : Int32) (a2 : Int32) (a3 : Int32) (a4 : Int32) (a5 : Int32) (post : Int32 → Prop) (v6 : Int32) (v8 : Int32) : Prop := (¬ (v6 &&& a4) = 0 → (a5 = 0 → post 1000000) ∧ (¬ a5 = 0 → (v8 = 0 → post 1) ∧ (¬ v8 = 0 → post 0))) ∧ ((v6 &&& a4) = 0 → post 0)
set_option maxRecDepth 100000 in
set_option maxHeartbeats 4000000 in
theorem s_X12_costOf_176 {p : Program} {l : Launch} {e : Env} {s : State} {m : MethodId} {args : Array Value} {below : List Frame} {meth : Method} {c : Code} {D : va_G} {cA : Nat → ClassId} {Z : mZ} {bs : Ad} {n : Nat} {K : mK} {R : mR} {I : mI} {L : mL} (E : Ev p s m args c cX12_costOf 11 RX12 D cA Z bs) (hr : meth.sig.returnType = (some .int)) (hlk : meth.locks = false) {o : Nat} {a1 : Int32} {a2 : Int32} {a3 : Int32} {a4 : Int32} {a5 : Int32} (ho : isX12 K R o) {post : Int32 → Prop} {v6 : Int32} {v8 : Int32} {H : Heap} {locs : List Loc} {ls : Array Slot} (hw : w_X12_costOf_176 I o a1 a2 a3 a4 a5 post v6 v8) (hM : mm D cA bs (n, K, R, I, L) H) (hS : va_S (Ab bs) s.heap H locs) (hl : lv_has ls 11 [(4, .int a4), (5, .int a5), (6, .int v6), (8, .int v8)]) : W p l e ({ frames := 4, cells := 0, slots := 0, locals := 90 } : Room) s m args below meth c H locs 0 0 (MQ below (QI D cA bs (fun r u => u = (n, K, R, I, L) ∧ post r)) args s 0 0 (Ab bs)) (F0 m 176 ls []) := by
  have hx := E.1.1
  have hb := E.1.2.1
  refine lv_iload hx hb dX12_costOf_176 (lv_at hl 2 rfl) ?_
  refine lv_iload hx hb dX12_costOf_178 (lv_at hl 0 rfl) ?_
  refine lv_iand hx hb dX12_costOf_180 ?_
  refine lv_if_ne (tgt := 186) hx hb dX12_costOf_181 (by decide) (fun cq => ?_) (fun cq => ?_)
  · have hw := hw.1 cq
    refine lv_iload hx hb dX12_costOf_186 (lv_at hl 1 rfl) ?_
    refine lv_if_eq (tgt := 204) hx hb dX12_costOf_188 (by decide) (fun cq => ?_) (fun cq => ?_)
    · have hw := hw.1 cq
      refine lv_ldcw (v := 1000000) hx hb E.1.2.2.2.1 (E.1.2.2.2.2 _ (gw_of 1726 (by decide +kernel) (by decide +kernel))) dX12_costOf_204 ?_
      exact m_reti hx hb hr hlk hM hS ⟨rfl, hw⟩ dX12_costOf_207
    · have hw := hw.2 cq
      refine lv_iload hx hb dX12_costOf_191 (lv_at hl 3 rfl) ?_
      refine lv_if_eq (tgt := 200) hx hb dX12_costOf_193 (by decide) (fun cq => ?_) (fun cq => ?_)
      · have hw := hw.1 cq
        refine lv_iconst (v := 1) hx hb dX12_costOf_200 (by decide) ?_
        refine lv_goto (tgt := 207) hx hb dX12_costOf_201 (by decide) ?_
        exact m_reti hx hb hr hlk hM hS ⟨rfl, hw⟩ dX12_costOf_207
      · have hw := hw.2 cq
        refine lv_iconst (v := 0) hx hb dX12_costOf_196 (by decide) ?_
        refine lv_goto (tgt := 207) hx hb dX12_costOf_197 (by decide) ?_
        exact m_reti hx hb hr hlk hM hS ⟨rfl, hw⟩ dX12_costOf_207
  · have hw := hw.2 cq
    refine lv_iconst (v := 0) hx hb dX12_costOf_184 (by decide) ?_
    exact m_reti hx hb hr hlk hM hS ⟨rfl, hw⟩ dX12_costOf_185
def w_X12_costOf_134 (I : mI) (o : Nat) (a1 : Int32) (a2 : Int32) (a3 : Int32) (a4 : Int32) (a5 : Int32) (post : Int32 → Prop) (v6 : Int32) (v7 : Int32) (v8 : Int32) : Prop := (v7 = (-1) → (w_X12_costOf_176 I o a1 a2 a3 a4 a5 post) v6 v8) ∧ (¬ v7 = (-1) → vp_in v7 640 ∧ w_X12_of I o 1 (fun r8 => (r8 < (a3 - (I (o + 6) v7.toNatClampNeg)) → (w_X12_costOf_176 I o a1 a2 a3 a4 a5 post) v6 v8) ∧ (¬ r8 < (a3 - (I (o + 6) v7.toNatClampNeg)) → vp_in v7 640 ∧ w_X12_ears I o ((I (o + 8) v7.toNatClampNeg) / 2) a2 (fun r9 => ∀ x10, x10 = (v6 ||| r9) → (w_X12_costOf_176 I o a1 a2 a3 a4 a5 post) x10 v8))))
set_option maxRecDepth 100000 in
set_option maxHeartbeats 4000000 in
theorem s_X12_costOf_134 {p : Program} {l : Launch} {e : Env} {s : State} {m : MethodId} {args : Array Value} {below : List Frame} {meth : Method} {c : Code} {D : va_G} {cA : Nat → ClassId} {Z : mZ} {bs : Ad} {n : Nat} {K : mK} {R : mR} {I : mI} {L : mL} (E : Ev p s m args c cX12_costOf 11 RX12 D cA Z bs) (hr : meth.sig.returnType = (some .int)) (hlk : meth.locks = false) {o : Nat} {a1 : Int32} {a2 : Int32} {a3 : Int32} {a4 : Int32} {a5 : Int32} (ho : isX12 K R o) {post : Int32 → Prop} {v6 : Int32} {v7 : Int32} {v8 : Int32} {H : Heap} {locs : List Loc} {ls : Array Slot} (hw : w_X12_costOf_134 I o a1 a2 a3 a4 a5 post v6 v7 v8) (hM : mm D cA bs (n, K, R, I, L) H) (hS : va_S (Ab bs) s.heap H locs) (hl : lv_has ls 11 [(0, .ref (ad bs o)), (2, .int a2), (3, .int a3), (4, .int a4), (5, .int a5), (6, .int v6), (7, .int v7), (8, .int v8)]) : W p l e ({ frames := 4, cells := 0, slots := 0, locals := 90 } : Room) s m args below meth c H locs 0 0 (MQ below (QI D cA bs (fun r u => u = (n, K, R, I, L) ∧ post r)) args s 0 0 (Ab bs)) (F0 m 134 ls []) := by
  have hx := E.1.1
  have hb := E.1.2.1
  refine lv_iload hx hb dX12_costOf_134 (lv_at hl 6 rfl) ?_
  refine lv_iconst (v := (-1)) hx hb dX12_costOf_136 (by decide) ?_
  refine lv_icmp_eq (tgt := 176) hx hb dX12_costOf_137 (by decide) (fun cq => ?_) (fun cq => ?_)
  · have hw := hw.1 cq
    exact s_X12_costOf_176 E hr hlk ho  hw hM hS (lv_sub hl [3, 4, 5, 7] rfl)
  · have hw := hw.2 cq
    refine lv_iload_n hx hb dX12_costOf_140 rfl (lv_at hl 2 rfl) ?_
    refine lv_aload_n hx hb dX12_costOf_141 rfl (lv_at hl 0 rfl) ?_
    refine m_getr E hM fs_X12_26 ho.1 (isO_at ho 5 rfl).1 dX12_costOf_142 ?_
    refine lv_iload hx hb dX12_costOf_145 (lv_at hl 6 rfl) ?_
    obtain ⟨hv, hw⟩ := hw
    refine m_iald E hM (isO_at ho 5 rfl).2 hv dX12_costOf_147 ?_
    refine lv_isub hx hb dX12_costOf_148 ?_
    refine lv_aload_n hx hb dX12_costOf_149 rfl (lv_at hl 0 rfl) ?_
    refine lv_iconst (v := 1) hx hb dX12_costOf_150 (by decide) ?_
    refine m_ci (m_runV E hM hS cs_X12_205 ho.1 (by decide) rfl rfl (c_X12_of ho hw) rfl rfl ⟨Nat.le_of_ble_eq_true rfl, Nat.le_of_ble_eq_true rfl⟩ rfl hl.1 rfl (Nat.le_of_ble_eq_true rfl) dX12_costOf_151 ⟨Nat.le_of_ble_eq_true rfl, Nat.le_of_ble_eq_true rfl⟩) hS (fun r8 u H locs hp hM hS => ?_)
    obtain ⟨rfl, hw⟩ := hp
    refine lv_icmp_gt (tgt := 176) hx hb dX12_costOf_154 (by decide) (fun cq => ?_) (fun cq => ?_)
    · have hw := hw.1 cq
      exact s_X12_costOf_176 E hr hlk ho  hw hM hS (lv_sub hl [3, 4, 5, 7] rfl)
    · have hw := hw.2 cq
      refine lv_iload hx hb dX12_costOf_157 (lv_at hl 5 rfl) ?_
      refine lv_aload_n hx hb dX12_costOf_159 rfl (lv_at hl 0 rfl) ?_
      refine lv_aload_n hx hb dX12_costOf_160 rfl (lv_at hl 0 rfl) ?_
      refine m_getr E hM fs_X12_32 ho.1 (isO_at ho 7 rfl).1 dX12_costOf_161 ?_
      refine lv_iload hx hb dX12_costOf_164 (lv_at hl 6 rfl) ?_
      obtain ⟨hv, hw⟩ := hw
      refine m_iald E hM (isO_at ho 7 rfl).2 hv dX12_costOf_166 ?_
      refine lv_iconst (v := 2) hx hb dX12_costOf_167 (by decide) ?_
      refine lv_idiv hx hb dX12_costOf_168 (by decide) ?_
      refine lv_iload_n hx hb dX12_costOf_169 rfl (lv_at hl 1 rfl) ?_
      refine m_ci (m_runV E hM hS cs_X12_275 ho.1 (by decide) rfl rfl (c_X12_ears ho hw) rfl rfl ⟨Nat.le_of_ble_eq_true rfl, Nat.le_of_ble_eq_true rfl⟩ rfl hl.1 rfl (Nat.le_of_ble_eq_true rfl) dX12_costOf_170 ⟨Nat.le_of_ble_eq_true rfl, Nat.le_of_ble_eq_true rfl⟩) hS (fun r9 u H locs hp hM hS => ?_)
      obtain ⟨rfl, hw⟩ := hp
      refine lv_ior hx hb dX12_costOf_173 ?_
      refine lv_topi (fun x10 ex10 => ?_)
      have hw := hw x10 ex10
      refine lv_istore (lv' := [(6, .int x10), (0, .ref (ad bs o)), (2, .int a2), (3, .int a3), (4, .int a4), (5, .int a5), (7, .int v7), (8, .int v8)]) hx hb dX12_costOf_174 hl (by decide) rfl (fun ls hl => ?_)
      exact s_X12_costOf_176 E hr hlk ho  hw hM hS (lv_sub hl [4, 5, 0, 7] rfl)
def w_X12_costOf (I : mI) (o : Nat) (a1 : Int32) (a2 : Int32) (a3 : Int32) (a4 : Int32) (a5 : Int32) (post : Int32 → Prop) : Prop := w_X12_shoeOf I o a1 a3 (fun r1 => w_X12_loudBy I o a1 r1 a2 (fun r2 => w_X12_ears I o r2 a2 (fun r3 => (w_X12_costOf_28 I o a1 a2 a3 a4 a5 post (w_X12_costOf_134 I o a1 a2 a3 a4 a5 post)) r3 (-1) 0 0)))
set_option maxRecDepth 100000 in
set_option maxHeartbeats 4000000 in
theorem c_X12_costOf {l : Launch} {D : va_G} {cA : Nat → ClassId} {Z : mZ} {bs : Ad} {n : Nat} {K : mK} {R : mR} {I : mI} {L : mL} {o : Nat} {a1 : Int32} {a2 : Int32} {a3 : Int32} {a4 : Int32} {a5 : Int32} {post : Int32 → Prop} (ho : isX12 K R o) (hw : w_X12_costOf I o a1 a2 a3 a4 a5 post) : Met l yX12_costOf (.code yX12_costOf cX12_costOf 11 (some .int) :: gw) ({ frames := 4, cells := 0, slots := 0, locals := 90 } : Room) (PreM D cA Z bs (n, K, R, I, L) [.ref (ad bs o), .int a1, .int a2, .int a3, .int a4, .int a5]) (QI D cA bs (fun r u => u = (n, K, R, I, L) ∧ post r)) 0 0 (Ab bs) := by
  refine m_met (by decide) (Nat.le_of_ble_eq_true rfl) (fun p e s m below meth c ls E hr hlk hM hS hl => ?_)
  have E : Ev p s m _ c cX12_costOf 11 RX12 D cA Z bs := E
  have hl : lv_has ls 11 [(0, .ref (ad bs o)), (1, .int a1), (2, .int a2), (3, .int a3), (4, .int a4), (5, .int a5)] := hl
  have hx := E.1.1
  have hb := E.1.2.1
  generalize hHe : s.heap = H at hM ⊢
  have hS : va_S (Ab bs) s.heap H [] := by rw [← hHe]; exact va_S.rf
  clear hHe
  refine lv_aload_n hx hb dX12_costOf_0 rfl (lv_at hl 0 rfl) ?_
  refine lv_aload_n hx hb dX12_costOf_1 rfl (lv_at hl 0 rfl) ?_
  refine lv_iload_n hx hb dX12_costOf_2 rfl (lv_at hl 1 rfl) ?_
  refine lv_aload_n hx hb dX12_costOf_3 rfl (lv_at hl 0 rfl) ?_
  refine lv_iload_n hx hb dX12_costOf_4 rfl (lv_at hl 1 rfl) ?_
  refine lv_iload_n hx hb dX12_costOf_5 rfl (lv_at hl 3 rfl) ?_
  refine m_ci (m_runV E hM hS cs_X12_268 ho.1 (by decide) rfl rfl (c_X12_shoeOf ho hw) rfl rfl ⟨Nat.le_of_ble_eq_true rfl, Nat.le_of_ble_eq_true rfl⟩ rfl hl.1 rfl (Nat.le_of_ble_eq_true rfl) dX12_costOf_6 ⟨Nat.le_of_ble_eq_true rfl, Nat.le_of_ble_eq_true rfl⟩) hS (fun r1 u H locs hp hM hS => ?_)
  obtain ⟨rfl, hw⟩ := hp
  refine lv_iload_n hx hb dX12_costOf_9 rfl (lv_at hl 2 rfl) ?_
  refine m_ci (m_runV E hM hS cs_X12_271 ho.1 (by decide) rfl rfl (c_X12_loudBy ho hw) rfl rfl ⟨Nat.le_of_ble_eq_true rfl, Nat.le_of_ble_eq_true rfl⟩ rfl hl.1 rfl (Nat.le_of_ble_eq_true rfl) dX12_costOf_10 ⟨Nat.le_of_ble_eq_true rfl, Nat.le_of_ble_eq_true rfl⟩) hS (fun r2 u H locs hp hM hS => ?_)
  obtain ⟨rfl, hw⟩ := hp
  refine lv_iload_n hx hb dX12_costOf_13 rfl (lv_at hl 2 rfl) ?_
  refine m_ci (m_runV E hM hS cs_X12_275 ho.1 (by decide) rfl rfl (c_X12_ears ho hw) rfl rfl ⟨Nat.le_of_ble_eq_true rfl, Nat.le_of_ble_eq_true rfl⟩ rfl hl.1 rfl (Nat.le_of_ble_eq_true rfl) dX12_costOf_14 ⟨Nat.le_of_ble_eq_true rfl, Nat.le_of_ble_eq_true rfl⟩) hS (fun r3 u H locs hp hM hS => ?_)
  obtain ⟨rfl, hw⟩ := hp
  refine lv_istore (lv' := [(6, .int r3), (0, .ref (ad bs o)), (1, .int a1), (2, .int a2), (3, .int a3), (4, .int a4), (5, .int a5)]) hx hb dX12_costOf_17 hl (by decide) rfl (fun ls hl => ?_)
  refine lv_iconst (v := (-1)) hx hb dX12_costOf_19 (by decide) ?_
  refine lv_istore (lv' := [(7, .int (-1)), (6, .int r3), (0, .ref (ad bs o)), (1, .int a1), (2, .int a2), (3, .int a3), (4, .int a4), (5, .int a5)]) hx hb dX12_costOf_20 hl (by decide) rfl (fun ls hl => ?_)
  refine lv_iconst (v := 0) hx hb dX12_costOf_22 (by decide) ?_
  refine lv_istore (lv' := [(8, .int 0), (7, .int (-1)), (6, .int r3), (0, .ref (ad bs o)), (1, .int a1), (2, .int a2), (3, .int a3), (4, .int a4), (5, .int a5)]) hx hb dX12_costOf_23 hl (by decide) rfl (fun ls hl => ?_)
  refine lv_iconst (v := 0) hx hb dX12_costOf_25 (by decide) ?_
  refine lv_istore (lv' := [(9, .int 0), (8, .int 0), (7, .int (-1)), (6, .int r3), (0, .ref (ad bs o)), (1, .int a1), (2, .int a2), (3, .int a3), (4, .int a4), (5, .int a5)]) hx hb dX12_costOf_26 hl (by decide) rfl (fun ls hl => ?_)
  exact s_X12_costOf_28 E hr hlk ho (fun v6 v7 v8 H locs ls  hw hM hS hl => s_X12_costOf_134 E hr hlk ho  hw hM hS hl)  hw hM hS (lv_sub hl [4, 5, 6, 7, 8, 9, 3, 2, 1, 0] rfl)
theorem dX12_costs_0 : decode cX12_costs 0 = .ok (.aload_n 0, 1) := by decide +kernel
theorem dX12_costs_1 : decode cX12_costs 1 = .ok (.iload_n 1, 1) := by decide +kernel
theorem dX12_costs_2 : decode cX12_costs 2 = .ok (.putfield 226, 3) := by decide +kernel
theorem dX12_costs_5 : decode cX12_costs 5 = .ok (.aload_n 0, 1) := by decide +kernel
theorem dX12_costs_6 : decode cX12_costs 6 = .ok (.invokevirtual 306, 3) := by decide +kernel
theorem dX12_costs_9 : decode cX12_costs 9 = .ok (.iconst 1, 1) := by decide +kernel
theorem dX12_costs_10 : decode cX12_costs 10 = .ok (.istore 5, 2) := by decide +kernel
theorem dX12_costs_12 : decode cX12_costs 12 = .ok (.iload 5, 2) := by decide +kernel
theorem dX12_costs_14 : decode cX12_costs 14 = .ok (.bipush 60, 2) := by decide +kernel
theorem dX12_costs_16 : decode cX12_costs 16 = .ok (.if_icmp .gt 55, 3) := by decide +kernel
theorem dX12_costs_19 : decode cX12_costs 19 = .ok (.iconst 0, 1) := by decide +kernel
theorem dX12_costs_20 : decode cX12_costs 20 = .ok (.istore 6, 2) := by decide +kernel
theorem dX12_costs_22 : decode cX12_costs 22 = .ok (.iload 6, 2) := by decide +kernel
theorem dX12_costs_24 : decode cX12_costs 24 = .ok (.aload_n 0, 1) := by decide +kernel
theorem dX12_costs_25 : decode cX12_costs 25 = .ok (.iconst 0, 1) := by decide +kernel
theorem dX12_costs_26 : decode cX12_costs 26 = .ok (.invokevirtual 205, 3) := by decide +kernel
theorem dX12_costs_29 : decode cX12_costs 29 = .ok (.if_icmp .ge 36, 3) := by decide +kernel
theorem dX12_costs_32 : decode cX12_costs 32 = .ok (.aload_n 0, 1) := by decide +kernel
theorem dX12_costs_33 : decode cX12_costs 33 = .ok (.getfield 56, 3) := by decide +kernel
theorem dX12_costs_36 : decode cX12_costs 36 = .ok (.bipush 24, 2) := by decide +kernel
theorem dX12_costs_38 : decode cX12_costs 38 = .ok (.iload 5, 2) := by decide +kernel
theorem dX12_costs_40 : decode cX12_costs 40 = .ok (.imul, 1) := by decide +kernel
theorem dX12_costs_41 : decode cX12_costs 41 = .ok (.iload 6, 2) := by decide +kernel
theorem dX12_costs_43 : decode cX12_costs 43 = .ok (.iadd, 1) := by decide +kernel
theorem dX12_costs_44 : decode cX12_costs 44 = .ok (.aload_n 0, 1) := by decide +kernel
theorem dX12_costs_45 : decode cX12_costs 45 = .ok (.iload_n 1, 1) := by decide +kernel
theorem dX12_costs_46 : decode cX12_costs 46 = .ok (.iload 6, 2) := by decide +kernel
theorem dX12_costs_48 : decode cX12_costs 48 = .ok (.iload_n 2, 1) := by decide +kernel
theorem dX12_costs_49 : decode cX12_costs 49 = .ok (.iload 5, 2) := by decide +kernel
theorem dX12_costs_51 : decode cX12_costs 51 = .ok (.iadd, 1) := by decide +kernel
theorem dX12_costs_52 : decode cX12_costs 52 = .ok (.iload_n 3, 1) := by decide +kernel
theorem dX12_costs_53 : decode cX12_costs 53 = .ok (.iload 4, 2) := by decide +kernel
theorem dX12_costs_55 : decode cX12_costs 55 = .ok (.invokevirtual 331, 3) := by decide +kernel
theorem dX12_costs_58 : decode cX12_costs 58 = .ok (.iastore, 1) := by decide +kernel
theorem dX12_costs_59 : decode cX12_costs 59 = .ok (.iinc 6 1, 3) := by decide +kernel
theorem dX12_costs_62 : decode cX12_costs 62 = .ok (.goto (-40), 3) := by decide +kernel
theorem dX12_costs_65 : decode cX12_costs 65 = .ok (.iinc 5 1, 3) := by decide +kernel
theorem dX12_costs_68 : decode cX12_costs 68 = .ok (.goto (-56), 3) := by decide +kernel
theorem dX12_costs_71 : decode cX12_costs 71 = .ok (.return_, 1) := by decide +kernel
def w_X12_costs_22 (o : Nat) (a1 : Int32) (a2 : Int32) (a3 : Int32) (a4 : Int32) (post : mI → Prop) (k12 : mI → Int32 → Prop) (I : mI) (v5 : Int32) (v6 : Int32) : Prop := ∀ ZZ : (mI → Int32 → Int32 → Prop), (∀ (I : mI) (v5 : Int32) (v6 : Int32), (w_X12_of I o 0 (fun r3 => (r3 ≤ v6 → ∀ x4, x4 = v5 + 1 → k12 I x4) ∧ (¬ r3 ≤ v6 → w_X12_costOf I o a1 v6 (a2 + v5) a3 a4 (fun r5 => vp_in ((24 * v5) + v6) 1464 ∧ ∀ I6, I6 = up2 I (o + 16) (((24 * v5) + v6).toNatClampNeg) r5 → ∀ x7, x7 = v6 + 1 → ZZ I6 v5 x7)))) → ZZ I v5 v6) → ZZ I v5 v6
set_option maxRecDepth 100000 in
set_option maxHeartbeats 4000000 in
theorem s_X12_costs_22 {p : Program} {l : Launch} {e : Env} {s : State} {m : MethodId} {args : Array Value} {below : List Frame} {meth : Method} {c : Code} {D : va_G} {cA : Nat → ClassId} {Z : mZ} {bs : Ad} {n : Nat} {K : mK} {R : mR} {L : mL} (E : Ev p s m args c cX12_costs 7 RX12 D cA Z bs) (hr : meth.sig.returnType = none) (hlk : meth.locks = false) {o : Nat} {a1 : Int32} {a2 : Int32} {a3 : Int32} {a4 : Int32} (ho : isX12 K R o) {post : mI → Prop} {k12 : mI → Int32 → Prop} (hk12 : ∀ (I : mI) (v5 : Int32) (H : Heap) (locs : List Loc) (ls : Array Slot), k12 I v5 → mm D cA bs (n, K, R, I, L) H → va_S (Ab bs) s.heap H locs → lv_has ls 7 [(0, .ref (ad bs o)), (1, .int a1), (2, .int a2), (3, .int a3), (4, .int a4), (5, .int v5)] → W p l e ({ frames := 7, cells := 0, slots := 0, locals := 159 } : Room) s m args below meth c H locs 0 0 (MQ below (QV D cA bs (fun u => ∃ I', u = (n, K, R, I', L) ∧ post I')) args s 0 0 (Ab bs)) (F0 m 12 ls [])) {I : mI} {v5 : Int32} {v6 : Int32} {H : Heap} {locs : List Loc} {ls : Array Slot} (hw : w_X12_costs_22 o a1 a2 a3 a4 post k12 I v5 v6) (hM : mm D cA bs (n, K, R, I, L) H) (hS : va_S (Ab bs) s.heap H locs) (hl : lv_has ls 7 [(0, .ref (ad bs o)), (1, .int a1), (2, .int a2), (3, .int a3), (4, .int a4), (5, .int v5), (6, .int v6)]) : W p l e ({ frames := 7, cells := 0, slots := 0, locals := 159 } : Room) s m args below meth c H locs 0 0 (MQ below (QV D cA bs (fun u => ∃ I', u = (n, K, R, I', L) ∧ post I')) args s 0 0 (Ab bs)) (F0 m 22 ls []) := by
  have hx := E.1.1
  have hb := E.1.2.1
  refine hw (fun I v5 v6 => ∀ (H : Heap) (locs : List Loc) (ls : Array Slot), mm D cA bs (n, K, R, I, L) H → va_S (Ab bs) s.heap H locs → lv_has ls 7 [(0, .ref (ad bs o)), (1, .int a1), (2, .int a2), (3, .int a3), (4, .int a4), (5, .int v5), (6, .int v6)] → W p l e ({ frames := 7, cells := 0, slots := 0, locals := 159 } : Room) s m args below meth c H locs 0 0 (MQ below (QV D cA bs (fun u => ∃ I', u = (n, K, R, I', L) ∧ post I')) args s 0 0 (Ab bs)) (F0 m 22 ls [])) ?_ H locs ls hM hS hl
  clear hw hM hS hl
  intro I v5 v6 hw H locs ls hM hS hl
  refine lv_iload hx hb dX12_costs_22 (lv_at hl 6 rfl) ?_
  refine lv_aload_n hx hb dX12_costs_24 rfl (lv_at hl 0 rfl) ?_
  refine lv_iconst (v := 0) hx hb dX12_costs_25 (by decide) ?_
  refine m_ci (m_runV E hM hS cs_X12_205 ho.1 (by decide) rfl rfl (c_X12_of ho hw) rfl rfl ⟨Nat.le_of_ble_eq_true rfl, Nat.le_of_ble_eq_true rfl⟩ rfl hl.1 rfl (Nat.le_of_ble_eq_true rfl) dX12_costs_26 ⟨Nat.le_of_ble_eq_true rfl, Nat.le_of_ble_eq_true rfl⟩) hS (fun r3 u H locs hp hM hS => ?_)
  obtain ⟨rfl, hw⟩ := hp
  refine lv_icmp_ge (tgt := 65) hx hb dX12_costs_29 (by decide) (fun cq => ?_) (fun cq => ?_)
  · have hw := hw.1 cq
    obtain ⟨x4, ex4⟩ : ∃ y : Int32, y = v5 + 1 := ⟨_, rfl⟩
    have hw := hw x4 ex4
    refine lv_iinc (v := x4) (lv' := [(5, .int x4), (0, .ref (ad bs o)), (1, .int a1), (2, .int a2), (3, .int a3), (4, .int a4), (6, .int v6)]) hx hb dX12_costs_65 hl (k := 5) rfl (by rw [ex4]; rfl) (by decide) rfl (fun ls hl => ?_)
    refine lv_goto (tgt := 12) hx hb dX12_costs_68 (by decide) ?_
    exact hk12 _ _ H locs ls  hw hM hS (lv_sub hl [1, 2, 3, 4, 5, 0] rfl)
  · have hw := hw.2 cq
    refine lv_aload_n hx hb dX12_costs_32 rfl (lv_at hl 0 rfl) ?_
    refine m_getr E hM fs_X12_56 ho.1 (isO_at ho 15 rfl).1 dX12_costs_33 ?_
    refine lv_bipush (v := 24) hx hb dX12_costs_36 (by decide) ?_
    refine lv_iload hx hb dX12_costs_38 (lv_at hl 5 rfl) ?_
    refine lv_imul hx hb dX12_costs_40 ?_
    refine lv_iload hx hb dX12_costs_41 (lv_at hl 6 rfl) ?_
    refine lv_iadd hx hb dX12_costs_43 ?_
    refine lv_aload_n hx hb dX12_costs_44 rfl (lv_at hl 0 rfl) ?_
    refine lv_iload_n hx hb dX12_costs_45 rfl (lv_at hl 1 rfl) ?_
    refine lv_iload hx hb dX12_costs_46 (lv_at hl 6 rfl) ?_
    refine lv_iload_n hx hb dX12_costs_48 rfl (lv_at hl 2 rfl) ?_
    refine lv_iload hx hb dX12_costs_49 (lv_at hl 5 rfl) ?_
    refine lv_iadd hx hb dX12_costs_51 ?_
    refine lv_iload_n hx hb dX12_costs_52 rfl (lv_at hl 3 rfl) ?_
    refine lv_iload hx hb dX12_costs_53 (lv_at hl 4 rfl) ?_
    refine m_ci (m_runV E hM hS cs_X12_331 ho.1 (by decide) rfl rfl (c_X12_costOf ho hw) rfl rfl ⟨Nat.le_of_ble_eq_true rfl, Nat.le_of_ble_eq_true rfl⟩ rfl hl.1 rfl (Nat.le_of_ble_eq_true rfl) dX12_costs_55 ⟨Nat.le_of_ble_eq_true rfl, Nat.le_of_ble_eq_true rfl⟩) hS (fun r5 u H locs hp hM hS => ?_)
    obtain ⟨rfl, hw⟩ := hp
    obtain ⟨hv, hw⟩ := hw
    refine m_iast E hM hS (isO_at ho 15 rfl).2 hv dX12_costs_58 (fun I6 H locs eI6 hM hS => ?_)
    have hw := hw I6 eI6
    obtain ⟨x7, ex7⟩ : ∃ y : Int32, y = v6 + 1 := ⟨_, rfl⟩
    have hw := hw x7 ex7
    refine lv_iinc (v := x7) (lv' := [(6, .int x7), (0, .ref (ad bs o)), (1, .int a1), (2, .int a2), (3, .int a3), (4, .int a4), (5, .int v5)]) hx hb dX12_costs_59 hl (k := 6) rfl (by rw [ex7]; rfl) (by decide) rfl (fun ls hl => ?_)
    refine lv_goto (tgt := 22) hx hb dX12_costs_62 (by decide) ?_
    exact hw H locs ls  hM hS (lv_sub hl [1, 2, 3, 4, 5, 6, 0] rfl)
def w_X12_costs_12 (o : Nat) (a1 : Int32) (a2 : Int32) (a3 : Int32) (a4 : Int32) (post : mI → Prop) (I : mI) (v5 : Int32) : Prop := ∀ ZZ : (mI → Int32 → Prop), (∀ (I : mI) (v5 : Int32), ((60 < v5 → post I) ∧ (¬ 60 < v5 → (w_X12_costs_22 o a1 a2 a3 a4 post ZZ) I v5 0)) → ZZ I v5) → ZZ I v5
set_option maxRecDepth 100000 in
set_option maxHeartbeats 4000000 in
theorem s_X12_costs_12 {p : Program} {l : Launch} {e : Env} {s : State} {m : MethodId} {args : Array Value} {below : List Frame} {meth : Method} {c : Code} {D : va_G} {cA : Nat → ClassId} {Z : mZ} {bs : Ad} {n : Nat} {K : mK} {R : mR} {L : mL} (E : Ev p s m args c cX12_costs 7 RX12 D cA Z bs) (hr : meth.sig.returnType = none) (hlk : meth.locks = false) {o : Nat} {a1 : Int32} {a2 : Int32} {a3 : Int32} {a4 : Int32} (ho : isX12 K R o) {post : mI → Prop} {I : mI} {v5 : Int32} {H : Heap} {locs : List Loc} {ls : Array Slot} (hw : w_X12_costs_12 o a1 a2 a3 a4 post I v5) (hM : mm D cA bs (n, K, R, I, L) H) (hS : va_S (Ab bs) s.heap H locs) (hl : lv_has ls 7 [(0, .ref (ad bs o)), (1, .int a1), (2, .int a2), (3, .int a3), (4, .int a4), (5, .int v5)]) : W p l e ({ frames := 7, cells := 0, slots := 0, locals := 159 } : Room) s m args below meth c H locs 0 0 (MQ below (QV D cA bs (fun u => ∃ I', u = (n, K, R, I', L) ∧ post I')) args s 0 0 (Ab bs)) (F0 m 12 ls []) := by
  have hx := E.1.1
  have hb := E.1.2.1
  refine hw (fun I v5 => ∀ (H : Heap) (locs : List Loc) (ls : Array Slot), mm D cA bs (n, K, R, I, L) H → va_S (Ab bs) s.heap H locs → lv_has ls 7 [(0, .ref (ad bs o)), (1, .int a1), (2, .int a2), (3, .int a3), (4, .int a4), (5, .int v5)] → W p l e ({ frames := 7, cells := 0, slots := 0, locals := 159 } : Room) s m args below meth c H locs 0 0 (MQ below (QV D cA bs (fun u => ∃ I', u = (n, K, R, I', L) ∧ post I')) args s 0 0 (Ab bs)) (F0 m 12 ls [])) ?_ H locs ls hM hS hl
  clear hw hM hS hl
  intro I v5 hw H locs ls hM hS hl
  refine lv_iload hx hb dX12_costs_12 (lv_at hl 5 rfl) ?_
  refine lv_bipush (v := 60) hx hb dX12_costs_14 (by decide) ?_
  refine lv_icmp_gt (tgt := 71) hx hb dX12_costs_16 (by decide) (fun cq => ?_) (fun cq => ?_)
  · have hw := hw.1 cq
    exact m_retv hx hb hr hlk hM hS ⟨_, rfl, hw⟩ dX12_costs_71
  · have hw := hw.2 cq
    refine lv_iconst (v := 0) hx hb dX12_costs_19 (by decide) ?_
    refine lv_istore (lv' := [(6, .int 0), (0, .ref (ad bs o)), (1, .int a1), (2, .int a2), (3, .int a3), (4, .int a4), (5, .int v5)]) hx hb dX12_costs_20 hl (by decide) rfl (fun ls hl => ?_)
    exact s_X12_costs_22 E hr hlk ho (fun I v5 H locs ls  hw hM hS hl => hw H locs ls  hM hS hl)  hw hM hS (lv_sub hl [1, 2, 3, 4, 5, 6, 0] rfl)
def w_X12_costs (I : mI) (o : Nat) (a1 : Int32) (a2 : Int32) (a3 : Int32) (a4 : Int32) (post : mI → Prop) : Prop := ∀ I1, I1 = up2 I o 17 a1 → w_X12_runs I1 o (fun I2 => (w_X12_costs_12 o a1 a2 a3 a4 post) I2 1)
set_option maxRecDepth 100000 in
set_option maxHeartbeats 4000000 in
theorem c_X12_costs {l : Launch} {D : va_G} {cA : Nat → ClassId} {Z : mZ} {bs : Ad} {n : Nat} {K : mK} {R : mR} {I : mI} {L : mL} {o : Nat} {a1 : Int32} {a2 : Int32} {a3 : Int32} {a4 : Int32} {post : mI → Prop} (ho : isX12 K R o) (hw : w_X12_costs I o a1 a2 a3 a4 post) : Met l yX12_costs (.code yX12_costs cX12_costs 7 none :: gw) ({ frames := 7, cells := 0, slots := 0, locals := 159 } : Room) (PreM D cA Z bs (n, K, R, I, L) [.ref (ad bs o), .int a1, .int a2, .int a3, .int a4]) (QV D cA bs (fun u => ∃ I', u = (n, K, R, I', L) ∧ post I')) 0 0 (Ab bs) := by
  refine m_met (by decide) (Nat.le_of_ble_eq_true rfl) (fun p e s m below meth c ls E hr hlk hM hS hl => ?_)
  have E : Ev p s m _ c cX12_costs 7 RX12 D cA Z bs := E
  have hl : lv_has ls 7 [(0, .ref (ad bs o)), (1, .int a1), (2, .int a2), (3, .int a3), (4, .int a4)] := hl
  have hx := E.1.1
  have hb := E.1.2.1
  generalize hHe : s.heap = H at hM ⊢
  have hS : va_S (Ab bs) s.heap H [] := by rw [← hHe]; exact va_S.rf
  clear hHe
  refine lv_aload_n hx hb dX12_costs_0 rfl (lv_at hl 0 rfl) ?_
  refine lv_iload_n hx hb dX12_costs_1 rfl (lv_at hl 1 rfl) ?_
  refine m_puti E hM hS fp_X12_226 ho.1 rfl rfl dX12_costs_2 (fun I1 H locs eI1 hM hS => ?_)
  have hw := hw I1 eI1
  refine lv_aload_n hx hb dX12_costs_5 rfl (lv_at hl 0 rfl) ?_
  refine m_cv (m_runV E hM hS cs_X12_306 ho.1 (by decide) rfl rfl (c_X12_runs ho hw) rfl rfl ⟨Nat.le_of_ble_eq_true rfl, Nat.le_of_ble_eq_true rfl⟩ rfl hl.1 rfl (Nat.le_of_ble_eq_true rfl) dX12_costs_6 ⟨Nat.le_of_ble_eq_true rfl, Nat.le_of_ble_eq_true rfl⟩) hS (fun u H locs hp hM hS => ?_)
  obtain ⟨I2, rfl, hw⟩ := hp
  refine lv_iconst (v := 1) hx hb dX12_costs_9 (by decide) ?_
  refine lv_istore (lv' := [(5, .int 1), (0, .ref (ad bs o)), (1, .int a1), (2, .int a2), (3, .int a3), (4, .int a4)]) hx hb dX12_costs_10 hl (by decide) rfl (fun ls hl => ?_)
  exact s_X12_costs_12 E hr hlk ho  hw hM hS (lv_sub hl [1, 2, 3, 4, 5, 0] rfl)
theorem dX12_stepCost_0 : decode cX12_stepCost 0 = .ok (.iload_n 2, 1) := by decide +kernel
theorem dX12_stepCost_1 : decode cX12_stepCost 1 = .ok (.iload_n 3, 1) := by decide +kernel
theorem dX12_stepCost_2 : decode cX12_stepCost 2 = .ok (.if_icmp .ne 7, 3) := by decide +kernel
theorem dX12_stepCost_5 : decode cX12_stepCost 5 = .ok (.iconst 0, 1) := by decide +kernel
theorem dX12_stepCost_6 : decode cX12_stepCost 6 = .ok (.goto 14, 3) := by decide +kernel
theorem dX12_stepCost_9 : decode cX12_stepCost 9 = .ok (.aload_n 0, 1) := by decide +kernel
theorem dX12_stepCost_10 : decode cX12_stepCost 10 = .ok (.getfield 56, 3) := by decide +kernel
theorem dX12_stepCost_13 : decode cX12_stepCost 13 = .ok (.bipush 24, 2) := by decide +kernel
theorem dX12_stepCost_15 : decode cX12_stepCost 15 = .ok (.iload_n 1, 1) := by decide +kernel
theorem dX12_stepCost_16 : decode cX12_stepCost 16 = .ok (.imul, 1) := by decide +kernel
theorem dX12_stepCost_17 : decode cX12_stepCost 17 = .ok (.iload_n 3, 1) := by decide +kernel
theorem dX12_stepCost_18 : decode cX12_stepCost 18 = .ok (.iadd, 1) := by decide +kernel
theorem dX12_stepCost_19 : decode cX12_stepCost 19 = .ok (.iaload, 1) := by decide +kernel
theorem dX12_stepCost_20 : decode cX12_stepCost 20 = .ok (.ireturn, 1) := by decide +kernel
def w_X12_stepCost (I : mI) (o : Nat) (a1 : Int32) (a2 : Int32) (a3 : Int32) (post : Int32 → Prop) : Prop := (¬ a2 = a3 → vp_in ((24 * a1) + a3) 1464 ∧ post (I (o + 16) ((24 * a1) + a3).toNatClampNeg)) ∧ (a2 = a3 → post 0)
set_option maxRecDepth 100000 in
set_option maxHeartbeats 4000000 in
theorem c_X12_stepCost {l : Launch} {D : va_G} {cA : Nat → ClassId} {Z : mZ} {bs : Ad} {n : Nat} {K : mK} {R : mR} {I : mI} {L : mL} {o : Nat} {a1 : Int32} {a2 : Int32} {a3 : Int32} {post : Int32 → Prop} (ho : isX12 K R o) (hw : w_X12_stepCost I o a1 a2 a3 post) : Met l yX12_stepCost (.code yX12_stepCost cX12_stepCost 4 (some .int) :: gw) ({ frames := 0, cells := 0, slots := 0, locals := 0 } : Room) (PreM D cA Z bs (n, K, R, I, L) [.ref (ad bs o), .int a1, .int a2, .int a3]) (QI D cA bs (fun r u => u = (n, K, R, I, L) ∧ post r)) 0 0 (Ab bs) := by
  refine m_met (by decide) (Nat.le_of_ble_eq_true rfl) (fun p e s m below meth c ls E hr hlk hM hS hl => ?_)
  have E : Ev p s m _ c cX12_stepCost 4 RX12 D cA Z bs := E
  have hl : lv_has ls 4 [(0, .ref (ad bs o)), (1, .int a1), (2, .int a2), (3, .int a3)] := hl
  have hx := E.1.1
  have hb := E.1.2.1
  generalize hHe : s.heap = H at hM ⊢
  have hS : va_S (Ab bs) s.heap H [] := by rw [← hHe]; exact va_S.rf
  clear hHe
  refine lv_iload_n hx hb dX12_stepCost_0 rfl (lv_at hl 2 rfl) ?_
  refine lv_iload_n hx hb dX12_stepCost_1 rfl (lv_at hl 3 rfl) ?_
  refine lv_icmp_ne (tgt := 9) hx hb dX12_stepCost_2 (by decide) (fun cq => ?_) (fun cq => ?_)
  · have hw := hw.1 cq
    refine lv_aload_n hx hb dX12_stepCost_9 rfl (lv_at hl 0 rfl) ?_
    refine m_getr E hM fs_X12_56 ho.1 (isO_at ho 15 rfl).1 dX12_stepCost_10 ?_
    refine lv_bipush (v := 24) hx hb dX12_stepCost_13 (by decide) ?_
    refine lv_iload_n hx hb dX12_stepCost_15 rfl (lv_at hl 1 rfl) ?_
    refine lv_imul hx hb dX12_stepCost_16 ?_
    refine lv_iload_n hx hb dX12_stepCost_17 rfl (lv_at hl 3 rfl) ?_
    refine lv_iadd hx hb dX12_stepCost_18 ?_
    obtain ⟨hv, hw⟩ := hw
    refine m_iald E hM (isO_at ho 15 rfl).2 hv dX12_stepCost_19 ?_
    exact m_reti hx hb hr hlk hM hS ⟨rfl, hw⟩ dX12_stepCost_20
  · have hw := hw.2 cq
    refine lv_iconst (v := 0) hx hb dX12_stepCost_5 (by decide) ?_
    refine lv_goto (tgt := 20) hx hb dX12_stepCost_6 (by decide) ?_
    exact m_reti hx hb hr hlk hM hS ⟨rfl, hw⟩ dX12_stepCost_20
theorem dX12_isReach_0 : decode cX12_isReach 0 = .ok (.iload_n 2, 1) := by decide +kernel
theorem dX12_isReach_1 : decode cX12_isReach 1 = .ok (.iload_n 3, 1) := by decide +kernel
theorem dX12_isReach_2 : decode cX12_isReach 2 = .ok (.isub, 1) := by decide +kernel
theorem dX12_isReach_3 : decode cX12_isReach 3 = .ok (.aload_n 0, 1) := by decide +kernel
theorem dX12_isReach_4 : decode cX12_isReach 4 = .ok (.iload_n 1, 1) := by decide +kernel
theorem dX12_isReach_5 : decode cX12_isReach 5 = .ok (.iconst 2, 1) := by decide +kernel
theorem dX12_isReach_6 : decode cX12_isReach 6 = .ok (.invokevirtual 241, 3) := by decide +kernel
theorem dX12_isReach_9 : decode cX12_isReach 9 = .ok (.if_icmp .gt 19, 3) := by decide +kernel
theorem dX12_isReach_12 : decode cX12_isReach 12 = .ok (.iload_n 3, 1) := by decide +kernel
theorem dX12_isReach_13 : decode cX12_isReach 13 = .ok (.iload_n 2, 1) := by decide +kernel
theorem dX12_isReach_14 : decode cX12_isReach 14 = .ok (.isub, 1) := by decide +kernel
theorem dX12_isReach_15 : decode cX12_isReach 15 = .ok (.aload_n 0, 1) := by decide +kernel
theorem dX12_isReach_16 : decode cX12_isReach 16 = .ok (.iload_n 1, 1) := by decide +kernel
theorem dX12_isReach_17 : decode cX12_isReach 17 = .ok (.iconst 2, 1) := by decide +kernel
theorem dX12_isReach_18 : decode cX12_isReach 18 = .ok (.invokevirtual 241, 3) := by decide +kernel
theorem dX12_isReach_21 : decode cX12_isReach 21 = .ok (.if_icmp .gt 7, 3) := by decide +kernel
theorem dX12_isReach_24 : decode cX12_isReach 24 = .ok (.iconst 1, 1) := by decide +kernel
theorem dX12_isReach_25 : decode cX12_isReach 25 = .ok (.goto 4, 3) := by decide +kernel
theorem dX12_isReach_28 : decode cX12_isReach 28 = .ok (.iconst 0, 1) := by decide +kernel
theorem dX12_isReach_29 : decode cX12_isReach 29 = .ok (.ireturn, 1) := by decide +kernel
def w_X12_isReach (I : mI) (o : Nat) (a1 : Int32) (a2 : Int32) (a3 : Int32) (post : Bool → Prop) : Prop := w_X12_told I o a1 2 (fun r1 => (r1 < (a2 - a3) → post false) ∧ (¬ r1 < (a2 - a3) → w_X12_told I o a1 2 (fun r2 => (r2 < (a3 - a2) → post false) ∧ (¬ r2 < (a3 - a2) → post true))))
set_option maxRecDepth 100000 in
set_option maxHeartbeats 4000000 in
theorem c_X12_isReach {l : Launch} {D : va_G} {cA : Nat → ClassId} {Z : mZ} {bs : Ad} {n : Nat} {K : mK} {R : mR} {I : mI} {L : mL} {o : Nat} {a1 : Int32} {a2 : Int32} {a3 : Int32} {post : Bool → Prop} (ho : isX12 K R o) (hw : w_X12_isReach I o a1 a2 a3 post) : Met l yX12_isReach (.code yX12_isReach cX12_isReach 4 (some .boolean) :: gw) ({ frames := 1, cells := 0, slots := 0, locals := 22 } : Room) (PreM D cA Z bs (n, K, R, I, L) [.ref (ad bs o), .int a1, .int a2, .int a3]) (QI D cA bs (fun r u => ∃ b, r = bI b ∧ u = (n, K, R, I, L) ∧ post b)) 0 0 (Ab bs) := by
  refine m_met (by decide) (Nat.le_of_ble_eq_true rfl) (fun p e s m below meth c ls E hr hlk hM hS hl => ?_)
  have E : Ev p s m _ c cX12_isReach 4 RX12 D cA Z bs := E
  have hl : lv_has ls 4 [(0, .ref (ad bs o)), (1, .int a1), (2, .int a2), (3, .int a3)] := hl
  have hx := E.1.1
  have hb := E.1.2.1
  generalize hHe : s.heap = H at hM ⊢
  have hS : va_S (Ab bs) s.heap H [] := by rw [← hHe]; exact va_S.rf
  clear hHe
  refine lv_iload_n hx hb dX12_isReach_0 rfl (lv_at hl 2 rfl) ?_
  refine lv_iload_n hx hb dX12_isReach_1 rfl (lv_at hl 3 rfl) ?_
  refine lv_isub hx hb dX12_isReach_2 ?_
  refine lv_aload_n hx hb dX12_isReach_3 rfl (lv_at hl 0 rfl) ?_
  refine lv_iload_n hx hb dX12_isReach_4 rfl (lv_at hl 1 rfl) ?_
  refine lv_iconst (v := 2) hx hb dX12_isReach_5 (by decide) ?_
  refine m_ci (m_runV E hM hS cs_X12_241 ho.1 (by decide) rfl rfl (c_X12_told ho hw) rfl rfl ⟨Nat.le_of_ble_eq_true rfl, Nat.le_of_ble_eq_true rfl⟩ rfl hl.1 rfl (Nat.le_of_ble_eq_true rfl) dX12_isReach_6 ⟨Nat.le_of_ble_eq_true rfl, Nat.le_of_ble_eq_true rfl⟩) hS (fun r1 u H locs hp hM hS => ?_)
  obtain ⟨rfl, hw⟩ := hp
  refine lv_icmp_gt (tgt := 28) hx hb dX12_isReach_9 (by decide) (fun cq => ?_) (fun cq => ?_)
  · have hw := hw.1 cq
    refine lv_iconst (v := 0) hx hb dX12_isReach_28 (by decide) ?_
    exact m_retz hx hb hr hlk (Or.inl rfl) hM hS ⟨false, rfl, rfl, hw⟩ dX12_isReach_29
  · have hw := hw.2 cq
    refine lv_iload_n hx hb dX12_isReach_12 rfl (lv_at hl 3 rfl) ?_
    refine lv_iload_n hx hb dX12_isReach_13 rfl (lv_at hl 2 rfl) ?_
    refine lv_isub hx hb dX12_isReach_14 ?_
    refine lv_aload_n hx hb dX12_isReach_15 rfl (lv_at hl 0 rfl) ?_
    refine lv_iload_n hx hb dX12_isReach_16 rfl (lv_at hl 1 rfl) ?_
    refine lv_iconst (v := 2) hx hb dX12_isReach_17 (by decide) ?_
    refine m_ci (m_runV E hM hS cs_X12_241 ho.1 (by decide) rfl rfl (c_X12_told ho hw) rfl rfl ⟨Nat.le_of_ble_eq_true rfl, Nat.le_of_ble_eq_true rfl⟩ rfl hl.1 rfl (Nat.le_of_ble_eq_true rfl) dX12_isReach_18 ⟨Nat.le_of_ble_eq_true rfl, Nat.le_of_ble_eq_true rfl⟩) hS (fun r2 u H locs hp hM hS => ?_)
    obtain ⟨rfl, hw⟩ := hp
    refine lv_icmp_gt (tgt := 28) hx hb dX12_isReach_21 (by decide) (fun cq => ?_) (fun cq => ?_)
    · have hw := hw.1 cq
      refine lv_iconst (v := 0) hx hb dX12_isReach_28 (by decide) ?_
      exact m_retz hx hb hr hlk (Or.inl rfl) hM hS ⟨false, rfl, rfl, hw⟩ dX12_isReach_29
    · have hw := hw.2 cq
      refine lv_iconst (v := 1) hx hb dX12_isReach_24 (by decide) ?_
      refine lv_goto (tgt := 29) hx hb dX12_isReach_25 (by decide) ?_
      exact m_retz hx hb hr hlk (Or.inr rfl) hM hS ⟨true, rfl, rfl, hw⟩ dX12_isReach_29
theorem dX12_solves_0 : decode cX12_solves 0 = .ok (.iconst 0, 1) := by decide +kernel
theorem dX12_solves_1 : decode cX12_solves 1 = .ok (.istore 4, 2) := by decide +kernel
theorem dX12_solves_3 : decode cX12_solves 3 = .ok (.iload 4, 2) := by decide +kernel
theorem dX12_solves_5 : decode cX12_solves 5 = .ok (.aload_n 0, 1) := by decide +kernel
theorem dX12_solves_6 : decode cX12_solves 6 = .ok (.iconst 0, 1) := by decide +kernel
theorem dX12_solves_7 : decode cX12_solves 7 = .ok (.invokevirtual 205, 3) := by decide +kernel
theorem dX12_solves_10 : decode cX12_solves 10 = .ok (.if_icmp .ge 34, 3) := by decide +kernel
theorem dX12_solves_13 : decode cX12_solves 13 = .ok (.aload_n 0, 1) := by decide +kernel
theorem dX12_solves_14 : decode cX12_solves 14 = .ok (.getfield 59, 3) := by decide +kernel
theorem dX12_solves_17 : decode cX12_solves 17 = .ok (.bipush 24, 2) := by decide +kernel
theorem dX12_solves_19 : decode cX12_solves 19 = .ok (.iload_n 3, 1) := by decide +kernel
theorem dX12_solves_20 : decode cX12_solves 20 = .ok (.imul, 1) := by decide +kernel
theorem dX12_solves_21 : decode cX12_solves 21 = .ok (.iload 4, 2) := by decide +kernel
theorem dX12_solves_23 : decode cX12_solves 23 = .ok (.iadd, 1) := by decide +kernel
theorem dX12_solves_24 : decode cX12_solves 24 = .ok (.iload 4, 2) := by decide +kernel
theorem dX12_solves_26 : decode cX12_solves 26 = .ok (.iload_n 2, 1) := by decide +kernel
theorem dX12_solves_27 : decode cX12_solves 27 = .ok (.if_icmp .ne 7, 3) := by decide +kernel
theorem dX12_solves_30 : decode cX12_solves 30 = .ok (.iconst 0, 1) := by decide +kernel
theorem dX12_solves_31 : decode cX12_solves 31 = .ok (.goto 6, 3) := by decide +kernel
theorem dX12_solves_34 : decode cX12_solves 34 = .ok (.ldc_w 330, 3) := by decide +kernel
theorem dX12_solves_37 : decode cX12_solves 37 = .ok (.iastore, 1) := by decide +kernel
theorem dX12_solves_38 : decode cX12_solves 38 = .ok (.iinc 4 1, 3) := by decide +kernel
theorem dX12_solves_41 : decode cX12_solves 41 = .ok (.goto (-38), 3) := by decide +kernel
theorem dX12_solves_44 : decode cX12_solves 44 = .ok (.iload_n 3, 1) := by decide +kernel
theorem dX12_solves_45 : decode cX12_solves 45 = .ok (.iconst 1, 1) := by decide +kernel
theorem dX12_solves_46 : decode cX12_solves 46 = .ok (.isub, 1) := by decide +kernel
theorem dX12_solves_47 : decode cX12_solves 47 = .ok (.istore 4, 2) := by decide +kernel
theorem dX12_solves_49 : decode cX12_solves 49 = .ok (.iload 4, 2) := by decide +kernel
theorem dX12_solves_51 : decode cX12_solves 51 = .ok (.ifCond .lt 128, 3) := by decide +kernel
theorem dX12_solves_54 : decode cX12_solves 54 = .ok (.iconst 0, 1) := by decide +kernel
theorem dX12_solves_55 : decode cX12_solves 55 = .ok (.istore 5, 2) := by decide +kernel
theorem dX12_solves_57 : decode cX12_solves 57 = .ok (.iload 5, 2) := by decide +kernel
theorem dX12_solves_59 : decode cX12_solves 59 = .ok (.aload_n 0, 1) := by decide +kernel
theorem dX12_solves_60 : decode cX12_solves 60 = .ok (.iconst 0, 1) := by decide +kernel
theorem dX12_solves_61 : decode cX12_solves 61 = .ok (.invokevirtual 205, 3) := by decide +kernel
theorem dX12_solves_64 : decode cX12_solves 64 = .ok (.if_icmp .ge 109, 3) := by decide +kernel
theorem dX12_solves_67 : decode cX12_solves 67 = .ok (.ldc_w 330, 3) := by decide +kernel
theorem dX12_solves_70 : decode cX12_solves 70 = .ok (.istore 6, 2) := by decide +kernel
theorem dX12_solves_72 : decode cX12_solves 72 = .ok (.iconst 0, 1) := by decide +kernel
theorem dX12_solves_73 : decode cX12_solves 73 = .ok (.istore 7, 2) := by decide +kernel
theorem dX12_solves_75 : decode cX12_solves 75 = .ok (.iload 7, 2) := by decide +kernel
theorem dX12_solves_77 : decode cX12_solves 77 = .ok (.aload_n 0, 1) := by decide +kernel
theorem dX12_solves_78 : decode cX12_solves 78 = .ok (.iconst 0, 1) := by decide +kernel
theorem dX12_solves_79 : decode cX12_solves 79 = .ok (.invokevirtual 205, 3) := by decide +kernel
theorem dX12_solves_82 : decode cX12_solves 82 = .ok (.if_icmp .ge 70, 3) := by decide +kernel
theorem dX12_solves_85 : decode cX12_solves 85 = .ok (.aload_n 0, 1) := by decide +kernel
theorem dX12_solves_86 : decode cX12_solves 86 = .ok (.iload_n 1, 1) := by decide +kernel
theorem dX12_solves_87 : decode cX12_solves 87 = .ok (.iload 5, 2) := by decide +kernel
theorem dX12_solves_89 : decode cX12_solves 89 = .ok (.iload 7, 2) := by decide +kernel
theorem dX12_solves_91 : decode cX12_solves 91 = .ok (.invokevirtual 335, 3) := by decide +kernel
theorem dX12_solves_94 : decode cX12_solves 94 = .ok (.ifCond .ne 6, 3) := by decide +kernel
theorem dX12_solves_97 : decode cX12_solves 97 = .ok (.goto 49, 3) := by decide +kernel
theorem dX12_solves_100 : decode cX12_solves 100 = .ok (.aload_n 0, 1) := by decide +kernel
theorem dX12_solves_101 : decode cX12_solves 101 = .ok (.iload 4, 2) := by decide +kernel
theorem dX12_solves_103 : decode cX12_solves 103 = .ok (.iconst 1, 1) := by decide +kernel
theorem dX12_solves_104 : decode cX12_solves 104 = .ok (.iadd, 1) := by decide +kernel
theorem dX12_solves_105 : decode cX12_solves 105 = .ok (.iload 5, 2) := by decide +kernel
theorem dX12_solves_107 : decode cX12_solves 107 = .ok (.iload 7, 2) := by decide +kernel
theorem dX12_solves_109 : decode cX12_solves 109 = .ok (.invokevirtual 338, 3) := by decide +kernel
theorem dX12_solves_112 : decode cX12_solves 112 = .ok (.aload_n 0, 1) := by decide +kernel
theorem dX12_solves_113 : decode cX12_solves 113 = .ok (.getfield 59, 3) := by decide +kernel
theorem dX12_solves_116 : decode cX12_solves 116 = .ok (.bipush 24, 2) := by decide +kernel
theorem dX12_solves_118 : decode cX12_solves 118 = .ok (.iload 4, 2) := by decide +kernel
theorem dX12_solves_120 : decode cX12_solves 120 = .ok (.iconst 1, 1) := by decide +kernel
theorem dX12_solves_121 : decode cX12_solves 121 = .ok (.iadd, 1) := by decide +kernel
theorem dX12_solves_122 : decode cX12_solves 122 = .ok (.imul, 1) := by decide +kernel
theorem dX12_solves_123 : decode cX12_solves 123 = .ok (.iload 7, 2) := by decide +kernel
theorem dX12_solves_125 : decode cX12_solves 125 = .ok (.iadd, 1) := by decide +kernel
theorem dX12_solves_126 : decode cX12_solves 126 = .ok (.iaload, 1) := by decide +kernel
theorem dX12_solves_127 : decode cX12_solves 127 = .ok (.iadd, 1) := by decide +kernel
theorem dX12_solves_128 : decode cX12_solves 128 = .ok (.istore 8, 2) := by decide +kernel
theorem dX12_solves_130 : decode cX12_solves 130 = .ok (.iload 8, 2) := by decide +kernel
theorem dX12_solves_132 : decode cX12_solves 132 = .ok (.iload 6, 2) := by decide +kernel
theorem dX12_solves_134 : decode cX12_solves 134 = .ok (.if_icmp .ge 8, 3) := by decide +kernel
theorem dX12_solves_137 : decode cX12_solves 137 = .ok (.iload 8, 2) := by decide +kernel
theorem dX12_solves_139 : decode cX12_solves 139 = .ok (.goto 5, 3) := by decide +kernel
theorem dX12_solves_142 : decode cX12_solves 142 = .ok (.iload 6, 2) := by decide +kernel
theorem dX12_solves_144 : decode cX12_solves 144 = .ok (.istore 6, 2) := by decide +kernel
theorem dX12_solves_146 : decode cX12_solves 146 = .ok (.iinc 7 1, 3) := by decide +kernel
theorem dX12_solves_149 : decode cX12_solves 149 = .ok (.goto (-74), 3) := by decide +kernel
theorem dX12_solves_152 : decode cX12_solves 152 = .ok (.aload_n 0, 1) := by decide +kernel
theorem dX12_solves_153 : decode cX12_solves 153 = .ok (.getfield 59, 3) := by decide +kernel
theorem dX12_solves_156 : decode cX12_solves 156 = .ok (.bipush 24, 2) := by decide +kernel
theorem dX12_solves_158 : decode cX12_solves 158 = .ok (.iload 4, 2) := by decide +kernel
theorem dX12_solves_160 : decode cX12_solves 160 = .ok (.imul, 1) := by decide +kernel
theorem dX12_solves_161 : decode cX12_solves 161 = .ok (.iload 5, 2) := by decide +kernel
theorem dX12_solves_163 : decode cX12_solves 163 = .ok (.iadd, 1) := by decide +kernel
theorem dX12_solves_164 : decode cX12_solves 164 = .ok (.iload 6, 2) := by decide +kernel
theorem dX12_solves_166 : decode cX12_solves 166 = .ok (.iastore, 1) := by decide +kernel
theorem dX12_solves_167 : decode cX12_solves 167 = .ok (.iinc 5 1, 3) := by decide +kernel
theorem dX12_solves_170 : decode cX12_solves 170 = .ok (.goto (-113), 3) := by decide +kernel
theorem dX12_solves_173 : decode cX12_solves 173 = .ok (.iinc 4 (-1), 3) := by decide +kernel
theorem dX12_solves_176 : decode cX12_solves 176 = .ok (.goto (-127), 3) := by decide +kernel
theorem dX12_solves_179 : decode cX12_solves 179 = .ok (.return_, 1) := by decide +kernel
def w_X12_solves_37 (o : Nat) (a1 : Int32) (a2 : Int32) (a3 : Int32) (post : mI → Prop) (k3 : mI → Int32 → Prop) (I : mI) (v4 : Int32) (s1 : Int32) (s2 : Int32) : Prop := vp_in s1 1464 ∧ ∀ I3, I3 = up2 I (o + 17) s1.toNatClampNeg s2 → ∀ x4, x4 = v4 + 1 → k3 I3 x4
set_option maxRecDepth 100000 in
set_option maxHeartbeats 4000000 in
theorem s_X12_solves_37 {p : Program} {l : Launch} {e : Env} {s : State} {m : MethodId} {args : Array Value} {below : List Frame} {meth : Method} {c : Code} {D : va_G} {cA : Nat → ClassId} {Z : mZ} {bs : Ad} {n : Nat} {K : mK} {R : mR} {L : mL} (E : Ev p s m args c cX12_solves 9 RX12 D cA Z bs) (hr : meth.sig.returnType = none) (hlk : meth.locks = false) {o : Nat} {a1 : Int32} {a2 : Int32} {a3 : Int32} (ho : isX12 K R o) {post : mI → Prop} {k3 : mI → Int32 → Prop} (hk3 : ∀ (I : mI) (v4 : Int32) (H : Heap) (locs : List Loc) (ls : Array Slot), k3 I v4 → mm D cA bs (n, K, R, I, L) H → va_S (Ab bs) s.heap H locs → lv_has ls 9 [(0, .ref (ad bs o)), (1, .int a1), (2, .int a2), (3, .int a3), (4, .int v4)] → W p l e ({ frames := 2, cells := 0, slots := 0, locals := 45 } : Room) s m args below meth c H locs 0 0 (MQ below (QV D cA bs (fun u => ∃ I', u = (n, K, R, I', L) ∧ post I')) args s 0 0 (Ab bs)) (F0 m 3 ls [])) {I : mI} {v4 : Int32} {s1 : Int32} {s2 : Int32} {H : Heap} {locs : List Loc} {ls : Array Slot} (hw : w_X12_solves_37 o a1 a2 a3 post k3 I v4 s1 s2) (hM : mm D cA bs (n, K, R, I, L) H) (hS : va_S (Ab bs) s.heap H locs) (hl : lv_has ls 9 [(0, .ref (ad bs o)), (1, .int a1), (2, .int a2), (3, .int a3), (4, .int v4)]) : W p l e ({ frames := 2, cells := 0, slots := 0, locals := 45 } : Room) s m args below meth c H locs 0 0 (MQ below (QV D cA bs (fun u => ∃ I', u = (n, K, R, I', L) ∧ post I')) args s 0 0 (Ab bs)) (F0 m 37 ls [.int s2, .int s1, .ref (ad bs (o + 17))]) := by
  have hx := E.1.1
  have hb := E.1.2.1
  obtain ⟨hv, hw⟩ := hw
  refine m_iast E hM hS (isO_at ho 16 rfl).2 hv dX12_solves_37 (fun I3 H locs eI3 hM hS => ?_)
  have hw := hw I3 eI3
  obtain ⟨x4, ex4⟩ : ∃ y : Int32, y = v4 + 1 := ⟨_, rfl⟩
  have hw := hw x4 ex4
  refine lv_iinc (v := x4) (lv' := [(4, .int x4), (0, .ref (ad bs o)), (1, .int a1), (2, .int a2), (3, .int a3)]) hx hb dX12_solves_38 hl (k := 4) rfl (by rw [ex4]; rfl) (by decide) rfl (fun ls hl => ?_)
  refine lv_goto (tgt := 3) hx hb dX12_solves_41 (by decide) ?_
  exact hk3 _ _ H locs ls  hw hM hS (lv_sub hl [1, 2, 3, 4, 0] rfl)
def w_X12_solves_3 (o : Nat) (a1 : Int32) (a2 : Int32) (a3 : Int32) (post : mI → Prop) (k49 : mI → Int32 → Prop) (I : mI) (v4 : Int32) : Prop := ∀ ZZ : (mI → Int32 → Prop), (∀ (I : mI) (v4 : Int32), (w_X12_of I o 0 (fun r1 => (r1 ≤ v4 → ∀ x2, x2 = (a3 - 1) → k49 I x2) ∧ (¬ r1 ≤ v4 → (¬ v4 = a2 → (w_X12_solves_37 o a1 a2 a3 post ZZ) I v4 ((24 * a3) + v4) 1000000) ∧ (v4 = a2 → (w_X12_solves_37 o a1 a2 a3 post ZZ) I v4 ((24 * a3) + v4) 0)))) → ZZ I v4) → ZZ I v4
set_option maxRecDepth 100000 in
set_option maxHeartbeats 4000000 in
theorem s_X12_solves_3 {p : Program} {l : Launch} {e : Env} {s : State} {m : MethodId} {args : Array Value} {below : List Frame} {meth : Method} {c : Code} {D : va_G} {cA : Nat → ClassId} {Z : mZ} {bs : Ad} {n : Nat} {K : mK} {R : mR} {L : mL} (E : Ev p s m args c cX12_solves 9 RX12 D cA Z bs) (hr : meth.sig.returnType = none) (hlk : meth.locks = false) {o : Nat} {a1 : Int32} {a2 : Int32} {a3 : Int32} (ho : isX12 K R o) {post : mI → Prop} {k49 : mI → Int32 → Prop} (hk49 : ∀ (I : mI) (v4 : Int32) (H : Heap) (locs : List Loc) (ls : Array Slot), k49 I v4 → mm D cA bs (n, K, R, I, L) H → va_S (Ab bs) s.heap H locs → lv_has ls 9 [(0, .ref (ad bs o)), (1, .int a1), (4, .int v4)] → W p l e ({ frames := 2, cells := 0, slots := 0, locals := 45 } : Room) s m args below meth c H locs 0 0 (MQ below (QV D cA bs (fun u => ∃ I', u = (n, K, R, I', L) ∧ post I')) args s 0 0 (Ab bs)) (F0 m 49 ls [])) {I : mI} {v4 : Int32} {H : Heap} {locs : List Loc} {ls : Array Slot} (hw : w_X12_solves_3 o a1 a2 a3 post k49 I v4) (hM : mm D cA bs (n, K, R, I, L) H) (hS : va_S (Ab bs) s.heap H locs) (hl : lv_has ls 9 [(0, .ref (ad bs o)), (1, .int a1), (2, .int a2), (3, .int a3), (4, .int v4)]) : W p l e ({ frames := 2, cells := 0, slots := 0, locals := 45 } : Room) s m args below meth c H locs 0 0 (MQ below (QV D cA bs (fun u => ∃ I', u = (n, K, R, I', L) ∧ post I')) args s 0 0 (Ab bs)) (F0 m 3 ls []) := by
  have hx := E.1.1
  have hb := E.1.2.1
  refine hw (fun I v4 => ∀ (H : Heap) (locs : List Loc) (ls : Array Slot), mm D cA bs (n, K, R, I, L) H → va_S (Ab bs) s.heap H locs → lv_has ls 9 [(0, .ref (ad bs o)), (1, .int a1), (2, .int a2), (3, .int a3), (4, .int v4)] → W p l e ({ frames := 2, cells := 0, slots := 0, locals := 45 } : Room) s m args below meth c H locs 0 0 (MQ below (QV D cA bs (fun u => ∃ I', u = (n, K, R, I', L) ∧ post I')) args s 0 0 (Ab bs)) (F0 m 3 ls [])) ?_ H locs ls hM hS hl
  clear hw hM hS hl
  intro I v4 hw H locs ls hM hS hl
  refine lv_iload hx hb dX12_solves_3 (lv_at hl 4 rfl) ?_
  refine lv_aload_n hx hb dX12_solves_5 rfl (lv_at hl 0 rfl) ?_
  refine lv_iconst (v := 0) hx hb dX12_solves_6 (by decide) ?_
  refine m_ci (m_runV E hM hS cs_X12_205 ho.1 (by decide) rfl rfl (c_X12_of ho hw) rfl rfl ⟨Nat.le_of_ble_eq_true rfl, Nat.le_of_ble_eq_true rfl⟩ rfl hl.1 rfl (Nat.le_of_ble_eq_true rfl) dX12_solves_7 ⟨Nat.le_of_ble_eq_true rfl, Nat.le_of_ble_eq_true rfl⟩) hS (fun r1 u H locs hp hM hS => ?_)
  obtain ⟨rfl, hw⟩ := hp
  refine lv_icmp_ge (tgt := 44) hx hb dX12_solves_10 (by decide) (fun cq => ?_) (fun cq => ?_)
  · have hw := hw.1 cq
    refine lv_iload_n hx hb dX12_solves_44 rfl (lv_at hl 3 rfl) ?_
    refine lv_iconst (v := 1) hx hb dX12_solves_45 (by decide) ?_
    refine lv_isub hx hb dX12_solves_46 ?_
    refine lv_topi (fun x2 ex2 => ?_)
    have hw := hw x2 ex2
    refine lv_istore (lv' := [(4, .int x2), (0, .ref (ad bs o)), (1, .int a1), (2, .int a2), (3, .int a3)]) hx hb dX12_solves_47 hl (by decide) rfl (fun ls hl => ?_)
    exact hk49 _ _ H locs ls  hw hM hS (lv_sub hl [1, 2, 0] rfl)
  · have hw := hw.2 cq
    refine lv_aload_n hx hb dX12_solves_13 rfl (lv_at hl 0 rfl) ?_
    refine m_getr E hM fs_X12_59 ho.1 (isO_at ho 16 rfl).1 dX12_solves_14 ?_
    refine lv_bipush (v := 24) hx hb dX12_solves_17 (by decide) ?_
    refine lv_iload_n hx hb dX12_solves_19 rfl (lv_at hl 3 rfl) ?_
    refine lv_imul hx hb dX12_solves_20 ?_
    refine lv_iload hx hb dX12_solves_21 (lv_at hl 4 rfl) ?_
    refine lv_iadd hx hb dX12_solves_23 ?_
    refine lv_iload hx hb dX12_solves_24 (lv_at hl 4 rfl) ?_
    refine lv_iload_n hx hb dX12_solves_26 rfl (lv_at hl 2 rfl) ?_
    refine lv_icmp_ne (tgt := 34) hx hb dX12_solves_27 (by decide) (fun cq => ?_) (fun cq => ?_)
    · have hw := hw.1 cq
      refine lv_ldcw (v := 1000000) hx hb E.1.2.2.2.1 (E.1.2.2.2.2 _ (gw_of 1726 (by decide +kernel) (by decide +kernel))) dX12_solves_34 ?_
      exact s_X12_solves_37 E hr hlk ho (fun I v4 H locs ls  hw hM hS hl => hw H locs ls  hM hS hl)  hw hM hS (lv_sub hl [0, 1, 2, 3, 4] rfl)
    · have hw := hw.2 cq
      refine lv_iconst (v := 0) hx hb dX12_solves_30 (by decide) ?_
      refine lv_goto (tgt := 37) hx hb dX12_solves_31 (by decide) ?_
      exact s_X12_solves_37 E hr hlk ho (fun I v4 H locs ls  hw hM hS hl => hw H locs ls  hM hS hl)  hw hM hS (lv_sub hl [0, 1, 2, 3, 4] rfl)
def w_X12_solves_75 (o : Nat) (a1 : Int32) (a2 : Int32) (a3 : Int32) (post : mI → Prop) (k152 : mI → Int32 → Int32 → Int32 → Prop) (I : mI) (v4 : Int32) (v5 : Int32) (v6 : Int32) (v7 : Int32) : Prop := ∀ ZZ : (mI → Int32 → Int32 → Int32 → Int32 → Prop), (∀ (I : mI) (v4 : Int32) (v5 : Int32) (v6 : Int32) (v7 : Int32), (w_X12_of I o 0 (fun r7 => (r7 ≤ v7 → k152 I v4 v5 v6) ∧ (¬ r7 ≤ v7 → w_X12_isReach I o a1 v5 v7 (fun b8 => (b8 = true → w_X12_stepCost I o (v4 + 1) v5 v7 (fun r9 => vp_in ((24 * (v4 + 1)) + v7) 1464 ∧ ∀ x10, x10 = (r9 + (I (o + 17) ((24 * (v4 + 1)) + v7).toNatClampNeg)) → (v6 ≤ x10 → ∀ x11, x11 = v7 + 1 → ZZ I v4 v5 v6 x11) ∧ (¬ v6 ≤ x10 → ∀ x12, x12 = v7 + 1 → ZZ I v4 v5 x10 x12))) ∧ (b8 = false → ∀ x13, x13 = v7 + 1 → ZZ I v4 v5 v6 x13))))) → ZZ I v4 v5 v6 v7) → ZZ I v4 v5 v6 v7
set_option maxRecDepth 100000 in
set_option maxHeartbeats 4000000 in
theorem s_X12_solves_75 {p : Program} {l : Launch} {e : Env} {s : State} {m : MethodId} {args : Array Value} {below : List Frame} {meth : Method} {c : Code} {D : va_G} {cA : Nat → ClassId} {Z : mZ} {bs : Ad} {n : Nat} {K : mK} {R : mR} {L : mL} (E : Ev p s m args c cX12_solves 9 RX12 D cA Z bs) (hr : meth.sig.returnType = none) (hlk : meth.locks = false) {o : Nat} {a1 : Int32} {a2 : Int32} {a3 : Int32} (ho : isX12 K R o) {post : mI → Prop} {k152 : mI → Int32 → Int32 → Int32 → Prop} (hk152 : ∀ (I : mI) (v4 : Int32) (v5 : Int32) (v6 : Int32) (H : Heap) (locs : List Loc) (ls : Array Slot), k152 I v4 v5 v6 → mm D cA bs (n, K, R, I, L) H → va_S (Ab bs) s.heap H locs → lv_has ls 9 [(0, .ref (ad bs o)), (1, .int a1), (4, .int v4), (5, .int v5), (6, .int v6)] → W p l e ({ frames := 2, cells := 0, slots := 0, locals := 45 } : Room) s m args below meth c H locs 0 0 (MQ below (QV D cA bs (fun u => ∃ I', u = (n, K, R, I', L) ∧ post I')) args s 0 0 (Ab bs)) (F0 m 152 ls [])) {I : mI} {v4 : Int32} {v5 : Int32} {v6 : Int32} {v7 : Int32} {H : Heap} {locs : List Loc} {ls : Array Slot} (hw : w_X12_solves_75 o a1 a2 a3 post k152 I v4 v5 v6 v7) (hM : mm D cA bs (n, K, R, I, L) H) (hS : va_S (Ab bs) s.heap H locs) (hl : lv_has ls 9 [(0, .ref (ad bs o)), (1, .int a1), (4, .int v4), (5, .int v5), (6, .int v6), (7, .int v7)]) : W p l e ({ frames := 2, cells := 0, slots := 0, locals := 45 } : Room) s m args below meth c H locs 0 0 (MQ below (QV D cA bs (fun u => ∃ I', u = (n, K, R, I', L) ∧ post I')) args s 0 0 (Ab bs)) (F0 m 75 ls []) := by
  have hx := E.1.1
  have hb := E.1.2.1
  refine hw (fun I v4 v5 v6 v7 => ∀ (H : Heap) (locs : List Loc) (ls : Array Slot), mm D cA bs (n, K, R, I, L) H → va_S (Ab bs) s.heap H locs → lv_has ls 9 [(0, .ref (ad bs o)), (1, .int a1), (4, .int v4), (5, .int v5), (6, .int v6), (7, .int v7)] → W p l e ({ frames := 2, cells := 0, slots := 0, locals := 45 } : Room) s m args below meth c H locs 0 0 (MQ below (QV D cA bs (fun u => ∃ I', u = (n, K, R, I', L) ∧ post I')) args s 0 0 (Ab bs)) (F0 m 75 ls [])) ?_ H locs ls hM hS hl
  clear hw hM hS hl
  intro I v4 v5 v6 v7 hw H locs ls hM hS hl
  refine lv_iload hx hb dX12_solves_75 (lv_at hl 5 rfl) ?_
  refine lv_aload_n hx hb dX12_solves_77 rfl (lv_at hl 0 rfl) ?_
  refine lv_iconst (v := 0) hx hb dX12_solves_78 (by decide) ?_
  refine m_ci (m_runV E hM hS cs_X12_205 ho.1 (by decide) rfl rfl (c_X12_of ho hw) rfl rfl ⟨Nat.le_of_ble_eq_true rfl, Nat.le_of_ble_eq_true rfl⟩ rfl hl.1 rfl (Nat.le_of_ble_eq_true rfl) dX12_solves_79 ⟨Nat.le_of_ble_eq_true rfl, Nat.le_of_ble_eq_true rfl⟩) hS (fun r7 u H locs hp hM hS => ?_)
  obtain ⟨rfl, hw⟩ := hp
  refine lv_icmp_ge (tgt := 152) hx hb dX12_solves_82 (by decide) (fun cq => ?_) (fun cq => ?_)
  · have hw := hw.1 cq
    exact hk152 _ _ _ _ H locs ls  hw hM hS (lv_sub hl [0, 1, 2, 3, 4] rfl)
  · have hw := hw.2 cq
    refine lv_aload_n hx hb dX12_solves_85 rfl (lv_at hl 0 rfl) ?_
    refine lv_iload_n hx hb dX12_solves_86 rfl (lv_at hl 1 rfl) ?_
    refine lv_iload hx hb dX12_solves_87 (lv_at hl 3 rfl) ?_
    refine lv_iload hx hb dX12_solves_89 (lv_at hl 5 rfl) ?_
    refine m_ci (m_runV E hM hS cs_X12_335 ho.1 (by decide) rfl rfl (c_X12_isReach ho hw) rfl rfl ⟨Nat.le_of_ble_eq_true rfl, Nat.le_of_ble_eq_true rfl⟩ rfl hl.1 rfl (Nat.le_of_ble_eq_true rfl) dX12_solves_91 ⟨Nat.le_of_ble_eq_true rfl, Nat.le_of_ble_eq_true rfl⟩) hS (fun r9 u H locs hp hM hS => ?_)
    obtain ⟨b8, rfl, rfl, hw⟩ := hp
    refine lv_if_ne (tgt := 100) hx hb dX12_solves_94 (by decide) (fun cq => ?_) (fun cq => ?_)
    · have hw := hw.1 (bI_t cq)
      refine lv_aload_n hx hb dX12_solves_100 rfl (lv_at hl 0 rfl) ?_
      refine lv_iload hx hb dX12_solves_101 (lv_at hl 2 rfl) ?_
      refine lv_iconst (v := 1) hx hb dX12_solves_103 (by decide) ?_
      refine lv_iadd hx hb dX12_solves_104 ?_
      refine lv_iload hx hb dX12_solves_105 (lv_at hl 3 rfl) ?_
      refine lv_iload hx hb dX12_solves_107 (lv_at hl 5 rfl) ?_
      refine m_ci (m_runV E hM hS cs_X12_338 ho.1 (by decide) rfl rfl (c_X12_stepCost ho hw) rfl rfl ⟨Nat.le_of_ble_eq_true rfl, Nat.le_of_ble_eq_true rfl⟩ rfl hl.1 rfl (Nat.le_of_ble_eq_true rfl) dX12_solves_109 ⟨Nat.le_of_ble_eq_true rfl, Nat.le_of_ble_eq_true rfl⟩) hS (fun r9 u H locs hp hM hS => ?_)
      obtain ⟨rfl, hw⟩ := hp
      refine lv_aload_n hx hb dX12_solves_112 rfl (lv_at hl 0 rfl) ?_
      refine m_getr E hM fs_X12_59 ho.1 (isO_at ho 16 rfl).1 dX12_solves_113 ?_
      refine lv_bipush (v := 24) hx hb dX12_solves_116 (by decide) ?_
      refine lv_iload hx hb dX12_solves_118 (lv_at hl 2 rfl) ?_
      refine lv_iconst (v := 1) hx hb dX12_solves_120 (by decide) ?_
      refine lv_iadd hx hb dX12_solves_121 ?_
      refine lv_imul hx hb dX12_solves_122 ?_
      refine lv_iload hx hb dX12_solves_123 (lv_at hl 5 rfl) ?_
      refine lv_iadd hx hb dX12_solves_125 ?_
      obtain ⟨hv, hw⟩ := hw
      refine m_iald E hM (isO_at ho 16 rfl).2 hv dX12_solves_126 ?_
      refine lv_iadd hx hb dX12_solves_127 ?_
      refine lv_topi (fun x10 ex10 => ?_)
      have hw := hw x10 ex10
      refine lv_istore (lv' := [(8, .int x10), (0, .ref (ad bs o)), (1, .int a1), (4, .int v4), (5, .int v5), (6, .int v6), (7, .int v7)]) hx hb dX12_solves_128 hl (by decide) rfl (fun ls hl => ?_)
      refine lv_iload hx hb dX12_solves_130 (lv_at hl 0 rfl) ?_
      refine lv_iload hx hb dX12_solves_132 (lv_at hl 5 rfl) ?_
      refine lv_icmp_ge (tgt := 142) hx hb dX12_solves_134 (by decide) (fun cq => ?_) (fun cq => ?_)
      · have hw := hw.1 cq
        refine lv_iload hx hb dX12_solves_142 (lv_at hl 5 rfl) ?_
        refine lv_istore (lv' := [(6, .int v6), (8, .int x10), (0, .ref (ad bs o)), (1, .int a1), (4, .int v4), (5, .int v5), (7, .int v7)]) hx hb dX12_solves_144 hl (by decide) rfl (fun ls hl => ?_)
        obtain ⟨x11, ex11⟩ : ∃ y : Int32, y = v7 + 1 := ⟨_, rfl⟩
        have hw := hw x11 ex11
        refine lv_iinc (v := x11) (lv' := [(7, .int x11), (6, .int v6), (8, .int x10), (0, .ref (ad bs o)), (1, .int a1), (4, .int v4), (5, .int v5)]) hx hb dX12_solves_146 hl (k := 6) rfl (by rw [ex11]; rfl) (by decide) rfl (fun ls hl => ?_)
        refine lv_goto (tgt := 75) hx hb dX12_solves_149 (by decide) ?_
        exact hw H locs ls  hM hS (lv_sub hl [3, 4, 5, 6, 1, 0] rfl)
      · have hw := hw.2 cq
        refine lv_iload hx hb dX12_solves_137 (lv_at hl 0 rfl) ?_
        refine lv_goto (tgt := 144) hx hb dX12_solves_139 (by decide) ?_
        refine lv_istore (lv' := [(6, .int x10), (8, .int x10), (0, .ref (ad bs o)), (1, .int a1), (4, .int v4), (5, .int v5), (7, .int v7)]) hx hb dX12_solves_144 hl (by decide) rfl (fun ls hl => ?_)
        obtain ⟨x12, ex12⟩ : ∃ y : Int32, y = v7 + 1 := ⟨_, rfl⟩
        have hw := hw x12 ex12
        refine lv_iinc (v := x12) (lv' := [(7, .int x12), (6, .int x10), (8, .int x10), (0, .ref (ad bs o)), (1, .int a1), (4, .int v4), (5, .int v5)]) hx hb dX12_solves_146 hl (k := 6) rfl (by rw [ex12]; rfl) (by decide) rfl (fun ls hl => ?_)
        refine lv_goto (tgt := 75) hx hb dX12_solves_149 (by decide) ?_
        exact hw H locs ls  hM hS (lv_sub hl [3, 4, 5, 6, 1, 0] rfl)
    · have hw := hw.2 (bI_f cq)
      refine lv_goto (tgt := 146) hx hb dX12_solves_97 (by decide) ?_
      obtain ⟨x13, ex13⟩ : ∃ y : Int32, y = v7 + 1 := ⟨_, rfl⟩
      have hw := hw x13 ex13
      refine lv_iinc (v := x13) (lv' := [(7, .int x13), (0, .ref (ad bs o)), (1, .int a1), (4, .int v4), (5, .int v5), (6, .int v6)]) hx hb dX12_solves_146 hl (k := 5) rfl (by rw [ex13]; rfl) (by decide) rfl (fun ls hl => ?_)
      refine lv_goto (tgt := 75) hx hb dX12_solves_149 (by decide) ?_
      exact hw H locs ls  hM hS (lv_sub hl [1, 2, 3, 4, 5, 0] rfl)
def w_X12_solves_152 (o : Nat) (a1 : Int32) (a2 : Int32) (a3 : Int32) (post : mI → Prop) (k57 : mI → Int32 → Int32 → Prop) (I : mI) (v4 : Int32) (v5 : Int32) (v6 : Int32) : Prop := vp_in ((24 * v4) + v5) 1464 ∧ ∀ I14, I14 = up2 I (o + 17) (((24 * v4) + v5).toNatClampNeg) v6 → ∀ x15, x15 = v5 + 1 → k57 I14 v4 x15
set_option maxRecDepth 100000 in
set_option maxHeartbeats 4000000 in
theorem s_X12_solves_152 {p : Program} {l : Launch} {e : Env} {s : State} {m : MethodId} {args : Array Value} {below : List Frame} {meth : Method} {c : Code} {D : va_G} {cA : Nat → ClassId} {Z : mZ} {bs : Ad} {n : Nat} {K : mK} {R : mR} {L : mL} (E : Ev p s m args c cX12_solves 9 RX12 D cA Z bs) (hr : meth.sig.returnType = none) (hlk : meth.locks = false) {o : Nat} {a1 : Int32} {a2 : Int32} {a3 : Int32} (ho : isX12 K R o) {post : mI → Prop} {k57 : mI → Int32 → Int32 → Prop} (hk57 : ∀ (I : mI) (v4 : Int32) (v5 : Int32) (H : Heap) (locs : List Loc) (ls : Array Slot), k57 I v4 v5 → mm D cA bs (n, K, R, I, L) H → va_S (Ab bs) s.heap H locs → lv_has ls 9 [(0, .ref (ad bs o)), (1, .int a1), (4, .int v4), (5, .int v5)] → W p l e ({ frames := 2, cells := 0, slots := 0, locals := 45 } : Room) s m args below meth c H locs 0 0 (MQ below (QV D cA bs (fun u => ∃ I', u = (n, K, R, I', L) ∧ post I')) args s 0 0 (Ab bs)) (F0 m 57 ls [])) {I : mI} {v4 : Int32} {v5 : Int32} {v6 : Int32} {H : Heap} {locs : List Loc} {ls : Array Slot} (hw : w_X12_solves_152 o a1 a2 a3 post k57 I v4 v5 v6) (hM : mm D cA bs (n, K, R, I, L) H) (hS : va_S (Ab bs) s.heap H locs) (hl : lv_has ls 9 [(0, .ref (ad bs o)), (1, .int a1), (4, .int v4), (5, .int v5), (6, .int v6)]) : W p l e ({ frames := 2, cells := 0, slots := 0, locals := 45 } : Room) s m args below meth c H locs 0 0 (MQ below (QV D cA bs (fun u => ∃ I', u = (n, K, R, I', L) ∧ post I')) args s 0 0 (Ab bs)) (F0 m 152 ls []) := by
  have hx := E.1.1
  have hb := E.1.2.1
  refine lv_aload_n hx hb dX12_solves_152 rfl (lv_at hl 0 rfl) ?_
  refine m_getr E hM fs_X12_59 ho.1 (isO_at ho 16 rfl).1 dX12_solves_153 ?_
  refine lv_bipush (v := 24) hx hb dX12_solves_156 (by decide) ?_
  refine lv_iload hx hb dX12_solves_158 (lv_at hl 2 rfl) ?_
  refine lv_imul hx hb dX12_solves_160 ?_
  refine lv_iload hx hb dX12_solves_161 (lv_at hl 3 rfl) ?_
  refine lv_iadd hx hb dX12_solves_163 ?_
  refine lv_iload hx hb dX12_solves_164 (lv_at hl 4 rfl) ?_
  obtain ⟨hv, hw⟩ := hw
  refine m_iast E hM hS (isO_at ho 16 rfl).2 hv dX12_solves_166 (fun I14 H locs eI14 hM hS => ?_)
  have hw := hw I14 eI14
  obtain ⟨x15, ex15⟩ : ∃ y : Int32, y = v5 + 1 := ⟨_, rfl⟩
  have hw := hw x15 ex15
  refine lv_iinc (v := x15) (lv' := [(5, .int x15), (0, .ref (ad bs o)), (1, .int a1), (4, .int v4), (6, .int v6)]) hx hb dX12_solves_167 hl (k := 3) rfl (by rw [ex15]; rfl) (by decide) rfl (fun ls hl => ?_)
  refine lv_goto (tgt := 57) hx hb dX12_solves_170 (by decide) ?_
  exact hk57 _ _ _ H locs ls  hw hM hS (lv_sub hl [1, 2, 3, 0] rfl)
def w_X12_solves_57 (o : Nat) (a1 : Int32) (a2 : Int32) (a3 : Int32) (post : mI → Prop) (k49 : mI → Int32 → Prop) (I : mI) (v4 : Int32) (v5 : Int32) : Prop := ∀ ZZ : (mI → Int32 → Int32 → Prop), (∀ (I : mI) (v4 : Int32) (v5 : Int32), (w_X12_of I o 0 (fun r5 => (r5 ≤ v5 → ∀ x6, x6 = v4 + (-1) → k49 I x6) ∧ (¬ r5 ≤ v5 → (w_X12_solves_75 o a1 a2 a3 post (w_X12_solves_152 o a1 a2 a3 post ZZ)) I v4 v5 1000000 0))) → ZZ I v4 v5) → ZZ I v4 v5
set_option maxRecDepth 100000 in
set_option maxHeartbeats 4000000 in
theorem s_X12_solves_57 {p : Program} {l : Launch} {e : Env} {s : State} {m : MethodId} {args : Array Value} {below : List Frame} {meth : Method} {c : Code} {D : va_G} {cA : Nat → ClassId} {Z : mZ} {bs : Ad} {n : Nat} {K : mK} {R : mR} {L : mL} (E : Ev p s m args c cX12_solves 9 RX12 D cA Z bs) (hr : meth.sig.returnType = none) (hlk : meth.locks = false) {o : Nat} {a1 : Int32} {a2 : Int32} {a3 : Int32} (ho : isX12 K R o) {post : mI → Prop} {k49 : mI → Int32 → Prop} (hk49 : ∀ (I : mI) (v4 : Int32) (H : Heap) (locs : List Loc) (ls : Array Slot), k49 I v4 → mm D cA bs (n, K, R, I, L) H → va_S (Ab bs) s.heap H locs → lv_has ls 9 [(0, .ref (ad bs o)), (1, .int a1), (4, .int v4)] → W p l e ({ frames := 2, cells := 0, slots := 0, locals := 45 } : Room) s m args below meth c H locs 0 0 (MQ below (QV D cA bs (fun u => ∃ I', u = (n, K, R, I', L) ∧ post I')) args s 0 0 (Ab bs)) (F0 m 49 ls [])) {I : mI} {v4 : Int32} {v5 : Int32} {H : Heap} {locs : List Loc} {ls : Array Slot} (hw : w_X12_solves_57 o a1 a2 a3 post k49 I v4 v5) (hM : mm D cA bs (n, K, R, I, L) H) (hS : va_S (Ab bs) s.heap H locs) (hl : lv_has ls 9 [(0, .ref (ad bs o)), (1, .int a1), (4, .int v4), (5, .int v5)]) : W p l e ({ frames := 2, cells := 0, slots := 0, locals := 45 } : Room) s m args below meth c H locs 0 0 (MQ below (QV D cA bs (fun u => ∃ I', u = (n, K, R, I', L) ∧ post I')) args s 0 0 (Ab bs)) (F0 m 57 ls []) := by
  have hx := E.1.1
  have hb := E.1.2.1
  refine hw (fun I v4 v5 => ∀ (H : Heap) (locs : List Loc) (ls : Array Slot), mm D cA bs (n, K, R, I, L) H → va_S (Ab bs) s.heap H locs → lv_has ls 9 [(0, .ref (ad bs o)), (1, .int a1), (4, .int v4), (5, .int v5)] → W p l e ({ frames := 2, cells := 0, slots := 0, locals := 45 } : Room) s m args below meth c H locs 0 0 (MQ below (QV D cA bs (fun u => ∃ I', u = (n, K, R, I', L) ∧ post I')) args s 0 0 (Ab bs)) (F0 m 57 ls [])) ?_ H locs ls hM hS hl
  clear hw hM hS hl
  intro I v4 v5 hw H locs ls hM hS hl
  refine lv_iload hx hb dX12_solves_57 (lv_at hl 3 rfl) ?_
  refine lv_aload_n hx hb dX12_solves_59 rfl (lv_at hl 0 rfl) ?_
  refine lv_iconst (v := 0) hx hb dX12_solves_60 (by decide) ?_
  refine m_ci (m_runV E hM hS cs_X12_205 ho.1 (by decide) rfl rfl (c_X12_of ho hw) rfl rfl ⟨Nat.le_of_ble_eq_true rfl, Nat.le_of_ble_eq_true rfl⟩ rfl hl.1 rfl (Nat.le_of_ble_eq_true rfl) dX12_solves_61 ⟨Nat.le_of_ble_eq_true rfl, Nat.le_of_ble_eq_true rfl⟩) hS (fun r5 u H locs hp hM hS => ?_)
  obtain ⟨rfl, hw⟩ := hp
  refine lv_icmp_ge (tgt := 173) hx hb dX12_solves_64 (by decide) (fun cq => ?_) (fun cq => ?_)
  · have hw := hw.1 cq
    obtain ⟨x6, ex6⟩ : ∃ y : Int32, y = v4 + (-1) := ⟨_, rfl⟩
    have hw := hw x6 ex6
    refine lv_iinc (v := x6) (lv' := [(4, .int x6), (0, .ref (ad bs o)), (1, .int a1), (5, .int v5)]) hx hb dX12_solves_173 hl (k := 2) rfl (by rw [ex6]; rfl) (by decide) rfl (fun ls hl => ?_)
    refine lv_goto (tgt := 49) hx hb dX12_solves_176 (by decide) ?_
    exact hk49 _ _ H locs ls  hw hM hS (lv_sub hl [1, 2, 0] rfl)
  · have hw := hw.2 cq
    refine lv_ldcw (v := 1000000) hx hb E.1.2.2.2.1 (E.1.2.2.2.2 _ (gw_of 1726 (by decide +kernel) (by decide +kernel))) dX12_solves_67 ?_
    refine lv_istore (lv' := [(6, .int 1000000), (0, .ref (ad bs o)), (1, .int a1), (4, .int v4), (5, .int v5)]) hx hb dX12_solves_70 hl (by decide) rfl (fun ls hl => ?_)
    refine lv_iconst (v := 0) hx hb dX12_solves_72 (by decide) ?_
    refine lv_istore (lv' := [(7, .int 0), (6, .int 1000000), (0, .ref (ad bs o)), (1, .int a1), (4, .int v4), (5, .int v5)]) hx hb dX12_solves_73 hl (by decide) rfl (fun ls hl => ?_)
    exact s_X12_solves_75 E hr hlk ho (fun I v4 v5 v6 H locs ls  hw hM hS hl => s_X12_solves_152 E hr hlk ho (fun I v4 v5 H locs ls  hw hM hS hl => hw H locs ls  hM hS hl)  hw hM hS hl)  hw hM hS (lv_sub hl [2, 3, 4, 5, 1, 0] rfl)
def w_X12_solves_49 (o : Nat) (a1 : Int32) (a2 : Int32) (a3 : Int32) (post : mI → Prop) (I : mI) (v4 : Int32) : Prop := ∀ ZZ : (mI → Int32 → Prop), (∀ (I : mI) (v4 : Int32), ((v4 < 0 → post I) ∧ (¬ v4 < 0 → (w_X12_solves_57 o a1 a2 a3 post ZZ) I v4 0)) → ZZ I v4) → ZZ I v4
set_option maxRecDepth 100000 in
set_option maxHeartbeats 4000000 in
theorem s_X12_solves_49 {p : Program} {l : Launch} {e : Env} {s : State} {m : MethodId} {args : Array Value} {below : List Frame} {meth : Method} {c : Code} {D : va_G} {cA : Nat → ClassId} {Z : mZ} {bs : Ad} {n : Nat} {K : mK} {R : mR} {L : mL} (E : Ev p s m args c cX12_solves 9 RX12 D cA Z bs) (hr : meth.sig.returnType = none) (hlk : meth.locks = false) {o : Nat} {a1 : Int32} {a2 : Int32} {a3 : Int32} (ho : isX12 K R o) {post : mI → Prop} {I : mI} {v4 : Int32} {H : Heap} {locs : List Loc} {ls : Array Slot} (hw : w_X12_solves_49 o a1 a2 a3 post I v4) (hM : mm D cA bs (n, K, R, I, L) H) (hS : va_S (Ab bs) s.heap H locs) (hl : lv_has ls 9 [(0, .ref (ad bs o)), (1, .int a1), (4, .int v4)]) : W p l e ({ frames := 2, cells := 0, slots := 0, locals := 45 } : Room) s m args below meth c H locs 0 0 (MQ below (QV D cA bs (fun u => ∃ I', u = (n, K, R, I', L) ∧ post I')) args s 0 0 (Ab bs)) (F0 m 49 ls []) := by
  have hx := E.1.1
  have hb := E.1.2.1
  refine hw (fun I v4 => ∀ (H : Heap) (locs : List Loc) (ls : Array Slot), mm D cA bs (n, K, R, I, L) H → va_S (Ab bs) s.heap H locs → lv_has ls 9 [(0, .ref (ad bs o)), (1, .int a1), (4, .int v4)] → W p l e ({ frames := 2, cells := 0, slots := 0, locals := 45 } : Room) s m args below meth c H locs 0 0 (MQ below (QV D cA bs (fun u => ∃ I', u = (n, K, R, I', L) ∧ post I')) args s 0 0 (Ab bs)) (F0 m 49 ls [])) ?_ H locs ls hM hS hl
  clear hw hM hS hl
  intro I v4 hw H locs ls hM hS hl
  refine lv_iload hx hb dX12_solves_49 (lv_at hl 2 rfl) ?_
  refine lv_if_lt (tgt := 179) hx hb dX12_solves_51 (by decide) (fun cq => ?_) (fun cq => ?_)
  · have hw := hw.1 cq
    exact m_retv hx hb hr hlk hM hS ⟨_, rfl, hw⟩ dX12_solves_179
  · have hw := hw.2 cq
    refine lv_iconst (v := 0) hx hb dX12_solves_54 (by decide) ?_
    refine lv_istore (lv' := [(5, .int 0), (0, .ref (ad bs o)), (1, .int a1), (4, .int v4)]) hx hb dX12_solves_55 hl (by decide) rfl (fun ls hl => ?_)
    exact s_X12_solves_57 E hr hlk ho (fun I v4 H locs ls  hw hM hS hl => hw H locs ls  hM hS hl)  hw hM hS (lv_sub hl [1, 2, 3, 0] rfl)
def w_X12_solves (I : mI) (o : Nat) (a1 : Int32) (a2 : Int32) (a3 : Int32) (post : mI → Prop) : Prop := (w_X12_solves_3 o a1 a2 a3 post (w_X12_solves_49 o a1 a2 a3 post)) I 0
set_option maxRecDepth 100000 in
set_option maxHeartbeats 4000000 in
theorem c_X12_solves {l : Launch} {D : va_G} {cA : Nat → ClassId} {Z : mZ} {bs : Ad} {n : Nat} {K : mK} {R : mR} {I : mI} {L : mL} {o : Nat} {a1 : Int32} {a2 : Int32} {a3 : Int32} {post : mI → Prop} (ho : isX12 K R o) (hw : w_X12_solves I o a1 a2 a3 post) : Met l yX12_solves (.code yX12_solves cX12_solves 9 none :: gw) ({ frames := 2, cells := 0, slots := 0, locals := 45 } : Room) (PreM D cA Z bs (n, K, R, I, L) [.ref (ad bs o), .int a1, .int a2, .int a3]) (QV D cA bs (fun u => ∃ I', u = (n, K, R, I', L) ∧ post I')) 0 0 (Ab bs) := by
  refine m_met (by decide) (Nat.le_of_ble_eq_true rfl) (fun p e s m below meth c ls E hr hlk hM hS hl => ?_)
  have E : Ev p s m _ c cX12_solves 9 RX12 D cA Z bs := E
  have hl : lv_has ls 9 [(0, .ref (ad bs o)), (1, .int a1), (2, .int a2), (3, .int a3)] := hl
  have hx := E.1.1
  have hb := E.1.2.1
  generalize hHe : s.heap = H at hM ⊢
  have hS : va_S (Ab bs) s.heap H [] := by rw [← hHe]; exact va_S.rf
  clear hHe
  refine lv_iconst (v := 0) hx hb dX12_solves_0 (by decide) ?_
  refine lv_istore (lv' := [(4, .int 0), (0, .ref (ad bs o)), (1, .int a1), (2, .int a2), (3, .int a3)]) hx hb dX12_solves_1 hl (by decide) rfl (fun ls hl => ?_)
  exact s_X12_solves_3 E hr hlk ho (fun I v4 H locs ls  hw hM hS hl => s_X12_solves_49 E hr hlk ho  hw hM hS hl)  hw hM hS (lv_sub hl [1, 2, 3, 4, 0] rfl)
theorem dX12_isWay_0 : decode cX12_isWay 0 = .ok (.aload_n 0, 1) := by decide +kernel
theorem dX12_isWay_1 : decode cX12_isWay 1 = .ok (.ldc_w 330, 3) := by decide +kernel
theorem dX12_isWay_4 : decode cX12_isWay 4 = .ok (.putfield 341, 3) := by decide +kernel
theorem dX12_isWay_7 : decode cX12_isWay 7 = .ok (.iconst 0, 1) := by decide +kernel
theorem dX12_isWay_8 : decode cX12_isWay 8 = .ok (.istore 4, 2) := by decide +kernel
theorem dX12_isWay_10 : decode cX12_isWay 10 = .ok (.iload 4, 2) := by decide +kernel
theorem dX12_isWay_12 : decode cX12_isWay 12 = .ok (.bipush 60, 2) := by decide +kernel
theorem dX12_isWay_14 : decode cX12_isWay 14 = .ok (.if_icmp .gt 49, 3) := by decide +kernel
theorem dX12_isWay_17 : decode cX12_isWay 17 = .ok (.aload_n 0, 1) := by decide +kernel
theorem dX12_isWay_18 : decode cX12_isWay 18 = .ok (.iload_n 1, 1) := by decide +kernel
theorem dX12_isWay_19 : decode cX12_isWay 19 = .ok (.iload_n 3, 1) := by decide +kernel
theorem dX12_isWay_20 : decode cX12_isWay 20 = .ok (.iload 4, 2) := by decide +kernel
theorem dX12_isWay_22 : decode cX12_isWay 22 = .ok (.invokevirtual 344, 3) := by decide +kernel
theorem dX12_isWay_25 : decode cX12_isWay 25 = .ok (.aload_n 0, 1) := by decide +kernel
theorem dX12_isWay_26 : decode cX12_isWay 26 = .ok (.getfield 59, 3) := by decide +kernel
theorem dX12_isWay_29 : decode cX12_isWay 29 = .ok (.iload_n 2, 1) := by decide +kernel
theorem dX12_isWay_30 : decode cX12_isWay 30 = .ok (.iaload, 1) := by decide +kernel
theorem dX12_isWay_31 : decode cX12_isWay 31 = .ok (.aload_n 0, 1) := by decide +kernel
theorem dX12_isWay_32 : decode cX12_isWay 32 = .ok (.getfield 341, 3) := by decide +kernel
theorem dX12_isWay_35 : decode cX12_isWay 35 = .ok (.if_icmp .lt 6, 3) := by decide +kernel
theorem dX12_isWay_38 : decode cX12_isWay 38 = .ok (.goto 19, 3) := by decide +kernel
theorem dX12_isWay_41 : decode cX12_isWay 41 = .ok (.aload_n 0, 1) := by decide +kernel
theorem dX12_isWay_42 : decode cX12_isWay 42 = .ok (.aload_n 0, 1) := by decide +kernel
theorem dX12_isWay_43 : decode cX12_isWay 43 = .ok (.getfield 59, 3) := by decide +kernel
theorem dX12_isWay_46 : decode cX12_isWay 46 = .ok (.iload_n 2, 1) := by decide +kernel
theorem dX12_isWay_47 : decode cX12_isWay 47 = .ok (.iaload, 1) := by decide +kernel
theorem dX12_isWay_48 : decode cX12_isWay 48 = .ok (.putfield 341, 3) := by decide +kernel
theorem dX12_isWay_51 : decode cX12_isWay 51 = .ok (.aload_n 0, 1) := by decide +kernel
theorem dX12_isWay_52 : decode cX12_isWay 52 = .ok (.iload 4, 2) := by decide +kernel
theorem dX12_isWay_54 : decode cX12_isWay 54 = .ok (.putfield 347, 3) := by decide +kernel
theorem dX12_isWay_57 : decode cX12_isWay 57 = .ok (.iinc 4 1, 3) := by decide +kernel
theorem dX12_isWay_60 : decode cX12_isWay 60 = .ok (.goto (-50), 3) := by decide +kernel
theorem dX12_isWay_63 : decode cX12_isWay 63 = .ok (.aload_n 0, 1) := by decide +kernel
theorem dX12_isWay_64 : decode cX12_isWay 64 = .ok (.getfield 341, 3) := by decide +kernel
theorem dX12_isWay_67 : decode cX12_isWay 67 = .ok (.ldc_w 330, 3) := by decide +kernel
theorem dX12_isWay_70 : decode cX12_isWay 70 = .ok (.if_icmp .lt 5, 3) := by decide +kernel
theorem dX12_isWay_73 : decode cX12_isWay 73 = .ok (.iconst 0, 1) := by decide +kernel
theorem dX12_isWay_74 : decode cX12_isWay 74 = .ok (.ireturn, 1) := by decide +kernel
theorem dX12_isWay_75 : decode cX12_isWay 75 = .ok (.aload_n 0, 1) := by decide +kernel
theorem dX12_isWay_76 : decode cX12_isWay 76 = .ok (.iload_n 1, 1) := by decide +kernel
theorem dX12_isWay_77 : decode cX12_isWay 77 = .ok (.iload_n 3, 1) := by decide +kernel
theorem dX12_isWay_78 : decode cX12_isWay 78 = .ok (.aload_n 0, 1) := by decide +kernel
theorem dX12_isWay_79 : decode cX12_isWay 79 = .ok (.getfield 347, 3) := by decide +kernel
theorem dX12_isWay_82 : decode cX12_isWay 82 = .ok (.invokevirtual 344, 3) := by decide +kernel
theorem dX12_isWay_85 : decode cX12_isWay 85 = .ok (.iload_n 2, 1) := by decide +kernel
theorem dX12_isWay_86 : decode cX12_isWay 86 = .ok (.istore 4, 2) := by decide +kernel
theorem dX12_isWay_88 : decode cX12_isWay 88 = .ok (.iconst 0, 1) := by decide +kernel
theorem dX12_isWay_89 : decode cX12_isWay 89 = .ok (.istore 5, 2) := by decide +kernel
theorem dX12_isWay_91 : decode cX12_isWay 91 = .ok (.iload 5, 2) := by decide +kernel
theorem dX12_isWay_93 : decode cX12_isWay 93 = .ok (.aload_n 0, 1) := by decide +kernel
theorem dX12_isWay_94 : decode cX12_isWay 94 = .ok (.getfield 347, 3) := by decide +kernel
theorem dX12_isWay_97 : decode cX12_isWay 97 = .ok (.if_icmp .ge 87, 3) := by decide +kernel
theorem dX12_isWay_100 : decode cX12_isWay 100 = .ok (.iconst 0, 1) := by decide +kernel
theorem dX12_isWay_101 : decode cX12_isWay 101 = .ok (.istore 6, 2) := by decide +kernel
theorem dX12_isWay_103 : decode cX12_isWay 103 = .ok (.aload_n 0, 1) := by decide +kernel
theorem dX12_isWay_104 : decode cX12_isWay 104 = .ok (.iload_n 1, 1) := by decide +kernel
theorem dX12_isWay_105 : decode cX12_isWay 105 = .ok (.iload 4, 2) := by decide +kernel
theorem dX12_isWay_107 : decode cX12_isWay 107 = .ok (.iload 6, 2) := by decide +kernel
theorem dX12_isWay_109 : decode cX12_isWay 109 = .ok (.invokevirtual 335, 3) := by decide +kernel
theorem dX12_isWay_112 : decode cX12_isWay 112 = .ok (.ifCond .eq 47, 3) := by decide +kernel
theorem dX12_isWay_115 : decode cX12_isWay 115 = .ok (.aload_n 0, 1) := by decide +kernel
theorem dX12_isWay_116 : decode cX12_isWay 116 = .ok (.iload 5, 2) := by decide +kernel
theorem dX12_isWay_118 : decode cX12_isWay 118 = .ok (.iconst 1, 1) := by decide +kernel
theorem dX12_isWay_119 : decode cX12_isWay 119 = .ok (.iadd, 1) := by decide +kernel
theorem dX12_isWay_120 : decode cX12_isWay 120 = .ok (.iload 4, 2) := by decide +kernel
theorem dX12_isWay_122 : decode cX12_isWay 122 = .ok (.iload 6, 2) := by decide +kernel
theorem dX12_isWay_124 : decode cX12_isWay 124 = .ok (.invokevirtual 338, 3) := by decide +kernel
theorem dX12_isWay_127 : decode cX12_isWay 127 = .ok (.aload_n 0, 1) := by decide +kernel
theorem dX12_isWay_128 : decode cX12_isWay 128 = .ok (.getfield 59, 3) := by decide +kernel
theorem dX12_isWay_131 : decode cX12_isWay 131 = .ok (.bipush 24, 2) := by decide +kernel
theorem dX12_isWay_133 : decode cX12_isWay 133 = .ok (.iload 5, 2) := by decide +kernel
theorem dX12_isWay_135 : decode cX12_isWay 135 = .ok (.iconst 1, 1) := by decide +kernel
theorem dX12_isWay_136 : decode cX12_isWay 136 = .ok (.iadd, 1) := by decide +kernel
theorem dX12_isWay_137 : decode cX12_isWay 137 = .ok (.imul, 1) := by decide +kernel
theorem dX12_isWay_138 : decode cX12_isWay 138 = .ok (.iload 6, 2) := by decide +kernel
theorem dX12_isWay_140 : decode cX12_isWay 140 = .ok (.iadd, 1) := by decide +kernel
theorem dX12_isWay_141 : decode cX12_isWay 141 = .ok (.iaload, 1) := by decide +kernel
theorem dX12_isWay_142 : decode cX12_isWay 142 = .ok (.iadd, 1) := by decide +kernel
theorem dX12_isWay_143 : decode cX12_isWay 143 = .ok (.aload_n 0, 1) := by decide +kernel
theorem dX12_isWay_144 : decode cX12_isWay 144 = .ok (.getfield 59, 3) := by decide +kernel
theorem dX12_isWay_147 : decode cX12_isWay 147 = .ok (.bipush 24, 2) := by decide +kernel
theorem dX12_isWay_149 : decode cX12_isWay 149 = .ok (.iload 5, 2) := by decide +kernel
theorem dX12_isWay_151 : decode cX12_isWay 151 = .ok (.imul, 1) := by decide +kernel
theorem dX12_isWay_152 : decode cX12_isWay 152 = .ok (.iload 4, 2) := by decide +kernel
theorem dX12_isWay_154 : decode cX12_isWay 154 = .ok (.iadd, 1) := by decide +kernel
theorem dX12_isWay_155 : decode cX12_isWay 155 = .ok (.iaload, 1) := by decide +kernel
theorem dX12_isWay_156 : decode cX12_isWay 156 = .ok (.if_icmp .eq 9, 3) := by decide +kernel
theorem dX12_isWay_159 : decode cX12_isWay 159 = .ok (.iinc 6 1, 3) := by decide +kernel
theorem dX12_isWay_162 : decode cX12_isWay 162 = .ok (.goto (-59), 3) := by decide +kernel
theorem dX12_isWay_165 : decode cX12_isWay 165 = .ok (.aload_n 0, 1) := by decide +kernel
theorem dX12_isWay_166 : decode cX12_isWay 166 = .ok (.getfield 62, 3) := by decide +kernel
theorem dX12_isWay_169 : decode cX12_isWay 169 = .ok (.iload 5, 2) := by decide +kernel
theorem dX12_isWay_171 : decode cX12_isWay 171 = .ok (.iload 6, 2) := by decide +kernel
theorem dX12_isWay_173 : decode cX12_isWay 173 = .ok (.iastore, 1) := by decide +kernel
theorem dX12_isWay_174 : decode cX12_isWay 174 = .ok (.iload 6, 2) := by decide +kernel
theorem dX12_isWay_176 : decode cX12_isWay 176 = .ok (.istore 4, 2) := by decide +kernel
theorem dX12_isWay_178 : decode cX12_isWay 178 = .ok (.iinc 5 1, 3) := by decide +kernel
theorem dX12_isWay_181 : decode cX12_isWay 181 = .ok (.goto (-90), 3) := by decide +kernel
theorem dX12_isWay_184 : decode cX12_isWay 184 = .ok (.iconst 1, 1) := by decide +kernel
theorem dX12_isWay_185 : decode cX12_isWay 185 = .ok (.ireturn, 1) := by decide +kernel
def w_X12_isWay_10 (o : Nat) (a1 : Int32) (a2 : Int32) (a3 : Int32) (post : Bool → mI → Prop) (k63 : mI → Prop) (I : mI) (v4 : Int32) : Prop := ∀ ZZ : (mI → Int32 → Prop), (∀ (I : mI) (v4 : Int32), ((60 < v4 → k63 I) ∧ (¬ 60 < v4 → w_X12_solves I o a1 a3 v4 (fun I2 => vp_in a2 1464 ∧ ((I2 (o + 17) a2.toNatClampNeg) < (I2 o 40) → vp_in a2 1464 ∧ ∀ I3, I3 = up2 I2 o 40 (I2 (o + 17) a2.toNatClampNeg) → ∀ I4, I4 = up2 I3 o 41 v4 → ∀ x5, x5 = v4 + 1 → ZZ I4 x5) ∧ (¬ (I2 (o + 17) a2.toNatClampNeg) < (I2 o 40) → ∀ x6, x6 = v4 + 1 → ZZ I2 x6)))) → ZZ I v4) → ZZ I v4
set_option maxRecDepth 100000 in
set_option maxHeartbeats 4000000 in
theorem s_X12_isWay_10 {p : Program} {l : Launch} {e : Env} {s : State} {m : MethodId} {args : Array Value} {below : List Frame} {meth : Method} {c : Code} {D : va_G} {cA : Nat → ClassId} {Z : mZ} {bs : Ad} {n : Nat} {K : mK} {R : mR} {L : mL} (E : Ev p s m args c cX12_isWay 7 RX12 D cA Z bs) (hr : meth.sig.returnType = (some .boolean)) (hlk : meth.locks = false) {o : Nat} {a1 : Int32} {a2 : Int32} {a3 : Int32} (ho : isX12 K R o) {post : Bool → mI → Prop} {k63 : mI → Prop} (hk63 : ∀ (I : mI) (H : Heap) (locs : List Loc) (ls : Array Slot), k63 I → mm D cA bs (n, K, R, I, L) H → va_S (Ab bs) s.heap H locs → lv_has ls 7 [(0, .ref (ad bs o)), (1, .int a1), (2, .int a2), (3, .int a3)] → W p l e ({ frames := 3, cells := 0, slots := 0, locals := 73 } : Room) s m args below meth c H locs 0 0 (MQ below (QI D cA bs (fun r u => ∃ b, r = bI b ∧ ∃ I', u = (n, K, R, I', L) ∧ post b I')) args s 0 0 (Ab bs)) (F0 m 63 ls [])) {I : mI} {v4 : Int32} {H : Heap} {locs : List Loc} {ls : Array Slot} (hw : w_X12_isWay_10 o a1 a2 a3 post k63 I v4) (hM : mm D cA bs (n, K, R, I, L) H) (hS : va_S (Ab bs) s.heap H locs) (hl : lv_has ls 7 [(0, .ref (ad bs o)), (1, .int a1), (2, .int a2), (3, .int a3), (4, .int v4)]) : W p l e ({ frames := 3, cells := 0, slots := 0, locals := 73 } : Room) s m args below meth c H locs 0 0 (MQ below (QI D cA bs (fun r u => ∃ b, r = bI b ∧ ∃ I', u = (n, K, R, I', L) ∧ post b I')) args s 0 0 (Ab bs)) (F0 m 10 ls []) := by
  have hx := E.1.1
  have hb := E.1.2.1
  refine hw (fun I v4 => ∀ (H : Heap) (locs : List Loc) (ls : Array Slot), mm D cA bs (n, K, R, I, L) H → va_S (Ab bs) s.heap H locs → lv_has ls 7 [(0, .ref (ad bs o)), (1, .int a1), (2, .int a2), (3, .int a3), (4, .int v4)] → W p l e ({ frames := 3, cells := 0, slots := 0, locals := 73 } : Room) s m args below meth c H locs 0 0 (MQ below (QI D cA bs (fun r u => ∃ b, r = bI b ∧ ∃ I', u = (n, K, R, I', L) ∧ post b I')) args s 0 0 (Ab bs)) (F0 m 10 ls [])) ?_ H locs ls hM hS hl
  clear hw hM hS hl
  intro I v4 hw H locs ls hM hS hl
  refine lv_iload hx hb dX12_isWay_10 (lv_at hl 4 rfl) ?_
  refine lv_bipush (v := 60) hx hb dX12_isWay_12 (by decide) ?_
  refine lv_icmp_gt (tgt := 63) hx hb dX12_isWay_14 (by decide) (fun cq => ?_) (fun cq => ?_)
  · have hw := hw.1 cq
    exact hk63 _ H locs ls  hw hM hS (lv_sub hl [0, 1, 2, 3] rfl)
  · have hw := hw.2 cq
    refine lv_aload_n hx hb dX12_isWay_17 rfl (lv_at hl 0 rfl) ?_
    refine lv_iload_n hx hb dX12_isWay_18 rfl (lv_at hl 1 rfl) ?_
    refine lv_iload_n hx hb dX12_isWay_19 rfl (lv_at hl 3 rfl) ?_
    refine lv_iload hx hb dX12_isWay_20 (lv_at hl 4 rfl) ?_
    refine m_cv (m_runV E hM hS cs_X12_344 ho.1 (by decide) rfl rfl (c_X12_solves ho hw) rfl rfl ⟨Nat.le_of_ble_eq_true rfl, Nat.le_of_ble_eq_true rfl⟩ rfl hl.1 rfl (Nat.le_of_ble_eq_true rfl) dX12_isWay_22 ⟨Nat.le_of_ble_eq_true rfl, Nat.le_of_ble_eq_true rfl⟩) hS (fun u H locs hp hM hS => ?_)
    obtain ⟨I2, rfl, hw⟩ := hp
    refine lv_aload_n hx hb dX12_isWay_25 rfl (lv_at hl 0 rfl) ?_
    refine m_getr E hM fs_X12_59 ho.1 (isO_at ho 16 rfl).1 dX12_isWay_26 ?_
    refine lv_iload_n hx hb dX12_isWay_29 rfl (lv_at hl 2 rfl) ?_
    obtain ⟨hv, hw⟩ := hw
    refine m_iald E hM (isO_at ho 16 rfl).2 hv dX12_isWay_30 ?_
    refine lv_aload_n hx hb dX12_isWay_31 rfl (lv_at hl 0 rfl) ?_
    refine m_geti E hM fs_X12_341 ho.1 dX12_isWay_32 ?_
    refine lv_icmp_lt (tgt := 41) hx hb dX12_isWay_35 (by decide) (fun cq => ?_) (fun cq => ?_)
    · have hw := hw.1 cq
      refine lv_aload_n hx hb dX12_isWay_41 rfl (lv_at hl 0 rfl) ?_
      refine lv_aload_n hx hb dX12_isWay_42 rfl (lv_at hl 0 rfl) ?_
      refine m_getr E hM fs_X12_59 ho.1 (isO_at ho 16 rfl).1 dX12_isWay_43 ?_
      refine lv_iload_n hx hb dX12_isWay_46 rfl (lv_at hl 2 rfl) ?_
      obtain ⟨hv, hw⟩ := hw
      refine m_iald E hM (isO_at ho 16 rfl).2 hv dX12_isWay_47 ?_
      refine m_puti E hM hS fp_X12_341 ho.1 rfl rfl dX12_isWay_48 (fun I3 H locs eI3 hM hS => ?_)
      have hw := hw I3 eI3
      refine lv_aload_n hx hb dX12_isWay_51 rfl (lv_at hl 0 rfl) ?_
      refine lv_iload hx hb dX12_isWay_52 (lv_at hl 4 rfl) ?_
      refine m_puti E hM hS fp_X12_347 ho.1 rfl rfl dX12_isWay_54 (fun I4 H locs eI4 hM hS => ?_)
      have hw := hw I4 eI4
      obtain ⟨x5, ex5⟩ : ∃ y : Int32, y = v4 + 1 := ⟨_, rfl⟩
      have hw := hw x5 ex5
      refine lv_iinc (v := x5) (lv' := [(4, .int x5), (0, .ref (ad bs o)), (1, .int a1), (2, .int a2), (3, .int a3)]) hx hb dX12_isWay_57 hl (k := 4) rfl (by rw [ex5]; rfl) (by decide) rfl (fun ls hl => ?_)
      refine lv_goto (tgt := 10) hx hb dX12_isWay_60 (by decide) ?_
      exact hw H locs ls  hM hS (lv_sub hl [1, 2, 3, 4, 0] rfl)
    · have hw := hw.2 cq
      refine lv_goto (tgt := 57) hx hb dX12_isWay_38 (by decide) ?_
      obtain ⟨x6, ex6⟩ : ∃ y : Int32, y = v4 + 1 := ⟨_, rfl⟩
      have hw := hw x6 ex6
      refine lv_iinc (v := x6) (lv' := [(4, .int x6), (0, .ref (ad bs o)), (1, .int a1), (2, .int a2), (3, .int a3)]) hx hb dX12_isWay_57 hl (k := 4) rfl (by rw [ex6]; rfl) (by decide) rfl (fun ls hl => ?_)
      refine lv_goto (tgt := 10) hx hb dX12_isWay_60 (by decide) ?_
      exact hw H locs ls  hM hS (lv_sub hl [1, 2, 3, 4, 0] rfl)
def w_X12_isWay_103 (o : Nat) (a1 : Int32) (a2 : Int32) (a3 : Int32) (post : Bool → mI → Prop) (k165 : mI → Int32 → Int32 → Prop) (I : mI) (v4 : Int32) (v5 : Int32) (v6 : Int32) : Prop := ∀ ZZ : (mI → Int32 → Int32 → Int32 → Prop), (∀ (I : mI) (v4 : Int32) (v5 : Int32) (v6 : Int32), (w_X12_isReach I o a1 v4 v6 (fun b8 => (b8 = false → ∀ x9, x9 = v6 + 1 → ZZ I v4 v5 x9) ∧ (b8 = true → w_X12_stepCost I o (v5 + 1) v4 v6 (fun r10 => vp_in ((24 * (v5 + 1)) + v6) 1464 ∧ vp_in ((24 * v5) + v4) 1464 ∧ ((r10 + (I (o + 17) ((24 * (v5 + 1)) + v6).toNatClampNeg)) = (I (o + 17) ((24 * v5) + v4).toNatClampNeg) → k165 I v5 v6) ∧ (¬ (r10 + (I (o + 17) ((24 * (v5 + 1)) + v6).toNatClampNeg)) = (I (o + 17) ((24 * v5) + v4).toNatClampNeg) → ∀ x11, x11 = v6 + 1 → ZZ I v4 v5 x11))))) → ZZ I v4 v5 v6) → ZZ I v4 v5 v6
set_option maxRecDepth 100000 in
set_option maxHeartbeats 4000000 in
theorem s_X12_isWay_103 {p : Program} {l : Launch} {e : Env} {s : State} {m : MethodId} {args : Array Value} {below : List Frame} {meth : Method} {c : Code} {D : va_G} {cA : Nat → ClassId} {Z : mZ} {bs : Ad} {n : Nat} {K : mK} {R : mR} {L : mL} (E : Ev p s m args c cX12_isWay 7 RX12 D cA Z bs) (hr : meth.sig.returnType = (some .boolean)) (hlk : meth.locks = false) {o : Nat} {a1 : Int32} {a2 : Int32} {a3 : Int32} (ho : isX12 K R o) {post : Bool → mI → Prop} {k165 : mI → Int32 → Int32 → Prop} (hk165 : ∀ (I : mI) (v5 : Int32) (v6 : Int32) (H : Heap) (locs : List Loc) (ls : Array Slot), k165 I v5 v6 → mm D cA bs (n, K, R, I, L) H → va_S (Ab bs) s.heap H locs → lv_has ls 7 [(0, .ref (ad bs o)), (1, .int a1), (5, .int v5), (6, .int v6)] → W p l e ({ frames := 3, cells := 0, slots := 0, locals := 73 } : Room) s m args below meth c H locs 0 0 (MQ below (QI D cA bs (fun r u => ∃ b, r = bI b ∧ ∃ I', u = (n, K, R, I', L) ∧ post b I')) args s 0 0 (Ab bs)) (F0 m 165 ls [])) {I : mI} {v4 : Int32} {v5 : Int32} {v6 : Int32} {H : Heap} {locs : List Loc} {ls : Array Slot} (hw : w_X12_isWay_103 o a1 a2 a3 post k165 I v4 v5 v6) (hM : mm D cA bs (n, K, R, I, L) H) (hS : va_S (Ab bs) s.heap H locs) (hl : lv_has ls 7 [(0, .ref (ad bs o)), (1, .int a1), (4, .int v4), (5, .int v5), (6, .int v6)]) : W p l e ({ frames := 3, cells := 0, slots := 0, locals := 73 } : Room) s m args below meth c H locs 0 0 (MQ below (QI D cA bs (fun r u => ∃ b, r = bI b ∧ ∃ I', u = (n, K, R, I', L) ∧ post b I')) args s 0 0 (Ab bs)) (F0 m 103 ls []) := by
  have hx := E.1.1
  have hb := E.1.2.1
  refine hw (fun I v4 v5 v6 => ∀ (H : Heap) (locs : List Loc) (ls : Array Slot), mm D cA bs (n, K, R, I, L) H → va_S (Ab bs) s.heap H locs → lv_has ls 7 [(0, .ref (ad bs o)), (1, .int a1), (4, .int v4), (5, .int v5), (6, .int v6)] → W p l e ({ frames := 3, cells := 0, slots := 0, locals := 73 } : Room) s m args below meth c H locs 0 0 (MQ below (QI D cA bs (fun r u => ∃ b, r = bI b ∧ ∃ I', u = (n, K, R, I', L) ∧ post b I')) args s 0 0 (Ab bs)) (F0 m 103 ls [])) ?_ H locs ls hM hS hl
  clear hw hM hS hl
  intro I v4 v5 v6 hw H locs ls hM hS hl
  refine lv_aload_n hx hb dX12_isWay_103 rfl (lv_at hl 0 rfl) ?_
  refine lv_iload_n hx hb dX12_isWay_104 rfl (lv_at hl 1 rfl) ?_
  refine lv_iload hx hb dX12_isWay_105 (lv_at hl 2 rfl) ?_
  refine lv_iload hx hb dX12_isWay_107 (lv_at hl 4 rfl) ?_
  refine m_ci (m_runV E hM hS cs_X12_335 ho.1 (by decide) rfl rfl (c_X12_isReach ho hw) rfl rfl ⟨Nat.le_of_ble_eq_true rfl, Nat.le_of_ble_eq_true rfl⟩ rfl hl.1 rfl (Nat.le_of_ble_eq_true rfl) dX12_isWay_109 ⟨Nat.le_of_ble_eq_true rfl, Nat.le_of_ble_eq_true rfl⟩) hS (fun r9 u H locs hp hM hS => ?_)
  obtain ⟨b8, rfl, rfl, hw⟩ := hp
  refine lv_if_eq (tgt := 159) hx hb dX12_isWay_112 (by decide) (fun cq => ?_) (fun cq => ?_)
  · have hw := hw.1 (bI_f cq)
    obtain ⟨x9, ex9⟩ : ∃ y : Int32, y = v6 + 1 := ⟨_, rfl⟩
    have hw := hw x9 ex9
    refine lv_iinc (v := x9) (lv' := [(6, .int x9), (0, .ref (ad bs o)), (1, .int a1), (4, .int v4), (5, .int v5)]) hx hb dX12_isWay_159 hl (k := 4) rfl (by rw [ex9]; rfl) (by decide) rfl (fun ls hl => ?_)
    refine lv_goto (tgt := 103) hx hb dX12_isWay_162 (by decide) ?_
    exact hw H locs ls  hM hS (lv_sub hl [1, 2, 3, 4, 0] rfl)
  · have hw := hw.2 (bI_t cq)
    refine lv_aload_n hx hb dX12_isWay_115 rfl (lv_at hl 0 rfl) ?_
    refine lv_iload hx hb dX12_isWay_116 (lv_at hl 3 rfl) ?_
    refine lv_iconst (v := 1) hx hb dX12_isWay_118 (by decide) ?_
    refine lv_iadd hx hb dX12_isWay_119 ?_
    refine lv_iload hx hb dX12_isWay_120 (lv_at hl 2 rfl) ?_
    refine lv_iload hx hb dX12_isWay_122 (lv_at hl 4 rfl) ?_
    refine m_ci (m_runV E hM hS cs_X12_338 ho.1 (by decide) rfl rfl (c_X12_stepCost ho hw) rfl rfl ⟨Nat.le_of_ble_eq_true rfl, Nat.le_of_ble_eq_true rfl⟩ rfl hl.1 rfl (Nat.le_of_ble_eq_true rfl) dX12_isWay_124 ⟨Nat.le_of_ble_eq_true rfl, Nat.le_of_ble_eq_true rfl⟩) hS (fun r10 u H locs hp hM hS => ?_)
    obtain ⟨rfl, hw⟩ := hp
    refine lv_aload_n hx hb dX12_isWay_127 rfl (lv_at hl 0 rfl) ?_
    refine m_getr E hM fs_X12_59 ho.1 (isO_at ho 16 rfl).1 dX12_isWay_128 ?_
    refine lv_bipush (v := 24) hx hb dX12_isWay_131 (by decide) ?_
    refine lv_iload hx hb dX12_isWay_133 (lv_at hl 3 rfl) ?_
    refine lv_iconst (v := 1) hx hb dX12_isWay_135 (by decide) ?_
    refine lv_iadd hx hb dX12_isWay_136 ?_
    refine lv_imul hx hb dX12_isWay_137 ?_
    refine lv_iload hx hb dX12_isWay_138 (lv_at hl 4 rfl) ?_
    refine lv_iadd hx hb dX12_isWay_140 ?_
    obtain ⟨hv, hw⟩ := hw
    refine m_iald E hM (isO_at ho 16 rfl).2 hv dX12_isWay_141 ?_
    refine lv_iadd hx hb dX12_isWay_142 ?_
    refine lv_aload_n hx hb dX12_isWay_143 rfl (lv_at hl 0 rfl) ?_
    refine m_getr E hM fs_X12_59 ho.1 (isO_at ho 16 rfl).1 dX12_isWay_144 ?_
    refine lv_bipush (v := 24) hx hb dX12_isWay_147 (by decide) ?_
    refine lv_iload hx hb dX12_isWay_149 (lv_at hl 3 rfl) ?_
    refine lv_imul hx hb dX12_isWay_151 ?_
    refine lv_iload hx hb dX12_isWay_152 (lv_at hl 2 rfl) ?_
    refine lv_iadd hx hb dX12_isWay_154 ?_
    obtain ⟨hv, hw⟩ := hw
    refine m_iald E hM (isO_at ho 16 rfl).2 hv dX12_isWay_155 ?_
    refine lv_icmp_eq (tgt := 165) hx hb dX12_isWay_156 (by decide) (fun cq => ?_) (fun cq => ?_)
    · have hw := hw.1 cq
      exact hk165 _ _ _ H locs ls  hw hM hS (lv_sub hl [0, 1, 3, 4] rfl)
    · have hw := hw.2 cq
      obtain ⟨x11, ex11⟩ : ∃ y : Int32, y = v6 + 1 := ⟨_, rfl⟩
      have hw := hw x11 ex11
      refine lv_iinc (v := x11) (lv' := [(6, .int x11), (0, .ref (ad bs o)), (1, .int a1), (4, .int v4), (5, .int v5)]) hx hb dX12_isWay_159 hl (k := 4) rfl (by rw [ex11]; rfl) (by decide) rfl (fun ls hl => ?_)
      refine lv_goto (tgt := 103) hx hb dX12_isWay_162 (by decide) ?_
      exact hw H locs ls  hM hS (lv_sub hl [1, 2, 3, 4, 0] rfl)
def w_X12_isWay_165 (o : Nat) (a1 : Int32) (a2 : Int32) (a3 : Int32) (post : Bool → mI → Prop) (k91 : mI → Int32 → Int32 → Prop) (I : mI) (v5 : Int32) (v6 : Int32) : Prop := vp_in v5 61 ∧ ∀ I12, I12 = up2 I (o + 18) v5.toNatClampNeg v6 → ∀ x13, x13 = v5 + 1 → k91 I12 v6 x13
set_option maxRecDepth 100000 in
set_option maxHeartbeats 4000000 in
theorem s_X12_isWay_165 {p : Program} {l : Launch} {e : Env} {s : State} {m : MethodId} {args : Array Value} {below : List Frame} {meth : Method} {c : Code} {D : va_G} {cA : Nat → ClassId} {Z : mZ} {bs : Ad} {n : Nat} {K : mK} {R : mR} {L : mL} (E : Ev p s m args c cX12_isWay 7 RX12 D cA Z bs) (hr : meth.sig.returnType = (some .boolean)) (hlk : meth.locks = false) {o : Nat} {a1 : Int32} {a2 : Int32} {a3 : Int32} (ho : isX12 K R o) {post : Bool → mI → Prop} {k91 : mI → Int32 → Int32 → Prop} (hk91 : ∀ (I : mI) (v4 : Int32) (v5 : Int32) (H : Heap) (locs : List Loc) (ls : Array Slot), k91 I v4 v5 → mm D cA bs (n, K, R, I, L) H → va_S (Ab bs) s.heap H locs → lv_has ls 7 [(0, .ref (ad bs o)), (1, .int a1), (4, .int v4), (5, .int v5)] → W p l e ({ frames := 3, cells := 0, slots := 0, locals := 73 } : Room) s m args below meth c H locs 0 0 (MQ below (QI D cA bs (fun r u => ∃ b, r = bI b ∧ ∃ I', u = (n, K, R, I', L) ∧ post b I')) args s 0 0 (Ab bs)) (F0 m 91 ls [])) {I : mI} {v5 : Int32} {v6 : Int32} {H : Heap} {locs : List Loc} {ls : Array Slot} (hw : w_X12_isWay_165 o a1 a2 a3 post k91 I v5 v6) (hM : mm D cA bs (n, K, R, I, L) H) (hS : va_S (Ab bs) s.heap H locs) (hl : lv_has ls 7 [(0, .ref (ad bs o)), (1, .int a1), (5, .int v5), (6, .int v6)]) : W p l e ({ frames := 3, cells := 0, slots := 0, locals := 73 } : Room) s m args below meth c H locs 0 0 (MQ below (QI D cA bs (fun r u => ∃ b, r = bI b ∧ ∃ I', u = (n, K, R, I', L) ∧ post b I')) args s 0 0 (Ab bs)) (F0 m 165 ls []) := by
  have hx := E.1.1
  have hb := E.1.2.1
  refine lv_aload_n hx hb dX12_isWay_165 rfl (lv_at hl 0 rfl) ?_
  refine m_getr E hM fs_X12_62 ho.1 (isO_at ho 17 rfl).1 dX12_isWay_166 ?_
  refine lv_iload hx hb dX12_isWay_169 (lv_at hl 2 rfl) ?_
  refine lv_iload hx hb dX12_isWay_171 (lv_at hl 3 rfl) ?_
  obtain ⟨hv, hw⟩ := hw
  refine m_iast E hM hS (isO_at ho 17 rfl).2 hv dX12_isWay_173 (fun I12 H locs eI12 hM hS => ?_)
  have hw := hw I12 eI12
  refine lv_iload hx hb dX12_isWay_174 (lv_at hl 3 rfl) ?_
  refine lv_istore (lv' := [(4, .int v6), (0, .ref (ad bs o)), (1, .int a1), (5, .int v5), (6, .int v6)]) hx hb dX12_isWay_176 hl (by decide) rfl (fun ls hl => ?_)
  obtain ⟨x13, ex13⟩ : ∃ y : Int32, y = v5 + 1 := ⟨_, rfl⟩
  have hw := hw x13 ex13
  refine lv_iinc (v := x13) (lv' := [(5, .int x13), (4, .int v6), (0, .ref (ad bs o)), (1, .int a1), (6, .int v6)]) hx hb dX12_isWay_178 hl (k := 3) rfl (by rw [ex13]; rfl) (by decide) rfl (fun ls hl => ?_)
  refine lv_goto (tgt := 91) hx hb dX12_isWay_181 (by decide) ?_
  exact hk91 _ _ _ H locs ls  hw hM hS (lv_sub hl [2, 3, 1, 0] rfl)
def w_X12_isWay_91 (o : Nat) (a1 : Int32) (a2 : Int32) (a3 : Int32) (post : Bool → mI → Prop) (I : mI) (v4 : Int32) (v5 : Int32) : Prop := ∀ ZZ : (mI → Int32 → Int32 → Prop), (∀ (I : mI) (v4 : Int32) (v5 : Int32), (((I o 41) ≤ v5 → post true I) ∧ (¬ (I o 41) ≤ v5 → (w_X12_isWay_103 o a1 a2 a3 post (w_X12_isWay_165 o a1 a2 a3 post ZZ)) I v4 v5 0)) → ZZ I v4 v5) → ZZ I v4 v5
set_option maxRecDepth 100000 in
set_option maxHeartbeats 4000000 in
theorem s_X12_isWay_91 {p : Program} {l : Launch} {e : Env} {s : State} {m : MethodId} {args : Array Value} {below : List Frame} {meth : Method} {c : Code} {D : va_G} {cA : Nat → ClassId} {Z : mZ} {bs : Ad} {n : Nat} {K : mK} {R : mR} {L : mL} (E : Ev p s m args c cX12_isWay 7 RX12 D cA Z bs) (hr : meth.sig.returnType = (some .boolean)) (hlk : meth.locks = false) {o : Nat} {a1 : Int32} {a2 : Int32} {a3 : Int32} (ho : isX12 K R o) {post : Bool → mI → Prop} {I : mI} {v4 : Int32} {v5 : Int32} {H : Heap} {locs : List Loc} {ls : Array Slot} (hw : w_X12_isWay_91 o a1 a2 a3 post I v4 v5) (hM : mm D cA bs (n, K, R, I, L) H) (hS : va_S (Ab bs) s.heap H locs) (hl : lv_has ls 7 [(0, .ref (ad bs o)), (1, .int a1), (4, .int v4), (5, .int v5)]) : W p l e ({ frames := 3, cells := 0, slots := 0, locals := 73 } : Room) s m args below meth c H locs 0 0 (MQ below (QI D cA bs (fun r u => ∃ b, r = bI b ∧ ∃ I', u = (n, K, R, I', L) ∧ post b I')) args s 0 0 (Ab bs)) (F0 m 91 ls []) := by
  have hx := E.1.1
  have hb := E.1.2.1
  refine hw (fun I v4 v5 => ∀ (H : Heap) (locs : List Loc) (ls : Array Slot), mm D cA bs (n, K, R, I, L) H → va_S (Ab bs) s.heap H locs → lv_has ls 7 [(0, .ref (ad bs o)), (1, .int a1), (4, .int v4), (5, .int v5)] → W p l e ({ frames := 3, cells := 0, slots := 0, locals := 73 } : Room) s m args below meth c H locs 0 0 (MQ below (QI D cA bs (fun r u => ∃ b, r = bI b ∧ ∃ I', u = (n, K, R, I', L) ∧ post b I')) args s 0 0 (Ab bs)) (F0 m 91 ls [])) ?_ H locs ls hM hS hl
  clear hw hM hS hl
  intro I v4 v5 hw H locs ls hM hS hl
  refine lv_iload hx hb dX12_isWay_91 (lv_at hl 3 rfl) ?_
  refine lv_aload_n hx hb dX12_isWay_93 rfl (lv_at hl 0 rfl) ?_
  refine m_geti E hM fs_X12_347 ho.1 dX12_isWay_94 ?_
  refine lv_icmp_ge (tgt := 184) hx hb dX12_isWay_97 (by decide) (fun cq => ?_) (fun cq => ?_)
  · have hw := hw.1 cq
    refine lv_iconst (v := 1) hx hb dX12_isWay_184 (by decide) ?_
    exact m_retz hx hb hr hlk (Or.inr rfl) hM hS ⟨true, rfl, _, rfl, hw⟩ dX12_isWay_185
  · have hw := hw.2 cq
    refine lv_iconst (v := 0) hx hb dX12_isWay_100 (by decide) ?_
    refine lv_istore (lv' := [(6, .int 0), (0, .ref (ad bs o)), (1, .int a1), (4, .int v4), (5, .int v5)]) hx hb dX12_isWay_101 hl (by decide) rfl (fun ls hl => ?_)
    exact s_X12_isWay_103 E hr hlk ho (fun I v5 v6 H locs ls  hw hM hS hl => s_X12_isWay_165 E hr hlk ho (fun I v4 v5 H locs ls  hw hM hS hl => hw H locs ls  hM hS hl)  hw hM hS hl)  hw hM hS (lv_sub hl [1, 2, 3, 4, 0] rfl)
def w_X12_isWay_63 (o : Nat) (a1 : Int32) (a2 : Int32) (a3 : Int32) (post : Bool → mI → Prop) (I : mI) : Prop := ((I o 40) < 1000000 → w_X12_solves I o a1 a3 (I o 41) (fun I7 => (w_X12_isWay_91 o a1 a2 a3 post) I7 a2 0)) ∧ (¬ (I o 40) < 1000000 → post false I)
set_option maxRecDepth 100000 in
set_option maxHeartbeats 4000000 in
theorem s_X12_isWay_63 {p : Program} {l : Launch} {e : Env} {s : State} {m : MethodId} {args : Array Value} {below : List Frame} {meth : Method} {c : Code} {D : va_G} {cA : Nat → ClassId} {Z : mZ} {bs : Ad} {n : Nat} {K : mK} {R : mR} {L : mL} (E : Ev p s m args c cX12_isWay 7 RX12 D cA Z bs) (hr : meth.sig.returnType = (some .boolean)) (hlk : meth.locks = false) {o : Nat} {a1 : Int32} {a2 : Int32} {a3 : Int32} (ho : isX12 K R o) {post : Bool → mI → Prop} {I : mI} {H : Heap} {locs : List Loc} {ls : Array Slot} (hw : w_X12_isWay_63 o a1 a2 a3 post I) (hM : mm D cA bs (n, K, R, I, L) H) (hS : va_S (Ab bs) s.heap H locs) (hl : lv_has ls 7 [(0, .ref (ad bs o)), (1, .int a1), (2, .int a2), (3, .int a3)]) : W p l e ({ frames := 3, cells := 0, slots := 0, locals := 73 } : Room) s m args below meth c H locs 0 0 (MQ below (QI D cA bs (fun r u => ∃ b, r = bI b ∧ ∃ I', u = (n, K, R, I', L) ∧ post b I')) args s 0 0 (Ab bs)) (F0 m 63 ls []) := by
  have hx := E.1.1
  have hb := E.1.2.1
  refine lv_aload_n hx hb dX12_isWay_63 rfl (lv_at hl 0 rfl) ?_
  refine m_geti E hM fs_X12_341 ho.1 dX12_isWay_64 ?_
  refine lv_ldcw (v := 1000000) hx hb E.1.2.2.2.1 (E.1.2.2.2.2 _ (gw_of 1726 (by decide +kernel) (by decide +kernel))) dX12_isWay_67 ?_
  refine lv_icmp_lt (tgt := 75) hx hb dX12_isWay_70 (by decide) (fun cq => ?_) (fun cq => ?_)
  · have hw := hw.1 cq
    refine lv_aload_n hx hb dX12_isWay_75 rfl (lv_at hl 0 rfl) ?_
    refine lv_iload_n hx hb dX12_isWay_76 rfl (lv_at hl 1 rfl) ?_
    refine lv_iload_n hx hb dX12_isWay_77 rfl (lv_at hl 3 rfl) ?_
    refine lv_aload_n hx hb dX12_isWay_78 rfl (lv_at hl 0 rfl) ?_
    refine m_geti E hM fs_X12_347 ho.1 dX12_isWay_79 ?_
    refine m_cv (m_runV E hM hS cs_X12_344 ho.1 (by decide) rfl rfl (c_X12_solves ho hw) rfl rfl ⟨Nat.le_of_ble_eq_true rfl, Nat.le_of_ble_eq_true rfl⟩ rfl hl.1 rfl (Nat.le_of_ble_eq_true rfl) dX12_isWay_82 ⟨Nat.le_of_ble_eq_true rfl, Nat.le_of_ble_eq_true rfl⟩) hS (fun u H locs hp hM hS => ?_)
    obtain ⟨I7, rfl, hw⟩ := hp
    refine lv_iload_n hx hb dX12_isWay_85 rfl (lv_at hl 2 rfl) ?_
    refine lv_istore (lv' := [(4, .int a2), (0, .ref (ad bs o)), (1, .int a1), (2, .int a2), (3, .int a3)]) hx hb dX12_isWay_86 hl (by decide) rfl (fun ls hl => ?_)
    refine lv_iconst (v := 0) hx hb dX12_isWay_88 (by decide) ?_
    refine lv_istore (lv' := [(5, .int 0), (4, .int a2), (0, .ref (ad bs o)), (1, .int a1), (2, .int a2), (3, .int a3)]) hx hb dX12_isWay_89 hl (by decide) rfl (fun ls hl => ?_)
    exact s_X12_isWay_91 E hr hlk ho  hw hM hS (lv_sub hl [2, 3, 1, 0] rfl)
  · have hw := hw.2 cq
    refine lv_iconst (v := 0) hx hb dX12_isWay_73 (by decide) ?_
    exact m_retz hx hb hr hlk (Or.inl rfl) hM hS ⟨false, rfl, _, rfl, hw⟩ dX12_isWay_74
def w_X12_isWay (I : mI) (o : Nat) (a1 : Int32) (a2 : Int32) (a3 : Int32) (post : Bool → mI → Prop) : Prop := ∀ I1, I1 = up2 I o 40 1000000 → (w_X12_isWay_10 o a1 a2 a3 post (w_X12_isWay_63 o a1 a2 a3 post)) I1 0
set_option maxRecDepth 100000 in
set_option maxHeartbeats 4000000 in
theorem c_X12_isWay {l : Launch} {D : va_G} {cA : Nat → ClassId} {Z : mZ} {bs : Ad} {n : Nat} {K : mK} {R : mR} {I : mI} {L : mL} {o : Nat} {a1 : Int32} {a2 : Int32} {a3 : Int32} {post : Bool → mI → Prop} (ho : isX12 K R o) (hw : w_X12_isWay I o a1 a2 a3 post) : Met l yX12_isWay (.code yX12_isWay cX12_isWay 7 (some .boolean) :: gw) ({ frames := 3, cells := 0, slots := 0, locals := 73 } : Room) (PreM D cA Z bs (n, K, R, I, L) [.ref (ad bs o), .int a1, .int a2, .int a3]) (QI D cA bs (fun r u => ∃ b, r = bI b ∧ ∃ I', u = (n, K, R, I', L) ∧ post b I')) 0 0 (Ab bs) := by
  refine m_met (by decide) (Nat.le_of_ble_eq_true rfl) (fun p e s m below meth c ls E hr hlk hM hS hl => ?_)
  have E : Ev p s m _ c cX12_isWay 7 RX12 D cA Z bs := E
  have hl : lv_has ls 7 [(0, .ref (ad bs o)), (1, .int a1), (2, .int a2), (3, .int a3)] := hl
  have hx := E.1.1
  have hb := E.1.2.1
  generalize hHe : s.heap = H at hM ⊢
  have hS : va_S (Ab bs) s.heap H [] := by rw [← hHe]; exact va_S.rf
  clear hHe
  refine lv_aload_n hx hb dX12_isWay_0 rfl (lv_at hl 0 rfl) ?_
  refine lv_ldcw (v := 1000000) hx hb E.1.2.2.2.1 (E.1.2.2.2.2 _ (gw_of 1726 (by decide +kernel) (by decide +kernel))) dX12_isWay_1 ?_
  refine m_puti E hM hS fp_X12_341 ho.1 rfl rfl dX12_isWay_4 (fun I1 H locs eI1 hM hS => ?_)
  have hw := hw I1 eI1
  refine lv_iconst (v := 0) hx hb dX12_isWay_7 (by decide) ?_
  refine lv_istore (lv' := [(4, .int 0), (0, .ref (ad bs o)), (1, .int a1), (2, .int a2), (3, .int a3)]) hx hb dX12_isWay_8 hl (by decide) rfl (fun ls hl => ?_)
  exact s_X12_isWay_10 E hr hlk ho (fun I H locs ls  hw hM hS hl => s_X12_isWay_63 E hr hlk ho  hw hM hS hl)  hw hM hS (lv_sub hl [1, 2, 3, 4, 0] rfl)
theorem dX12_isAsked_0 : decode cX12_isAsked 0 = .ok (.aload_n 0, 1) := by decide +kernel
theorem dX12_isAsked_1 : decode cX12_isAsked 1 = .ok (.iload_n 1, 1) := by decide +kernel
theorem dX12_isAsked_2 : decode cX12_isAsked 2 = .ok (.invokevirtual 214, 3) := by decide +kernel
theorem dX12_isAsked_5 : decode cX12_isAsked 5 = .ok (.ifCond .eq 41, 3) := by decide +kernel
theorem dX12_isAsked_8 : decode cX12_isAsked 8 = .ok (.aload_n 0, 1) := by decide +kernel
theorem dX12_isAsked_9 : decode cX12_isAsked 9 = .ok (.iload_n 2, 1) := by decide +kernel
theorem dX12_isAsked_10 : decode cX12_isAsked 10 = .ok (.invokevirtual 303, 3) := by decide +kernel
theorem dX12_isAsked_13 : decode cX12_isAsked 13 = .ok (.ifCond .eq 33, 3) := by decide +kernel
theorem dX12_isAsked_16 : decode cX12_isAsked 16 = .ok (.aload_n 0, 1) := by decide +kernel
theorem dX12_isAsked_17 : decode cX12_isAsked 17 = .ok (.iload_n 3, 1) := by decide +kernel
theorem dX12_isAsked_18 : decode cX12_isAsked 18 = .ok (.invokevirtual 350, 3) := by decide +kernel
theorem dX12_isAsked_21 : decode cX12_isAsked 21 = .ok (.ifCond .eq 25, 3) := by decide +kernel
theorem dX12_isAsked_24 : decode cX12_isAsked 24 = .ok (.aload_n 0, 1) := by decide +kernel
theorem dX12_isAsked_25 : decode cX12_isAsked 25 = .ok (.iload 4, 2) := by decide +kernel
theorem dX12_isAsked_27 : decode cX12_isAsked 27 = .ok (.invokevirtual 350, 3) := by decide +kernel
theorem dX12_isAsked_30 : decode cX12_isAsked 30 = .ok (.ifCond .eq 16, 3) := by decide +kernel
theorem dX12_isAsked_33 : decode cX12_isAsked 33 = .ok (.aload_n 0, 1) := by decide +kernel
theorem dX12_isAsked_34 : decode cX12_isAsked 34 = .ok (.iload 5, 2) := by decide +kernel
theorem dX12_isAsked_36 : decode cX12_isAsked 36 = .ok (.invokevirtual 312, 3) := by decide +kernel
theorem dX12_isAsked_39 : decode cX12_isAsked 39 = .ok (.ifCond .eq 7, 3) := by decide +kernel
theorem dX12_isAsked_42 : decode cX12_isAsked 42 = .ok (.iconst 1, 1) := by decide +kernel
theorem dX12_isAsked_43 : decode cX12_isAsked 43 = .ok (.goto 4, 3) := by decide +kernel
theorem dX12_isAsked_46 : decode cX12_isAsked 46 = .ok (.iconst 0, 1) := by decide +kernel
theorem dX12_isAsked_47 : decode cX12_isAsked 47 = .ok (.ireturn, 1) := by decide +kernel
def w_X12_isAsked (I : mI) (o : Nat) (a1 : Int32) (a2 : Int32) (a3 : Int32) (a4 : Int32) (a5 : Int32) (post : Bool → mI → Prop) : Prop := w_X12_isHouse I o a1 (fun b1 I2 => (b1 = false → post false I2) ∧ (b1 = true → w_X12_isPerson I2 o a2 (fun b3 => (b3 = false → post false I2) ∧ (b3 = true → w_X12_isStep I2 o a3 (fun b4 => (b4 = false → post false I2) ∧ (b4 = true → w_X12_isStep I2 o a4 (fun b5 => (b5 = false → post false I2) ∧ (b5 = true → w_X12_isMinute o a5 (fun b6 => (b6 = false → post false I2) ∧ (b6 = true → post true I2))))))))))
set_option maxRecDepth 100000 in
set_option maxHeartbeats 4000000 in
theorem c_X12_isAsked {l : Launch} {D : va_G} {cA : Nat → ClassId} {Z : mZ} {bs : Ad} {n : Nat} {K : mK} {R : mR} {I : mI} {L : mL} {o : Nat} {a1 : Int32} {a2 : Int32} {a3 : Int32} {a4 : Int32} {a5 : Int32} {post : Bool → mI → Prop} (ho : isX12 K R o) (hw : w_X12_isAsked I o a1 a2 a3 a4 a5 post) : Met l yX12_isAsked (.code yX12_isAsked cX12_isAsked 6 (some .boolean) :: gw) ({ frames := 3, cells := 0, slots := 0, locals := 65 } : Room) (PreM D cA Z bs (n, K, R, I, L) [.ref (ad bs o), .int a1, .int a2, .int a3, .int a4, .int a5]) (QI D cA bs (fun r u => ∃ b, r = bI b ∧ ∃ I', u = (n, K, R, I', L) ∧ post b I')) 0 0 (Ab bs) := by
  refine m_met (by decide) (Nat.le_of_ble_eq_true rfl) (fun p e s m below meth c ls E hr hlk hM hS hl => ?_)
  have E : Ev p s m _ c cX12_isAsked 6 RX12 D cA Z bs := E
  have hl : lv_has ls 6 [(0, .ref (ad bs o)), (1, .int a1), (2, .int a2), (3, .int a3), (4, .int a4), (5, .int a5)] := hl
  have hx := E.1.1
  have hb := E.1.2.1
  generalize hHe : s.heap = H at hM ⊢
  have hS : va_S (Ab bs) s.heap H [] := by rw [← hHe]; exact va_S.rf
  clear hHe
  refine lv_aload_n hx hb dX12_isAsked_0 rfl (lv_at hl 0 rfl) ?_
  refine lv_iload_n hx hb dX12_isAsked_1 rfl (lv_at hl 1 rfl) ?_
  refine m_ci (m_runV E hM hS cs_X12_214 ho.1 (by decide) rfl rfl (c_X12_isHouse ho hw) rfl rfl ⟨Nat.le_of_ble_eq_true rfl, Nat.le_of_ble_eq_true rfl⟩ rfl hl.1 rfl (Nat.le_of_ble_eq_true rfl) dX12_isAsked_2 ⟨Nat.le_of_ble_eq_true rfl, Nat.le_of_ble_eq_true rfl⟩) hS (fun r9 u H locs hp hM hS => ?_)
  obtain ⟨b1, rfl, I2, rfl, hw⟩ := hp
  refine lv_if_eq (tgt := 46) hx hb dX12_isAsked_5 (by decide) (fun cq => ?_) (fun cq => ?_)
  · have hw := hw.1 (bI_f cq)
    refine lv_iconst (v := 0) hx hb dX12_isAsked_46 (by decide) ?_
    exact m_retz hx hb hr hlk (Or.inl rfl) hM hS ⟨false, rfl, _, rfl, hw⟩ dX12_isAsked_47
  · have hw := hw.2 (bI_t cq)
    refine lv_aload_n hx hb dX12_isAsked_8 rfl (lv_at hl 0 rfl) ?_
    refine lv_iload_n hx hb dX12_isAsked_9 rfl (lv_at hl 2 rfl) ?_
    refine m_ci (m_runV E hM hS cs_X12_303 ho.1 (by decide) rfl rfl (c_X12_isPerson ho hw) rfl rfl ⟨Nat.le_of_ble_eq_true rfl, Nat.le_of_ble_eq_true rfl⟩ rfl hl.1 rfl (Nat.le_of_ble_eq_true rfl) dX12_isAsked_10 ⟨Nat.le_of_ble_eq_true rfl, Nat.le_of_ble_eq_true rfl⟩) hS (fun r9 u H locs hp hM hS => ?_)
    obtain ⟨b3, rfl, rfl, hw⟩ := hp
    refine lv_if_eq (tgt := 46) hx hb dX12_isAsked_13 (by decide) (fun cq => ?_) (fun cq => ?_)
    · have hw := hw.1 (bI_f cq)
      refine lv_iconst (v := 0) hx hb dX12_isAsked_46 (by decide) ?_
      exact m_retz hx hb hr hlk (Or.inl rfl) hM hS ⟨false, rfl, _, rfl, hw⟩ dX12_isAsked_47
    · have hw := hw.2 (bI_t cq)
      refine lv_aload_n hx hb dX12_isAsked_16 rfl (lv_at hl 0 rfl) ?_
      refine lv_iload_n hx hb dX12_isAsked_17 rfl (lv_at hl 3 rfl) ?_
      refine m_ci (m_runV E hM hS cs_X12_350 ho.1 (by decide) rfl rfl (c_X12_isStep ho hw) rfl rfl ⟨Nat.le_of_ble_eq_true rfl, Nat.le_of_ble_eq_true rfl⟩ rfl hl.1 rfl (Nat.le_of_ble_eq_true rfl) dX12_isAsked_18 ⟨Nat.le_of_ble_eq_true rfl, Nat.le_of_ble_eq_true rfl⟩) hS (fun r9 u H locs hp hM hS => ?_)
      obtain ⟨b4, rfl, rfl, hw⟩ := hp
      refine lv_if_eq (tgt := 46) hx hb dX12_isAsked_21 (by decide) (fun cq => ?_) (fun cq => ?_)
      · have hw := hw.1 (bI_f cq)
        refine lv_iconst (v := 0) hx hb dX12_isAsked_46 (by decide) ?_
        exact m_retz hx hb hr hlk (Or.inl rfl) hM hS ⟨false, rfl, _, rfl, hw⟩ dX12_isAsked_47
      · have hw := hw.2 (bI_t cq)
        refine lv_aload_n hx hb dX12_isAsked_24 rfl (lv_at hl 0 rfl) ?_
        refine lv_iload hx hb dX12_isAsked_25 (lv_at hl 4 rfl) ?_
        refine m_ci (m_runV E hM hS cs_X12_350 ho.1 (by decide) rfl rfl (c_X12_isStep ho hw) rfl rfl ⟨Nat.le_of_ble_eq_true rfl, Nat.le_of_ble_eq_true rfl⟩ rfl hl.1 rfl (Nat.le_of_ble_eq_true rfl) dX12_isAsked_27 ⟨Nat.le_of_ble_eq_true rfl, Nat.le_of_ble_eq_true rfl⟩) hS (fun r9 u H locs hp hM hS => ?_)
        obtain ⟨b5, rfl, rfl, hw⟩ := hp
        refine lv_if_eq (tgt := 46) hx hb dX12_isAsked_30 (by decide) (fun cq => ?_) (fun cq => ?_)
        · have hw := hw.1 (bI_f cq)
          refine lv_iconst (v := 0) hx hb dX12_isAsked_46 (by decide) ?_
          exact m_retz hx hb hr hlk (Or.inl rfl) hM hS ⟨false, rfl, _, rfl, hw⟩ dX12_isAsked_47
        · have hw := hw.2 (bI_t cq)
          refine lv_aload_n hx hb dX12_isAsked_33 rfl (lv_at hl 0 rfl) ?_
          refine lv_iload hx hb dX12_isAsked_34 (lv_at hl 5 rfl) ?_
          refine m_ci (m_runV E hM hS cs_X12_312 ho.1 (by decide) rfl rfl (c_X12_isMinute ho hw) rfl rfl ⟨Nat.le_of_ble_eq_true rfl, Nat.le_of_ble_eq_true rfl⟩ rfl hl.1 rfl (Nat.le_of_ble_eq_true rfl) dX12_isAsked_36 ⟨Nat.le_of_ble_eq_true rfl, Nat.le_of_ble_eq_true rfl⟩) hS (fun r9 u H locs hp hM hS => ?_)
          obtain ⟨b6, rfl, rfl, hw⟩ := hp
          refine lv_if_eq (tgt := 46) hx hb dX12_isAsked_39 (by decide) (fun cq => ?_) (fun cq => ?_)
          · have hw := hw.1 (bI_f cq)
            refine lv_iconst (v := 0) hx hb dX12_isAsked_46 (by decide) ?_
            exact m_retz hx hb hr hlk (Or.inl rfl) hM hS ⟨false, rfl, _, rfl, hw⟩ dX12_isAsked_47
          · have hw := hw.2 (bI_t cq)
            refine lv_iconst (v := 1) hx hb dX12_isAsked_42 (by decide) ?_
            refine lv_goto (tgt := 47) hx hb dX12_isAsked_43 (by decide) ?_
            exact m_retz hx hb hr hlk (Or.inr rfl) hM hS ⟨true, rfl, _, rfl, hw⟩ dX12_isAsked_47
theorem dX12_home_0 : decode cX12_home 0 = .ok (.aload_n 0, 1) := by decide +kernel
theorem dX12_home_1 : decode cX12_home 1 = .ok (.iload_n 1, 1) := by decide +kernel
theorem dX12_home_2 : decode cX12_home 2 = .ok (.iload_n 2, 1) := by decide +kernel
theorem dX12_home_3 : decode cX12_home 3 = .ok (.iload_n 3, 1) := by decide +kernel
theorem dX12_home_4 : decode cX12_home 4 = .ok (.iload 4, 2) := by decide +kernel
theorem dX12_home_6 : decode cX12_home 6 = .ok (.iload 5, 2) := by decide +kernel
theorem dX12_home_8 : decode cX12_home 8 = .ok (.invokevirtual 353, 3) := by decide +kernel
theorem dX12_home_11 : decode cX12_home 11 = .ok (.ifCond .eq 20, 3) := by decide +kernel
theorem dX12_home_14 : decode cX12_home 14 = .ok (.iload 6, 2) := by decide +kernel
theorem dX12_home_16 : decode cX12_home 16 = .ok (.iconst 0, 1) := by decide +kernel
theorem dX12_home_17 : decode cX12_home 17 = .ok (.iconst 1, 1) := by decide +kernel
theorem dX12_home_18 : decode cX12_home 18 = .ok (.aload_n 0, 1) := by decide +kernel
theorem dX12_home_19 : decode cX12_home 19 = .ok (.invokevirtual 211, 3) := by decide +kernel
theorem dX12_home_22 : decode cX12_home 22 = .ok (.ishl, 1) := by decide +kernel
theorem dX12_home_23 : decode cX12_home 23 = .ok (.iconst 1, 1) := by decide +kernel
theorem dX12_home_24 : decode cX12_home 24 = .ok (.isub, 1) := by decide +kernel
theorem dX12_home_25 : decode cX12_home 25 = .ok (.invokestatic 133, 3) := by decide +kernel
theorem dX12_home_28 : decode cX12_home 28 = .ok (.ifCond .ne 5, 3) := by decide +kernel
theorem dX12_home_31 : decode cX12_home 31 = .ok (.iconst (-1), 1) := by decide +kernel
theorem dX12_home_32 : decode cX12_home 32 = .ok (.ireturn, 1) := by decide +kernel
theorem dX12_home_33 : decode cX12_home 33 = .ok (.aload_n 0, 1) := by decide +kernel
theorem dX12_home_34 : decode cX12_home 34 = .ok (.iload_n 2, 1) := by decide +kernel
theorem dX12_home_35 : decode cX12_home 35 = .ok (.iload 5, 2) := by decide +kernel
theorem dX12_home_37 : decode cX12_home 37 = .ok (.iload 6, 2) := by decide +kernel
theorem dX12_home_39 : decode cX12_home 39 = .ok (.iconst 0, 1) := by decide +kernel
theorem dX12_home_40 : decode cX12_home 40 = .ok (.invokevirtual 357, 3) := by decide +kernel
theorem dX12_home_43 : decode cX12_home 43 = .ok (.aload_n 0, 1) := by decide +kernel
theorem dX12_home_44 : decode cX12_home 44 = .ok (.iload_n 2, 1) := by decide +kernel
theorem dX12_home_45 : decode cX12_home 45 = .ok (.iload_n 3, 1) := by decide +kernel
theorem dX12_home_46 : decode cX12_home 46 = .ok (.iload 4, 2) := by decide +kernel
theorem dX12_home_48 : decode cX12_home 48 = .ok (.invokevirtual 361, 3) := by decide +kernel
theorem dX12_home_51 : decode cX12_home 51 = .ok (.ifCond .ne 5, 3) := by decide +kernel
theorem dX12_home_54 : decode cX12_home 54 = .ok (.iconst (-1), 1) := by decide +kernel
theorem dX12_home_55 : decode cX12_home 55 = .ok (.ireturn, 1) := by decide +kernel
theorem dX12_home_56 : decode cX12_home 56 = .ok (.iload 7, 2) := by decide +kernel
theorem dX12_home_58 : decode cX12_home 58 = .ok (.ifCond .ne 10, 3) := by decide +kernel
theorem dX12_home_61 : decode cX12_home 61 = .ok (.aload_n 0, 1) := by decide +kernel
theorem dX12_home_62 : decode cX12_home 62 = .ok (.getfield 347, 3) := by decide +kernel
theorem dX12_home_65 : decode cX12_home 65 = .ok (.goto 34, 3) := by decide +kernel
theorem dX12_home_68 : decode cX12_home 68 = .ok (.iload 7, 2) := by decide +kernel
theorem dX12_home_70 : decode cX12_home 70 = .ok (.bipush 10, 2) := by decide +kernel
theorem dX12_home_72 : decode cX12_home 72 = .ok (.bipush 9, 2) := by decide +kernel
theorem dX12_home_74 : decode cX12_home 74 = .ok (.aload_n 0, 1) := by decide +kernel
theorem dX12_home_75 : decode cX12_home 75 = .ok (.getfield 347, 3) := by decide +kernel
theorem dX12_home_78 : decode cX12_home 78 = .ok (.iadd, 1) := by decide +kernel
theorem dX12_home_79 : decode cX12_home 79 = .ok (.invokestatic 133, 3) := by decide +kernel
theorem dX12_home_82 : decode cX12_home 82 = .ok (.ifCond .eq 16, 3) := by decide +kernel
theorem dX12_home_85 : decode cX12_home 85 = .ok (.aload_n 0, 1) := by decide +kernel
theorem dX12_home_86 : decode cX12_home 86 = .ok (.getfield 62, 3) := by decide +kernel
theorem dX12_home_89 : decode cX12_home 89 = .ok (.iload 7, 2) := by decide +kernel
theorem dX12_home_91 : decode cX12_home 91 = .ok (.bipush 10, 2) := by decide +kernel
theorem dX12_home_93 : decode cX12_home 93 = .ok (.isub, 1) := by decide +kernel
theorem dX12_home_94 : decode cX12_home 94 = .ok (.iaload, 1) := by decide +kernel
theorem dX12_home_95 : decode cX12_home 95 = .ok (.goto 4, 3) := by decide +kernel
theorem dX12_home_98 : decode cX12_home 98 = .ok (.iconst (-1), 1) := by decide +kernel
theorem dX12_home_99 : decode cX12_home 99 = .ok (.ireturn, 1) := by decide +kernel
def w_X12_home (I : mI) (o : Nat) (a1 : Int32) (a2 : Int32) (a3 : Int32) (a4 : Int32) (a5 : Int32) (a6 : Int32) (a7 : Int32) (post : Int32 → mI → Prop) : Prop := w_X12_isAsked I o a1 a2 a3 a4 a5 (fun b1 I2 => (b1 = false → post (-1) I2) ∧ (b1 = true → w_X12_flats I2 o (fun r3 => w_X12_isIn a6 0 ((1 <<< (r3 &&& 31)) - 1) (fun b4 => (b4 = true → w_X12_costs I2 o a2 a5 a6 0 (fun I5 => w_X12_isWay I5 o a2 a3 a4 (fun b6 I7 => (b6 = true → (¬ a7 = 0 → w_X12_isIn a7 10 (9 + (I7 o 41)) (fun b8 => (b8 = false → post (-1) I7) ∧ (b8 = true → vp_in (a7 - 10) 61 ∧ post (I7 (o + 18) (a7 - 10).toNatClampNeg) I7))) ∧ (a7 = 0 → post (I7 o 41) I7)) ∧ (b6 = false → post (-1) I7)))) ∧ (b4 = false → post (-1) I2)))))
set_option maxRecDepth 100000 in
set_option maxHeartbeats 4000000 in
theorem c_X12_home {l : Launch} {D : va_G} {cA : Nat → ClassId} {Z : mZ} {bs : Ad} {n : Nat} {K : mK} {R : mR} {I : mI} {L : mL} {o : Nat} {a1 : Int32} {a2 : Int32} {a3 : Int32} {a4 : Int32} {a5 : Int32} {a6 : Int32} {a7 : Int32} {post : Int32 → mI → Prop} (ho : isX12 K R o) (hw : w_X12_home I o a1 a2 a3 a4 a5 a6 a7 post) : Met l yX12_home (.code yX12_home cX12_home 8 (some .int) :: gw) ({ frames := 8, cells := 0, slots := 0, locals := 185 } : Room) (PreM D cA Z bs (n, K, R, I, L) [.ref (ad bs o), .int a1, .int a2, .int a3, .int a4, .int a5, .int a6, .int a7]) (QI D cA bs (fun r u => ∃ I', u = (n, K, R, I', L) ∧ post r I')) 0 0 (Ab bs) := by
  refine m_met (by decide) (Nat.le_of_ble_eq_true rfl) (fun p e s m below meth c ls E hr hlk hM hS hl => ?_)
  have E : Ev p s m _ c cX12_home 8 RX12 D cA Z bs := E
  have hl : lv_has ls 8 [(0, .ref (ad bs o)), (1, .int a1), (2, .int a2), (3, .int a3), (4, .int a4), (5, .int a5), (6, .int a6), (7, .int a7)] := hl
  have hx := E.1.1
  have hb := E.1.2.1
  generalize hHe : s.heap = H at hM ⊢
  have hS : va_S (Ab bs) s.heap H [] := by rw [← hHe]; exact va_S.rf
  clear hHe
  refine lv_aload_n hx hb dX12_home_0 rfl (lv_at hl 0 rfl) ?_
  refine lv_iload_n hx hb dX12_home_1 rfl (lv_at hl 1 rfl) ?_
  refine lv_iload_n hx hb dX12_home_2 rfl (lv_at hl 2 rfl) ?_
  refine lv_iload_n hx hb dX12_home_3 rfl (lv_at hl 3 rfl) ?_
  refine lv_iload hx hb dX12_home_4 (lv_at hl 4 rfl) ?_
  refine lv_iload hx hb dX12_home_6 (lv_at hl 5 rfl) ?_
  refine m_ci (m_runV E hM hS cs_X12_353 ho.1 (by decide) rfl rfl (c_X12_isAsked ho hw) rfl rfl ⟨Nat.le_of_ble_eq_true rfl, Nat.le_of_ble_eq_true rfl⟩ rfl hl.1 rfl (Nat.le_of_ble_eq_true rfl) dX12_home_8 ⟨Nat.le_of_ble_eq_true rfl, Nat.le_of_ble_eq_true rfl⟩) hS (fun r9 u H locs hp hM hS => ?_)
  obtain ⟨b1, rfl, I2, rfl, hw⟩ := hp
  refine lv_if_eq (tgt := 31) hx hb dX12_home_11 (by decide) (fun cq => ?_) (fun cq => ?_)
  · have hw := hw.1 (bI_f cq)
    refine lv_iconst (v := (-1)) hx hb dX12_home_31 (by decide) ?_
    exact m_reti hx hb hr hlk hM hS ⟨_, rfl, hw⟩ dX12_home_32
  · have hw := hw.2 (bI_t cq)
    refine lv_iload hx hb dX12_home_14 (lv_at hl 6 rfl) ?_
    refine lv_iconst (v := 0) hx hb dX12_home_16 (by decide) ?_
    refine lv_iconst (v := 1) hx hb dX12_home_17 (by decide) ?_
    refine lv_aload_n hx hb dX12_home_18 rfl (lv_at hl 0 rfl) ?_
    refine m_ci (m_runV E hM hS cs_X12_211 ho.1 (by decide) rfl rfl (c_X12_flats ho hw) rfl rfl ⟨Nat.le_of_ble_eq_true rfl, Nat.le_of_ble_eq_true rfl⟩ rfl hl.1 rfl (Nat.le_of_ble_eq_true rfl) dX12_home_19 ⟨Nat.le_of_ble_eq_true rfl, Nat.le_of_ble_eq_true rfl⟩) hS (fun r3 u H locs hp hM hS => ?_)
    obtain ⟨rfl, hw⟩ := hp
    refine lv_ishl hx hb dX12_home_22 ?_
    refine lv_iconst (v := 1) hx hb dX12_home_23 (by decide) ?_
    refine lv_isub hx hb dX12_home_24 ?_
    refine m_ci (m_runS E hM hS cs_X12_133 (c_X12_isIn  hw) rfl rfl ⟨Nat.le_of_ble_eq_true rfl, Nat.le_of_ble_eq_true rfl⟩ rfl hl.1 rfl (Nat.le_of_ble_eq_true rfl) dX12_home_25 ⟨Nat.le_of_ble_eq_true rfl, Nat.le_of_ble_eq_true rfl⟩) hS (fun r9 u H locs hp hM hS => ?_)
    obtain ⟨b4, rfl, rfl, hw⟩ := hp
    refine lv_if_ne (tgt := 33) hx hb dX12_home_28 (by decide) (fun cq => ?_) (fun cq => ?_)
    · have hw := hw.1 (bI_t cq)
      refine lv_aload_n hx hb dX12_home_33 rfl (lv_at hl 0 rfl) ?_
      refine lv_iload_n hx hb dX12_home_34 rfl (lv_at hl 2 rfl) ?_
      refine lv_iload hx hb dX12_home_35 (lv_at hl 5 rfl) ?_
      refine lv_iload hx hb dX12_home_37 (lv_at hl 6 rfl) ?_
      refine lv_iconst (v := 0) hx hb dX12_home_39 (by decide) ?_
      refine m_cv (m_runV E hM hS cs_X12_357 ho.1 (by decide) rfl rfl (c_X12_costs ho hw) rfl rfl ⟨Nat.le_of_ble_eq_true rfl, Nat.le_of_ble_eq_true rfl⟩ rfl hl.1 rfl (Nat.le_of_ble_eq_true rfl) dX12_home_40 ⟨Nat.le_of_ble_eq_true rfl, Nat.le_of_ble_eq_true rfl⟩) hS (fun u H locs hp hM hS => ?_)
      obtain ⟨I5, rfl, hw⟩ := hp
      refine lv_aload_n hx hb dX12_home_43 rfl (lv_at hl 0 rfl) ?_
      refine lv_iload_n hx hb dX12_home_44 rfl (lv_at hl 2 rfl) ?_
      refine lv_iload_n hx hb dX12_home_45 rfl (lv_at hl 3 rfl) ?_
      refine lv_iload hx hb dX12_home_46 (lv_at hl 4 rfl) ?_
      refine m_ci (m_runV E hM hS cs_X12_361 ho.1 (by decide) rfl rfl (c_X12_isWay ho hw) rfl rfl ⟨Nat.le_of_ble_eq_true rfl, Nat.le_of_ble_eq_true rfl⟩ rfl hl.1 rfl (Nat.le_of_ble_eq_true rfl) dX12_home_48 ⟨Nat.le_of_ble_eq_true rfl, Nat.le_of_ble_eq_true rfl⟩) hS (fun r9 u H locs hp hM hS => ?_)
      obtain ⟨b6, rfl, I7, rfl, hw⟩ := hp
      refine lv_if_ne (tgt := 56) hx hb dX12_home_51 (by decide) (fun cq => ?_) (fun cq => ?_)
      · have hw := hw.1 (bI_t cq)
        refine lv_iload hx hb dX12_home_56 (lv_at hl 7 rfl) ?_
        refine lv_if_ne (tgt := 68) hx hb dX12_home_58 (by decide) (fun cq => ?_) (fun cq => ?_)
        · have hw := hw.1 cq
          refine lv_iload hx hb dX12_home_68 (lv_at hl 7 rfl) ?_
          refine lv_bipush (v := 10) hx hb dX12_home_70 (by decide) ?_
          refine lv_bipush (v := 9) hx hb dX12_home_72 (by decide) ?_
          refine lv_aload_n hx hb dX12_home_74 rfl (lv_at hl 0 rfl) ?_
          refine m_geti E hM fs_X12_347 ho.1 dX12_home_75 ?_
          refine lv_iadd hx hb dX12_home_78 ?_
          refine m_ci (m_runS E hM hS cs_X12_133 (c_X12_isIn  hw) rfl rfl ⟨Nat.le_of_ble_eq_true rfl, Nat.le_of_ble_eq_true rfl⟩ rfl hl.1 rfl (Nat.le_of_ble_eq_true rfl) dX12_home_79 ⟨Nat.le_of_ble_eq_true rfl, Nat.le_of_ble_eq_true rfl⟩) hS (fun r9 u H locs hp hM hS => ?_)
          obtain ⟨b8, rfl, rfl, hw⟩ := hp
          refine lv_if_eq (tgt := 98) hx hb dX12_home_82 (by decide) (fun cq => ?_) (fun cq => ?_)
          · have hw := hw.1 (bI_f cq)
            refine lv_iconst (v := (-1)) hx hb dX12_home_98 (by decide) ?_
            exact m_reti hx hb hr hlk hM hS ⟨_, rfl, hw⟩ dX12_home_99
          · have hw := hw.2 (bI_t cq)
            refine lv_aload_n hx hb dX12_home_85 rfl (lv_at hl 0 rfl) ?_
            refine m_getr E hM fs_X12_62 ho.1 (isO_at ho 17 rfl).1 dX12_home_86 ?_
            refine lv_iload hx hb dX12_home_89 (lv_at hl 7 rfl) ?_
            refine lv_bipush (v := 10) hx hb dX12_home_91 (by decide) ?_
            refine lv_isub hx hb dX12_home_93 ?_
            obtain ⟨hv, hw⟩ := hw
            refine m_iald E hM (isO_at ho 17 rfl).2 hv dX12_home_94 ?_
            refine lv_goto (tgt := 99) hx hb dX12_home_95 (by decide) ?_
            exact m_reti hx hb hr hlk hM hS ⟨_, rfl, hw⟩ dX12_home_99
        · have hw := hw.2 cq
          refine lv_aload_n hx hb dX12_home_61 rfl (lv_at hl 0 rfl) ?_
          refine m_geti E hM fs_X12_347 ho.1 dX12_home_62 ?_
          refine lv_goto (tgt := 99) hx hb dX12_home_65 (by decide) ?_
          exact m_reti hx hb hr hlk hM hS ⟨_, rfl, hw⟩ dX12_home_99
      · have hw := hw.2 (bI_f cq)
        refine lv_iconst (v := (-1)) hx hb dX12_home_54 (by decide) ?_
        exact m_reti hx hb hr hlk hM hS ⟨_, rfl, hw⟩ dX12_home_55
    · have hw := hw.2 (bI_f cq)
      refine lv_iconst (v := (-1)) hx hb dX12_home_31 (by decide) ?_
      exact m_reti hx hb hr hlk hM hS ⟨_, rfl, hw⟩ dX12_home_32
theorem dX12_thief_0 : decode cX12_thief 0 = .ok (.aload_n 0, 1) := by decide +kernel
theorem dX12_thief_1 : decode cX12_thief 1 = .ok (.iload_n 1, 1) := by decide +kernel
theorem dX12_thief_2 : decode cX12_thief 2 = .ok (.iload_n 2, 1) := by decide +kernel
theorem dX12_thief_3 : decode cX12_thief 3 = .ok (.iload_n 3, 1) := by decide +kernel
theorem dX12_thief_4 : decode cX12_thief 4 = .ok (.iload 4, 2) := by decide +kernel
theorem dX12_thief_6 : decode cX12_thief 6 = .ok (.iload 5, 2) := by decide +kernel
theorem dX12_thief_8 : decode cX12_thief 8 = .ok (.invokevirtual 353, 3) := by decide +kernel
theorem dX12_thief_11 : decode cX12_thief 11 = .ok (.ifCond .ne 5, 3) := by decide +kernel
theorem dX12_thief_14 : decode cX12_thief 14 = .ok (.iconst (-1), 1) := by decide +kernel
theorem dX12_thief_15 : decode cX12_thief 15 = .ok (.ireturn, 1) := by decide +kernel
theorem dX12_thief_16 : decode cX12_thief 16 = .ok (.aload_n 0, 1) := by decide +kernel
theorem dX12_thief_17 : decode cX12_thief 17 = .ok (.iload_n 2, 1) := by decide +kernel
theorem dX12_thief_18 : decode cX12_thief 18 = .ok (.iload 5, 2) := by decide +kernel
theorem dX12_thief_20 : decode cX12_thief 20 = .ok (.iconst 1, 1) := by decide +kernel
theorem dX12_thief_21 : decode cX12_thief 21 = .ok (.aload_n 0, 1) := by decide +kernel
theorem dX12_thief_22 : decode cX12_thief 22 = .ok (.invokevirtual 211, 3) := by decide +kernel
theorem dX12_thief_25 : decode cX12_thief 25 = .ok (.ishl, 1) := by decide +kernel
theorem dX12_thief_26 : decode cX12_thief 26 = .ok (.iconst 1, 1) := by decide +kernel
theorem dX12_thief_27 : decode cX12_thief 27 = .ok (.isub, 1) := by decide +kernel
theorem dX12_thief_28 : decode cX12_thief 28 = .ok (.iconst 1, 1) := by decide +kernel
theorem dX12_thief_29 : decode cX12_thief 29 = .ok (.invokevirtual 357, 3) := by decide +kernel
theorem dX12_thief_32 : decode cX12_thief 32 = .ok (.aload_n 0, 1) := by decide +kernel
theorem dX12_thief_33 : decode cX12_thief 33 = .ok (.iload_n 2, 1) := by decide +kernel
theorem dX12_thief_34 : decode cX12_thief 34 = .ok (.iload_n 3, 1) := by decide +kernel
theorem dX12_thief_35 : decode cX12_thief 35 = .ok (.iload 4, 2) := by decide +kernel
theorem dX12_thief_37 : decode cX12_thief 37 = .ok (.invokevirtual 361, 3) := by decide +kernel
theorem dX12_thief_40 : decode cX12_thief 40 = .ok (.ifCond .ne 5, 3) := by decide +kernel
theorem dX12_thief_43 : decode cX12_thief 43 = .ok (.iconst (-1), 1) := by decide +kernel
theorem dX12_thief_44 : decode cX12_thief 44 = .ok (.ireturn, 1) := by decide +kernel
theorem dX12_thief_45 : decode cX12_thief 45 = .ok (.iload 6, 2) := by decide +kernel
theorem dX12_thief_47 : decode cX12_thief 47 = .ok (.ifCond .ne 10, 3) := by decide +kernel
theorem dX12_thief_50 : decode cX12_thief 50 = .ok (.aload_n 0, 1) := by decide +kernel
theorem dX12_thief_51 : decode cX12_thief 51 = .ok (.getfield 341, 3) := by decide +kernel
theorem dX12_thief_54 : decode cX12_thief 54 = .ok (.goto 47, 3) := by decide +kernel
theorem dX12_thief_57 : decode cX12_thief 57 = .ok (.iload 6, 2) := by decide +kernel
theorem dX12_thief_59 : decode cX12_thief 59 = .ok (.iconst 1, 1) := by decide +kernel
theorem dX12_thief_60 : decode cX12_thief 60 = .ok (.if_icmp .ne 10, 3) := by decide +kernel
theorem dX12_thief_63 : decode cX12_thief 63 = .ok (.aload_n 0, 1) := by decide +kernel
theorem dX12_thief_64 : decode cX12_thief 64 = .ok (.getfield 347, 3) := by decide +kernel
theorem dX12_thief_67 : decode cX12_thief 67 = .ok (.goto 34, 3) := by decide +kernel
theorem dX12_thief_70 : decode cX12_thief 70 = .ok (.iload 6, 2) := by decide +kernel
theorem dX12_thief_72 : decode cX12_thief 72 = .ok (.bipush 10, 2) := by decide +kernel
theorem dX12_thief_74 : decode cX12_thief 74 = .ok (.bipush 9, 2) := by decide +kernel
theorem dX12_thief_76 : decode cX12_thief 76 = .ok (.aload_n 0, 1) := by decide +kernel
theorem dX12_thief_77 : decode cX12_thief 77 = .ok (.getfield 347, 3) := by decide +kernel
theorem dX12_thief_80 : decode cX12_thief 80 = .ok (.iadd, 1) := by decide +kernel
theorem dX12_thief_81 : decode cX12_thief 81 = .ok (.invokestatic 133, 3) := by decide +kernel
theorem dX12_thief_84 : decode cX12_thief 84 = .ok (.ifCond .eq 16, 3) := by decide +kernel
theorem dX12_thief_87 : decode cX12_thief 87 = .ok (.aload_n 0, 1) := by decide +kernel
theorem dX12_thief_88 : decode cX12_thief 88 = .ok (.getfield 62, 3) := by decide +kernel
theorem dX12_thief_91 : decode cX12_thief 91 = .ok (.iload 6, 2) := by decide +kernel
theorem dX12_thief_93 : decode cX12_thief 93 = .ok (.bipush 10, 2) := by decide +kernel
theorem dX12_thief_95 : decode cX12_thief 95 = .ok (.isub, 1) := by decide +kernel
theorem dX12_thief_96 : decode cX12_thief 96 = .ok (.iaload, 1) := by decide +kernel
theorem dX12_thief_97 : decode cX12_thief 97 = .ok (.goto 4, 3) := by decide +kernel
theorem dX12_thief_100 : decode cX12_thief 100 = .ok (.iconst (-1), 1) := by decide +kernel
theorem dX12_thief_101 : decode cX12_thief 101 = .ok (.ireturn, 1) := by decide +kernel
def w_X12_thief (I : mI) (o : Nat) (a1 : Int32) (a2 : Int32) (a3 : Int32) (a4 : Int32) (a5 : Int32) (a6 : Int32) (post : Int32 → mI → Prop) : Prop := w_X12_isAsked I o a1 a2 a3 a4 a5 (fun b1 I2 => (b1 = true → w_X12_flats I2 o (fun r3 => w_X12_costs I2 o a2 a5 ((1 <<< (r3 &&& 31)) - 1) 1 (fun I4 => w_X12_isWay I4 o a2 a3 a4 (fun b5 I6 => (b5 = true → (¬ a6 = 0 → (¬ a6 = 1 → w_X12_isIn a6 10 (9 + (I6 o 41)) (fun b7 => (b7 = false → post (-1) I6) ∧ (b7 = true → vp_in (a6 - 10) 61 ∧ post (I6 (o + 18) (a6 - 10).toNatClampNeg) I6))) ∧ (a6 = 1 → post (I6 o 41) I6)) ∧ (a6 = 0 → post (I6 o 40) I6)) ∧ (b5 = false → post (-1) I6))))) ∧ (b1 = false → post (-1) I2))
set_option maxRecDepth 100000 in
set_option maxHeartbeats 4000000 in
theorem c_X12_thief {l : Launch} {D : va_G} {cA : Nat → ClassId} {Z : mZ} {bs : Ad} {n : Nat} {K : mK} {R : mR} {I : mI} {L : mL} {o : Nat} {a1 : Int32} {a2 : Int32} {a3 : Int32} {a4 : Int32} {a5 : Int32} {a6 : Int32} {post : Int32 → mI → Prop} (ho : isX12 K R o) (hw : w_X12_thief I o a1 a2 a3 a4 a5 a6 post) : Met l yX12_thief (.code yX12_thief cX12_thief 7 (some .int) :: gw) ({ frames := 8, cells := 0, slots := 0, locals := 185 } : Room) (PreM D cA Z bs (n, K, R, I, L) [.ref (ad bs o), .int a1, .int a2, .int a3, .int a4, .int a5, .int a6]) (QI D cA bs (fun r u => ∃ I', u = (n, K, R, I', L) ∧ post r I')) 0 0 (Ab bs) := by
  refine m_met (by decide) (Nat.le_of_ble_eq_true rfl) (fun p e s m below meth c ls E hr hlk hM hS hl => ?_)
  have E : Ev p s m _ c cX12_thief 7 RX12 D cA Z bs := E
  have hl : lv_has ls 7 [(0, .ref (ad bs o)), (1, .int a1), (2, .int a2), (3, .int a3), (4, .int a4), (5, .int a5), (6, .int a6)] := hl
  have hx := E.1.1
  have hb := E.1.2.1
  generalize hHe : s.heap = H at hM ⊢
  have hS : va_S (Ab bs) s.heap H [] := by rw [← hHe]; exact va_S.rf
  clear hHe
  refine lv_aload_n hx hb dX12_thief_0 rfl (lv_at hl 0 rfl) ?_
  refine lv_iload_n hx hb dX12_thief_1 rfl (lv_at hl 1 rfl) ?_
  refine lv_iload_n hx hb dX12_thief_2 rfl (lv_at hl 2 rfl) ?_
  refine lv_iload_n hx hb dX12_thief_3 rfl (lv_at hl 3 rfl) ?_
  refine lv_iload hx hb dX12_thief_4 (lv_at hl 4 rfl) ?_
  refine lv_iload hx hb dX12_thief_6 (lv_at hl 5 rfl) ?_
  refine m_ci (m_runV E hM hS cs_X12_353 ho.1 (by decide) rfl rfl (c_X12_isAsked ho hw) rfl rfl ⟨Nat.le_of_ble_eq_true rfl, Nat.le_of_ble_eq_true rfl⟩ rfl hl.1 rfl (Nat.le_of_ble_eq_true rfl) dX12_thief_8 ⟨Nat.le_of_ble_eq_true rfl, Nat.le_of_ble_eq_true rfl⟩) hS (fun r9 u H locs hp hM hS => ?_)
  obtain ⟨b1, rfl, I2, rfl, hw⟩ := hp
  refine lv_if_ne (tgt := 16) hx hb dX12_thief_11 (by decide) (fun cq => ?_) (fun cq => ?_)
  · have hw := hw.1 (bI_t cq)
    refine lv_aload_n hx hb dX12_thief_16 rfl (lv_at hl 0 rfl) ?_
    refine lv_iload_n hx hb dX12_thief_17 rfl (lv_at hl 2 rfl) ?_
    refine lv_iload hx hb dX12_thief_18 (lv_at hl 5 rfl) ?_
    refine lv_iconst (v := 1) hx hb dX12_thief_20 (by decide) ?_
    refine lv_aload_n hx hb dX12_thief_21 rfl (lv_at hl 0 rfl) ?_
    refine m_ci (m_runV E hM hS cs_X12_211 ho.1 (by decide) rfl rfl (c_X12_flats ho hw) rfl rfl ⟨Nat.le_of_ble_eq_true rfl, Nat.le_of_ble_eq_true rfl⟩ rfl hl.1 rfl (Nat.le_of_ble_eq_true rfl) dX12_thief_22 ⟨Nat.le_of_ble_eq_true rfl, Nat.le_of_ble_eq_true rfl⟩) hS (fun r3 u H locs hp hM hS => ?_)
    obtain ⟨rfl, hw⟩ := hp
    refine lv_ishl hx hb dX12_thief_25 ?_
    refine lv_iconst (v := 1) hx hb dX12_thief_26 (by decide) ?_
    refine lv_isub hx hb dX12_thief_27 ?_
    refine lv_iconst (v := 1) hx hb dX12_thief_28 (by decide) ?_
    refine m_cv (m_runV E hM hS cs_X12_357 ho.1 (by decide) rfl rfl (c_X12_costs ho hw) rfl rfl ⟨Nat.le_of_ble_eq_true rfl, Nat.le_of_ble_eq_true rfl⟩ rfl hl.1 rfl (Nat.le_of_ble_eq_true rfl) dX12_thief_29 ⟨Nat.le_of_ble_eq_true rfl, Nat.le_of_ble_eq_true rfl⟩) hS (fun u H locs hp hM hS => ?_)
    obtain ⟨I4, rfl, hw⟩ := hp
    refine lv_aload_n hx hb dX12_thief_32 rfl (lv_at hl 0 rfl) ?_
    refine lv_iload_n hx hb dX12_thief_33 rfl (lv_at hl 2 rfl) ?_
    refine lv_iload_n hx hb dX12_thief_34 rfl (lv_at hl 3 rfl) ?_
    refine lv_iload hx hb dX12_thief_35 (lv_at hl 4 rfl) ?_
    refine m_ci (m_runV E hM hS cs_X12_361 ho.1 (by decide) rfl rfl (c_X12_isWay ho hw) rfl rfl ⟨Nat.le_of_ble_eq_true rfl, Nat.le_of_ble_eq_true rfl⟩ rfl hl.1 rfl (Nat.le_of_ble_eq_true rfl) dX12_thief_37 ⟨Nat.le_of_ble_eq_true rfl, Nat.le_of_ble_eq_true rfl⟩) hS (fun r9 u H locs hp hM hS => ?_)
    obtain ⟨b5, rfl, I6, rfl, hw⟩ := hp
    refine lv_if_ne (tgt := 45) hx hb dX12_thief_40 (by decide) (fun cq => ?_) (fun cq => ?_)
    · have hw := hw.1 (bI_t cq)
      refine lv_iload hx hb dX12_thief_45 (lv_at hl 6 rfl) ?_
      refine lv_if_ne (tgt := 57) hx hb dX12_thief_47 (by decide) (fun cq => ?_) (fun cq => ?_)
      · have hw := hw.1 cq
        refine lv_iload hx hb dX12_thief_57 (lv_at hl 6 rfl) ?_
        refine lv_iconst (v := 1) hx hb dX12_thief_59 (by decide) ?_
        refine lv_icmp_ne (tgt := 70) hx hb dX12_thief_60 (by decide) (fun cq => ?_) (fun cq => ?_)
        · have hw := hw.1 cq
          refine lv_iload hx hb dX12_thief_70 (lv_at hl 6 rfl) ?_
          refine lv_bipush (v := 10) hx hb dX12_thief_72 (by decide) ?_
          refine lv_bipush (v := 9) hx hb dX12_thief_74 (by decide) ?_
          refine lv_aload_n hx hb dX12_thief_76 rfl (lv_at hl 0 rfl) ?_
          refine m_geti E hM fs_X12_347 ho.1 dX12_thief_77 ?_
          refine lv_iadd hx hb dX12_thief_80 ?_
          refine m_ci (m_runS E hM hS cs_X12_133 (c_X12_isIn  hw) rfl rfl ⟨Nat.le_of_ble_eq_true rfl, Nat.le_of_ble_eq_true rfl⟩ rfl hl.1 rfl (Nat.le_of_ble_eq_true rfl) dX12_thief_81 ⟨Nat.le_of_ble_eq_true rfl, Nat.le_of_ble_eq_true rfl⟩) hS (fun r9 u H locs hp hM hS => ?_)
          obtain ⟨b7, rfl, rfl, hw⟩ := hp
          refine lv_if_eq (tgt := 100) hx hb dX12_thief_84 (by decide) (fun cq => ?_) (fun cq => ?_)
          · have hw := hw.1 (bI_f cq)
            refine lv_iconst (v := (-1)) hx hb dX12_thief_100 (by decide) ?_
            exact m_reti hx hb hr hlk hM hS ⟨_, rfl, hw⟩ dX12_thief_101
          · have hw := hw.2 (bI_t cq)
            refine lv_aload_n hx hb dX12_thief_87 rfl (lv_at hl 0 rfl) ?_
            refine m_getr E hM fs_X12_62 ho.1 (isO_at ho 17 rfl).1 dX12_thief_88 ?_
            refine lv_iload hx hb dX12_thief_91 (lv_at hl 6 rfl) ?_
            refine lv_bipush (v := 10) hx hb dX12_thief_93 (by decide) ?_
            refine lv_isub hx hb dX12_thief_95 ?_
            obtain ⟨hv, hw⟩ := hw
            refine m_iald E hM (isO_at ho 17 rfl).2 hv dX12_thief_96 ?_
            refine lv_goto (tgt := 101) hx hb dX12_thief_97 (by decide) ?_
            exact m_reti hx hb hr hlk hM hS ⟨_, rfl, hw⟩ dX12_thief_101
        · have hw := hw.2 cq
          refine lv_aload_n hx hb dX12_thief_63 rfl (lv_at hl 0 rfl) ?_
          refine m_geti E hM fs_X12_347 ho.1 dX12_thief_64 ?_
          refine lv_goto (tgt := 101) hx hb dX12_thief_67 (by decide) ?_
          exact m_reti hx hb hr hlk hM hS ⟨_, rfl, hw⟩ dX12_thief_101
      · have hw := hw.2 cq
        refine lv_aload_n hx hb dX12_thief_50 rfl (lv_at hl 0 rfl) ?_
        refine m_geti E hM fs_X12_341 ho.1 dX12_thief_51 ?_
        refine lv_goto (tgt := 101) hx hb dX12_thief_54 (by decide) ?_
        exact m_reti hx hb hr hlk hM hS ⟨_, rfl, hw⟩ dX12_thief_101
    · have hw := hw.2 (bI_f cq)
      refine lv_iconst (v := (-1)) hx hb dX12_thief_43 (by decide) ?_
      exact m_reti hx hb hr hlk hM hS ⟨_, rfl, hw⟩ dX12_thief_44
  · have hw := hw.2 (bI_f cq)
    refine lv_iconst (v := (-1)) hx hb dX12_thief_14 (by decide) ?_
    exact m_reti hx hb hr hlk hM hS ⟨_, rfl, hw⟩ dX12_thief_15
theorem dX12_bits_0 : decode cX12_bits 0 = .ok (.iconst 0, 1) := by decide +kernel
theorem dX12_bits_1 : decode cX12_bits 1 = .ok (.istore_n 1, 1) := by decide +kernel
theorem dX12_bits_2 : decode cX12_bits 2 = .ok (.iconst 0, 1) := by decide +kernel
theorem dX12_bits_3 : decode cX12_bits 3 = .ok (.istore_n 2, 1) := by decide +kernel
theorem dX12_bits_4 : decode cX12_bits 4 = .ok (.iload_n 2, 1) := by decide +kernel
theorem dX12_bits_5 : decode cX12_bits 5 = .ok (.bipush 31, 2) := by decide +kernel
theorem dX12_bits_7 : decode cX12_bits 7 = .ok (.if_icmp .ge 17, 3) := by decide +kernel
theorem dX12_bits_10 : decode cX12_bits 10 = .ok (.iload_n 1, 1) := by decide +kernel
theorem dX12_bits_11 : decode cX12_bits 11 = .ok (.iload_n 0, 1) := by decide +kernel
theorem dX12_bits_12 : decode cX12_bits 12 = .ok (.iload_n 2, 1) := by decide +kernel
theorem dX12_bits_13 : decode cX12_bits 13 = .ok (.ishr, 1) := by decide +kernel
theorem dX12_bits_14 : decode cX12_bits 14 = .ok (.iconst 1, 1) := by decide +kernel
theorem dX12_bits_15 : decode cX12_bits 15 = .ok (.iand, 1) := by decide +kernel
theorem dX12_bits_16 : decode cX12_bits 16 = .ok (.iadd, 1) := by decide +kernel
theorem dX12_bits_17 : decode cX12_bits 17 = .ok (.istore_n 1, 1) := by decide +kernel
theorem dX12_bits_18 : decode cX12_bits 18 = .ok (.iinc 2 1, 3) := by decide +kernel
theorem dX12_bits_21 : decode cX12_bits 21 = .ok (.goto (-17), 3) := by decide +kernel
theorem dX12_bits_24 : decode cX12_bits 24 = .ok (.iload_n 1, 1) := by decide +kernel
theorem dX12_bits_25 : decode cX12_bits 25 = .ok (.ireturn, 1) := by decide +kernel
def w_X12_bits_4 (a1 : Int32) (post : Int32 → Prop) (v1 : Int32) (v2 : Int32) : Prop := ∀ ZZ : (Int32 → Int32 → Prop), (∀ (v1 : Int32) (v2 : Int32), ((31 ≤ v2 → post v1) ∧ (¬ 31 ≤ v2 → ∀ x1, x1 = (v1 + ((a1 >>> (v2 &&& 31)) &&& 1)) → ∀ x2, x2 = v2 + 1 → ZZ x1 x2)) → ZZ v1 v2) → ZZ v1 v2
set_option maxRecDepth 100000 in
set_option maxHeartbeats 4000000 in
theorem s_X12_bits_4 {p : Program} {l : Launch} {e : Env} {s : State} {m : MethodId} {args : Array Value} {below : List Frame} {meth : Method} {c : Code} {D : va_G} {cA : Nat → ClassId} {Z : mZ} {bs : Ad} {n : Nat} {K : mK} {R : mR} {I : mI} {L : mL} (E : Ev p s m args c cX12_bits 3 RX12 D cA Z bs) (hr : meth.sig.returnType = (some .int)) (hlk : meth.locks = false) {a1 : Int32}  {post : Int32 → Prop} {v1 : Int32} {v2 : Int32} {H : Heap} {locs : List Loc} {ls : Array Slot} (hw : w_X12_bits_4 a1 post v1 v2) (hM : mm D cA bs (n, K, R, I, L) H) (hS : va_S (Ab bs) s.heap H locs) (hl : lv_has ls 3 [(0, .int a1), (1, .int v1), (2, .int v2)]) : W p l e ({ frames := 0, cells := 0, slots := 0, locals := 0 } : Room) s m args below meth c H locs 0 0 (MQ below (QI D cA bs (fun r u => u = (n, K, R, I, L) ∧ post r)) args s 0 0 (Ab bs)) (F0 m 4 ls []) := by
  have hx := E.1.1
  have hb := E.1.2.1
  refine hw (fun v1 v2 => ∀ (H : Heap) (locs : List Loc) (ls : Array Slot), mm D cA bs (n, K, R, I, L) H → va_S (Ab bs) s.heap H locs → lv_has ls 3 [(0, .int a1), (1, .int v1), (2, .int v2)] → W p l e ({ frames := 0, cells := 0, slots := 0, locals := 0 } : Room) s m args below meth c H locs 0 0 (MQ below (QI D cA bs (fun r u => u = (n, K, R, I, L) ∧ post r)) args s 0 0 (Ab bs)) (F0 m 4 ls [])) ?_ H locs ls hM hS hl
  clear hw hM hS hl
  intro v1 v2 hw H locs ls hM hS hl
  refine lv_iload_n hx hb dX12_bits_4 rfl (lv_at hl 2 rfl) ?_
  refine lv_bipush (v := 31) hx hb dX12_bits_5 (by decide) ?_
  refine lv_icmp_ge (tgt := 24) hx hb dX12_bits_7 (by decide) (fun cq => ?_) (fun cq => ?_)
  · have hw := hw.1 cq
    refine lv_iload_n hx hb dX12_bits_24 rfl (lv_at hl 1 rfl) ?_
    exact m_reti hx hb hr hlk hM hS ⟨rfl, hw⟩ dX12_bits_25
  · have hw := hw.2 cq
    refine lv_iload_n hx hb dX12_bits_10 rfl (lv_at hl 1 rfl) ?_
    refine lv_iload_n hx hb dX12_bits_11 rfl (lv_at hl 0 rfl) ?_
    refine lv_iload_n hx hb dX12_bits_12 rfl (lv_at hl 2 rfl) ?_
    refine lv_ishr hx hb dX12_bits_13 ?_
    refine lv_iconst (v := 1) hx hb dX12_bits_14 (by decide) ?_
    refine lv_iand hx hb dX12_bits_15 ?_
    refine lv_iadd hx hb dX12_bits_16 ?_
    refine lv_topi (fun x1 ex1 => ?_)
    have hw := hw x1 ex1
    refine lv_istore_n (lv' := [(1, .int x1), (0, .int a1), (2, .int v2)]) hx hb dX12_bits_17 rfl hl (by decide) rfl (fun ls hl => ?_)
    obtain ⟨x2, ex2⟩ : ∃ y : Int32, y = v2 + 1 := ⟨_, rfl⟩
    have hw := hw x2 ex2
    refine lv_iinc (v := x2) (lv' := [(2, .int x2), (1, .int x1), (0, .int a1)]) hx hb dX12_bits_18 hl (k := 2) rfl (by rw [ex2]; rfl) (by decide) rfl (fun ls hl => ?_)
    refine lv_goto (tgt := 4) hx hb dX12_bits_21 (by decide) ?_
    exact hw H locs ls  hM hS (lv_sub hl [2, 1, 0] rfl)
def w_X12_bits (a1 : Int32) (post : Int32 → Prop) : Prop := (w_X12_bits_4 a1 post) 0 0
set_option maxRecDepth 100000 in
set_option maxHeartbeats 4000000 in
theorem c_X12_bits {l : Launch} {D : va_G} {cA : Nat → ClassId} {Z : mZ} {bs : Ad} {n : Nat} {K : mK} {R : mR} {I : mI} {L : mL} {a1 : Int32} {post : Int32 → Prop}  (hw : w_X12_bits a1 post) : Met l yX12_bits (.code yX12_bits cX12_bits 3 (some .int) :: gw) ({ frames := 0, cells := 0, slots := 0, locals := 0 } : Room) (PreM D cA Z bs (n, K, R, I, L) [.int a1]) (QI D cA bs (fun r u => u = (n, K, R, I, L) ∧ post r)) 0 0 (Ab bs) := by
  refine m_met (by decide) (Nat.le_of_ble_eq_true rfl) (fun p e s m below meth c ls E hr hlk hM hS hl => ?_)
  have E : Ev p s m _ c cX12_bits 3 RX12 D cA Z bs := E
  have hl : lv_has ls 3 [(0, .int a1)] := hl
  have hx := E.1.1
  have hb := E.1.2.1
  generalize hHe : s.heap = H at hM ⊢
  have hS : va_S (Ab bs) s.heap H [] := by rw [← hHe]; exact va_S.rf
  clear hHe
  refine lv_iconst (v := 0) hx hb dX12_bits_0 (by decide) ?_
  refine lv_istore_n (lv' := [(1, .int 0), (0, .int a1)]) hx hb dX12_bits_1 rfl hl (by decide) rfl (fun ls hl => ?_)
  refine lv_iconst (v := 0) hx hb dX12_bits_2 (by decide) ?_
  refine lv_istore_n (lv' := [(2, .int 0), (1, .int 0), (0, .int a1)]) hx hb dX12_bits_3 rfl hl (by decide) rfl (fun ls hl => ?_)
  exact s_X12_bits_4 E hr hlk   hw hM hS (lv_sub hl [2, 1, 0] rfl)
theorem dX12_shodBy_0 : decode cX12_shodBy 0 = .ok (.iconst 1, 1) := by decide +kernel
theorem dX12_shodBy_1 : decode cX12_shodBy 1 = .ok (.istore_n 2, 1) := by decide +kernel
theorem dX12_shodBy_2 : decode cX12_shodBy 2 = .ok (.iconst 1, 1) := by decide +kernel
theorem dX12_shodBy_3 : decode cX12_shodBy 3 = .ok (.istore_n 3, 1) := by decide +kernel
theorem dX12_shodBy_4 : decode cX12_shodBy 4 = .ok (.iload_n 3, 1) := by decide +kernel
theorem dX12_shodBy_5 : decode cX12_shodBy 5 = .ok (.aload_n 0, 1) := by decide +kernel
theorem dX12_shodBy_6 : decode cX12_shodBy 6 = .ok (.invokevirtual 208, 3) := by decide +kernel
theorem dX12_shodBy_9 : decode cX12_shodBy 9 = .ok (.if_icmp .ge 14, 3) := by decide +kernel
theorem dX12_shodBy_12 : decode cX12_shodBy 12 = .ok (.iload_n 2, 1) := by decide +kernel
theorem dX12_shodBy_13 : decode cX12_shodBy 13 = .ok (.bipush 6, 2) := by decide +kernel
theorem dX12_shodBy_15 : decode cX12_shodBy 15 = .ok (.imul, 1) := by decide +kernel
theorem dX12_shodBy_16 : decode cX12_shodBy 16 = .ok (.istore_n 2, 1) := by decide +kernel
theorem dX12_shodBy_17 : decode cX12_shodBy 17 = .ok (.iinc 3 1, 3) := by decide +kernel
theorem dX12_shodBy_20 : decode cX12_shodBy 20 = .ok (.goto (-16), 3) := by decide +kernel
theorem dX12_shodBy_23 : decode cX12_shodBy 23 = .ok (.iconst 0, 1) := by decide +kernel
theorem dX12_shodBy_24 : decode cX12_shodBy 24 = .ok (.istore_n 3, 1) := by decide +kernel
theorem dX12_shodBy_25 : decode cX12_shodBy 25 = .ok (.iload_n 3, 1) := by decide +kernel
theorem dX12_shodBy_26 : decode cX12_shodBy 26 = .ok (.bipush 6, 2) := by decide +kernel
theorem dX12_shodBy_28 : decode cX12_shodBy 28 = .ok (.iload_n 2, 1) := by decide +kernel
theorem dX12_shodBy_29 : decode cX12_shodBy 29 = .ok (.imul, 1) := by decide +kernel
theorem dX12_shodBy_30 : decode cX12_shodBy 30 = .ok (.if_icmp .ge 143, 3) := by decide +kernel
theorem dX12_shodBy_33 : decode cX12_shodBy 33 = .ok (.iconst 1, 1) := by decide +kernel
theorem dX12_shodBy_34 : decode cX12_shodBy 34 = .ok (.istore 4, 2) := by decide +kernel
theorem dX12_shodBy_36 : decode cX12_shodBy 36 = .ok (.iload_n 2, 1) := by decide +kernel
theorem dX12_shodBy_37 : decode cX12_shodBy 37 = .ok (.istore 5, 2) := by decide +kernel
theorem dX12_shodBy_39 : decode cX12_shodBy 39 = .ok (.iconst 0, 1) := by decide +kernel
theorem dX12_shodBy_40 : decode cX12_shodBy 40 = .ok (.istore 6, 2) := by decide +kernel
theorem dX12_shodBy_42 : decode cX12_shodBy 42 = .ok (.iload 6, 2) := by decide +kernel
theorem dX12_shodBy_44 : decode cX12_shodBy 44 = .ok (.aload_n 0, 1) := by decide +kernel
theorem dX12_shodBy_45 : decode cX12_shodBy 45 = .ok (.invokevirtual 208, 3) := by decide +kernel
theorem dX12_shodBy_48 : decode cX12_shodBy 48 = .ok (.if_icmp .ge 112, 3) := by decide +kernel
theorem dX12_shodBy_51 : decode cX12_shodBy 51 = .ok (.iload 4, 2) := by decide +kernel
theorem dX12_shodBy_53 : decode cX12_shodBy 53 = .ok (.ifCond .eq 107, 3) := by decide +kernel
theorem dX12_shodBy_56 : decode cX12_shodBy 56 = .ok (.iload_n 3, 1) := by decide +kernel
theorem dX12_shodBy_57 : decode cX12_shodBy 57 = .ok (.iload 5, 2) := by decide +kernel
theorem dX12_shodBy_59 : decode cX12_shodBy 59 = .ok (.idiv, 1) := by decide +kernel
theorem dX12_shodBy_60 : decode cX12_shodBy 60 = .ok (.bipush 6, 2) := by decide +kernel
theorem dX12_shodBy_62 : decode cX12_shodBy 62 = .ok (.irem, 1) := by decide +kernel
theorem dX12_shodBy_63 : decode cX12_shodBy 63 = .ok (.iload_n 1, 1) := by decide +kernel
theorem dX12_shodBy_64 : decode cX12_shodBy 64 = .ok (.if_icmp .ge 7, 3) := by decide +kernel
theorem dX12_shodBy_67 : decode cX12_shodBy 67 = .ok (.iconst 1, 1) := by decide +kernel
theorem dX12_shodBy_68 : decode cX12_shodBy 68 = .ok (.goto 4, 3) := by decide +kernel
theorem dX12_shodBy_71 : decode cX12_shodBy 71 = .ok (.iconst 0, 1) := by decide +kernel
theorem dX12_shodBy_72 : decode cX12_shodBy 72 = .ok (.istore 4, 2) := by decide +kernel
theorem dX12_shodBy_74 : decode cX12_shodBy 74 = .ok (.iload_n 2, 1) := by decide +kernel
theorem dX12_shodBy_75 : decode cX12_shodBy 75 = .ok (.istore 7, 2) := by decide +kernel
theorem dX12_shodBy_77 : decode cX12_shodBy 77 = .ok (.iconst 0, 1) := by decide +kernel
theorem dX12_shodBy_78 : decode cX12_shodBy 78 = .ok (.istore 8, 2) := by decide +kernel
theorem dX12_shodBy_80 : decode cX12_shodBy 80 = .ok (.iload 8, 2) := by decide +kernel
theorem dX12_shodBy_82 : decode cX12_shodBy 82 = .ok (.iload 6, 2) := by decide +kernel
theorem dX12_shodBy_84 : decode cX12_shodBy 84 = .ok (.if_icmp .ge 63, 3) := by decide +kernel
theorem dX12_shodBy_87 : decode cX12_shodBy 87 = .ok (.iload 4, 2) := by decide +kernel
theorem dX12_shodBy_89 : decode cX12_shodBy 89 = .ok (.ifCond .eq 58, 3) := by decide +kernel
theorem dX12_shodBy_92 : decode cX12_shodBy 92 = .ok (.iload_n 3, 1) := by decide +kernel
theorem dX12_shodBy_93 : decode cX12_shodBy 93 = .ok (.iload 5, 2) := by decide +kernel
theorem dX12_shodBy_95 : decode cX12_shodBy 95 = .ok (.idiv, 1) := by decide +kernel
theorem dX12_shodBy_96 : decode cX12_shodBy 96 = .ok (.bipush 6, 2) := by decide +kernel
theorem dX12_shodBy_98 : decode cX12_shodBy 98 = .ok (.irem, 1) := by decide +kernel
theorem dX12_shodBy_99 : decode cX12_shodBy 99 = .ok (.iload_n 3, 1) := by decide +kernel
theorem dX12_shodBy_100 : decode cX12_shodBy 100 = .ok (.iload 7, 2) := by decide +kernel
theorem dX12_shodBy_102 : decode cX12_shodBy 102 = .ok (.idiv, 1) := by decide +kernel
theorem dX12_shodBy_103 : decode cX12_shodBy 103 = .ok (.bipush 6, 2) := by decide +kernel
theorem dX12_shodBy_105 : decode cX12_shodBy 105 = .ok (.irem, 1) := by decide +kernel
theorem dX12_shodBy_106 : decode cX12_shodBy 106 = .ok (.if_icmp .ne 21, 3) := by decide +kernel
theorem dX12_shodBy_109 : decode cX12_shodBy 109 = .ok (.aload_n 0, 1) := by decide +kernel
theorem dX12_shodBy_110 : decode cX12_shodBy 110 = .ok (.getfield 65, 3) := by decide +kernel
theorem dX12_shodBy_113 : decode cX12_shodBy 113 = .ok (.iload 6, 2) := by decide +kernel
theorem dX12_shodBy_115 : decode cX12_shodBy 115 = .ok (.iaload, 1) := by decide +kernel
theorem dX12_shodBy_116 : decode cX12_shodBy 116 = .ok (.aload_n 0, 1) := by decide +kernel
theorem dX12_shodBy_117 : decode cX12_shodBy 117 = .ok (.getfield 65, 3) := by decide +kernel
theorem dX12_shodBy_120 : decode cX12_shodBy 120 = .ok (.iload 8, 2) := by decide +kernel
theorem dX12_shodBy_122 : decode cX12_shodBy 122 = .ok (.iaload, 1) := by decide +kernel
theorem dX12_shodBy_123 : decode cX12_shodBy 123 = .ok (.iand, 1) := by decide +kernel
theorem dX12_shodBy_124 : decode cX12_shodBy 124 = .ok (.ifCond .ne 7, 3) := by decide +kernel
theorem dX12_shodBy_127 : decode cX12_shodBy 127 = .ok (.iconst 1, 1) := by decide +kernel
theorem dX12_shodBy_128 : decode cX12_shodBy 128 = .ok (.goto 4, 3) := by decide +kernel
theorem dX12_shodBy_131 : decode cX12_shodBy 131 = .ok (.iconst 0, 1) := by decide +kernel
theorem dX12_shodBy_132 : decode cX12_shodBy 132 = .ok (.istore 4, 2) := by decide +kernel
theorem dX12_shodBy_134 : decode cX12_shodBy 134 = .ok (.iload 7, 2) := by decide +kernel
theorem dX12_shodBy_136 : decode cX12_shodBy 136 = .ok (.bipush 6, 2) := by decide +kernel
theorem dX12_shodBy_138 : decode cX12_shodBy 138 = .ok (.idiv, 1) := by decide +kernel
theorem dX12_shodBy_139 : decode cX12_shodBy 139 = .ok (.istore 7, 2) := by decide +kernel
theorem dX12_shodBy_141 : decode cX12_shodBy 141 = .ok (.iinc 8 1, 3) := by decide +kernel
theorem dX12_shodBy_144 : decode cX12_shodBy 144 = .ok (.goto (-64), 3) := by decide +kernel
theorem dX12_shodBy_147 : decode cX12_shodBy 147 = .ok (.iload 5, 2) := by decide +kernel
theorem dX12_shodBy_149 : decode cX12_shodBy 149 = .ok (.bipush 6, 2) := by decide +kernel
theorem dX12_shodBy_151 : decode cX12_shodBy 151 = .ok (.idiv, 1) := by decide +kernel
theorem dX12_shodBy_152 : decode cX12_shodBy 152 = .ok (.istore 5, 2) := by decide +kernel
theorem dX12_shodBy_154 : decode cX12_shodBy 154 = .ok (.iinc 6 1, 3) := by decide +kernel
theorem dX12_shodBy_157 : decode cX12_shodBy 157 = .ok (.goto (-115), 3) := by decide +kernel
theorem dX12_shodBy_160 : decode cX12_shodBy 160 = .ok (.iload 4, 2) := by decide +kernel
theorem dX12_shodBy_162 : decode cX12_shodBy 162 = .ok (.ifCond .eq 5, 3) := by decide +kernel
theorem dX12_shodBy_165 : decode cX12_shodBy 165 = .ok (.iload_n 3, 1) := by decide +kernel
theorem dX12_shodBy_166 : decode cX12_shodBy 166 = .ok (.ireturn, 1) := by decide +kernel
theorem dX12_shodBy_167 : decode cX12_shodBy 167 = .ok (.iinc 3 1, 3) := by decide +kernel
theorem dX12_shodBy_170 : decode cX12_shodBy 170 = .ok (.goto (-145), 3) := by decide +kernel
theorem dX12_shodBy_173 : decode cX12_shodBy 173 = .ok (.iconst (-1), 1) := by decide +kernel
theorem dX12_shodBy_174 : decode cX12_shodBy 174 = .ok (.ireturn, 1) := by decide +kernel
def w_X12_shodBy_4 (I : mI) (o : Nat) (a1 : Int32) (post : Int32 → Prop) (k25 : Int32 → Int32 → Prop) (v2 : Int32) (v3 : Int32) : Prop := ∀ ZZ : (Int32 → Int32 → Prop), (∀ (v2 : Int32) (v3 : Int32), (w_X12_people I o (fun r1 => (r1 ≤ v3 → k25 v2 0) ∧ (¬ r1 ≤ v3 → ∀ x2, x2 = (v2 * 6) → ∀ x3, x3 = v3 + 1 → ZZ x2 x3))) → ZZ v2 v3) → ZZ v2 v3
set_option maxRecDepth 100000 in
set_option maxHeartbeats 4000000 in
theorem s_X12_shodBy_4 {p : Program} {l : Launch} {e : Env} {s : State} {m : MethodId} {args : Array Value} {below : List Frame} {meth : Method} {c : Code} {D : va_G} {cA : Nat → ClassId} {Z : mZ} {bs : Ad} {n : Nat} {K : mK} {R : mR} {I : mI} {L : mL} (E : Ev p s m args c cX12_shodBy 9 RX12 D cA Z bs) (hr : meth.sig.returnType = (some .int)) (hlk : meth.locks = false) {o : Nat} {a1 : Int32} (ho : isX12 K R o) {post : Int32 → Prop} {k25 : Int32 → Int32 → Prop} (hk25 : ∀ (v2 : Int32) (v3 : Int32) (H : Heap) (locs : List Loc) (ls : Array Slot), k25 v2 v3 → mm D cA bs (n, K, R, I, L) H → va_S (Ab bs) s.heap H locs → lv_has ls 9 [(0, .ref (ad bs o)), (1, .int a1), (2, .int v2), (3, .int v3)] → W p l e ({ frames := 2, cells := 0, slots := 0, locals := 41 } : Room) s m args below meth c H locs 0 0 (MQ below (QI D cA bs (fun r u => u = (n, K, R, I, L) ∧ post r)) args s 0 0 (Ab bs)) (F0 m 25 ls [])) {v2 : Int32} {v3 : Int32} {H : Heap} {locs : List Loc} {ls : Array Slot} (hw : w_X12_shodBy_4 I o a1 post k25 v2 v3) (hM : mm D cA bs (n, K, R, I, L) H) (hS : va_S (Ab bs) s.heap H locs) (hl : lv_has ls 9 [(0, .ref (ad bs o)), (1, .int a1), (2, .int v2), (3, .int v3)]) : W p l e ({ frames := 2, cells := 0, slots := 0, locals := 41 } : Room) s m args below meth c H locs 0 0 (MQ below (QI D cA bs (fun r u => u = (n, K, R, I, L) ∧ post r)) args s 0 0 (Ab bs)) (F0 m 4 ls []) := by
  have hx := E.1.1
  have hb := E.1.2.1
  refine hw (fun v2 v3 => ∀ (H : Heap) (locs : List Loc) (ls : Array Slot), mm D cA bs (n, K, R, I, L) H → va_S (Ab bs) s.heap H locs → lv_has ls 9 [(0, .ref (ad bs o)), (1, .int a1), (2, .int v2), (3, .int v3)] → W p l e ({ frames := 2, cells := 0, slots := 0, locals := 41 } : Room) s m args below meth c H locs 0 0 (MQ below (QI D cA bs (fun r u => u = (n, K, R, I, L) ∧ post r)) args s 0 0 (Ab bs)) (F0 m 4 ls [])) ?_ H locs ls hM hS hl
  clear hw hM hS hl
  intro v2 v3 hw H locs ls hM hS hl
  refine lv_iload_n hx hb dX12_shodBy_4 rfl (lv_at hl 3 rfl) ?_
  refine lv_aload_n hx hb dX12_shodBy_5 rfl (lv_at hl 0 rfl) ?_
  refine m_ci (m_runV E hM hS cs_X12_208 ho.1 (by decide) rfl rfl (c_X12_people ho hw) rfl rfl ⟨Nat.le_of_ble_eq_true rfl, Nat.le_of_ble_eq_true rfl⟩ rfl hl.1 rfl (Nat.le_of_ble_eq_true rfl) dX12_shodBy_6 ⟨Nat.le_of_ble_eq_true rfl, Nat.le_of_ble_eq_true rfl⟩) hS (fun r1 u H locs hp hM hS => ?_)
  obtain ⟨rfl, hw⟩ := hp
  refine lv_icmp_ge (tgt := 23) hx hb dX12_shodBy_9 (by decide) (fun cq => ?_) (fun cq => ?_)
  · have hw := hw.1 cq
    refine lv_iconst (v := 0) hx hb dX12_shodBy_23 (by decide) ?_
    refine lv_istore_n (lv' := [(3, .int 0), (0, .ref (ad bs o)), (1, .int a1), (2, .int v2)]) hx hb dX12_shodBy_24 rfl hl (by decide) rfl (fun ls hl => ?_)
    exact hk25 _ _ H locs ls  hw hM hS (lv_sub hl [1, 2, 3, 0] rfl)
  · have hw := hw.2 cq
    refine lv_iload_n hx hb dX12_shodBy_12 rfl (lv_at hl 2 rfl) ?_
    refine lv_bipush (v := 6) hx hb dX12_shodBy_13 (by decide) ?_
    refine lv_imul hx hb dX12_shodBy_15 ?_
    refine lv_topi (fun x2 ex2 => ?_)
    have hw := hw x2 ex2
    refine lv_istore_n (lv' := [(2, .int x2), (0, .ref (ad bs o)), (1, .int a1), (3, .int v3)]) hx hb dX12_shodBy_16 rfl hl (by decide) rfl (fun ls hl => ?_)
    obtain ⟨x3, ex3⟩ : ∃ y : Int32, y = v3 + 1 := ⟨_, rfl⟩
    have hw := hw x3 ex3
    refine lv_iinc (v := x3) (lv' := [(3, .int x3), (2, .int x2), (0, .ref (ad bs o)), (1, .int a1)]) hx hb dX12_shodBy_17 hl (k := 3) rfl (by rw [ex3]; rfl) (by decide) rfl (fun ls hl => ?_)
    refine lv_goto (tgt := 4) hx hb dX12_shodBy_20 (by decide) ?_
    exact hw H locs ls  hM hS (lv_sub hl [2, 3, 1, 0] rfl)
def w_X12_shodBy_127 (I : mI) (o : Nat) (a1 : Int32) (post : Int32 → Prop) (k80 : Int32 → Int32 → Int32 → Int32 → Int32 → Int32 → Int32 → Prop) (v2 : Int32) (v3 : Int32) (v5 : Int32) (v6 : Int32) (v7 : Int32) (v8 : Int32) : Prop := ∀ x11, x11 = (v7 / 6) → ∀ x12, x12 = v8 + 1 → k80 v2 v3 1 v5 v6 x11 x12
set_option maxRecDepth 100000 in
set_option maxHeartbeats 4000000 in
theorem s_X12_shodBy_127 {p : Program} {l : Launch} {e : Env} {s : State} {m : MethodId} {args : Array Value} {below : List Frame} {meth : Method} {c : Code} {D : va_G} {cA : Nat → ClassId} {Z : mZ} {bs : Ad} {n : Nat} {K : mK} {R : mR} {I : mI} {L : mL} (E : Ev p s m args c cX12_shodBy 9 RX12 D cA Z bs) (hr : meth.sig.returnType = (some .int)) (hlk : meth.locks = false) {o : Nat} {a1 : Int32} (ho : isX12 K R o) {post : Int32 → Prop} {k80 : Int32 → Int32 → Int32 → Int32 → Int32 → Int32 → Int32 → Prop} (hk80 : ∀ (v2 : Int32) (v3 : Int32) (v4 : Int32) (v5 : Int32) (v6 : Int32) (v7 : Int32) (v8 : Int32) (H : Heap) (locs : List Loc) (ls : Array Slot), k80 v2 v3 v4 v5 v6 v7 v8 → mm D cA bs (n, K, R, I, L) H → va_S (Ab bs) s.heap H locs → lv_has ls 9 [(0, .ref (ad bs o)), (1, .int a1), (2, .int v2), (3, .int v3), (4, .int v4), (5, .int v5), (6, .int v6), (7, .int v7), (8, .int v8)] → W p l e ({ frames := 2, cells := 0, slots := 0, locals := 41 } : Room) s m args below meth c H locs 0 0 (MQ below (QI D cA bs (fun r u => u = (n, K, R, I, L) ∧ post r)) args s 0 0 (Ab bs)) (F0 m 80 ls [])) {v2 : Int32} {v3 : Int32} {v5 : Int32} {v6 : Int32} {v7 : Int32} {v8 : Int32} {H : Heap} {locs : List Loc} {ls : Array Slot} (hw : w_X12_shodBy_127 I o a1 post k80 v2 v3 v5 v6 v7 v8) (hM : mm D cA bs (n, K, R, I, L) H) (hS : va_S (Ab bs) s.heap H locs) (hl : lv_has ls 9 [(0, .ref (ad bs o)), (1, .int a1), (2, .int v2), (3, .int v3), (5, .int v5), (6, .int v6), (7, .int v7), (8, .int v8)]) : W p l e ({ frames := 2, cells := 0, slots := 0, locals := 41 } : Room) s m args below meth c H locs 0 0 (MQ below (QI D cA bs (fun r u => u = (n, K, R, I, L) ∧ post r)) args s 0 0 (Ab bs)) (F0 m 127 ls []) := by
  have hx := E.1.1
  have hb := E.1.2.1
  refine lv_iconst (v := 1) hx hb dX12_shodBy_127 (by decide) ?_
  refine lv_goto (tgt := 132) hx hb dX12_shodBy_128 (by decide) ?_
  refine lv_istore (lv' := [(4, .int 1), (0, .ref (ad bs o)), (1, .int a1), (2, .int v2), (3, .int v3), (5, .int v5), (6, .int v6), (7, .int v7), (8, .int v8)]) hx hb dX12_shodBy_132 hl (by decide) rfl (fun ls hl => ?_)
  refine lv_iload hx hb dX12_shodBy_134 (lv_at hl 7 rfl) ?_
  refine lv_bipush (v := 6) hx hb dX12_shodBy_136 (by decide) ?_
  refine lv_idiv hx hb dX12_shodBy_138 (by decide) ?_
  refine lv_topi (fun x11 ex11 => ?_)
  have hw := hw x11 ex11
  refine lv_istore (lv' := [(7, .int x11), (4, .int 1), (0, .ref (ad bs o)), (1, .int a1), (2, .int v2), (3, .int v3), (5, .int v5), (6, .int v6), (8, .int v8)]) hx hb dX12_shodBy_139 hl (by decide) rfl (fun ls hl => ?_)
  obtain ⟨x12, ex12⟩ : ∃ y : Int32, y = v8 + 1 := ⟨_, rfl⟩
  have hw := hw x12 ex12
  refine lv_iinc (v := x12) (lv' := [(8, .int x12), (7, .int x11), (4, .int 1), (0, .ref (ad bs o)), (1, .int a1), (2, .int v2), (3, .int v3), (5, .int v5), (6, .int v6)]) hx hb dX12_shodBy_141 hl (k := 8) rfl (by rw [ex12]; rfl) (by decide) rfl (fun ls hl => ?_)
  refine lv_goto (tgt := 80) hx hb dX12_shodBy_144 (by decide) ?_
  exact hk80 _ _ _ _ _ _ _ H locs ls  hw hM hS (lv_sub hl [3, 4, 5, 6, 2, 7, 8, 1, 0] rfl)
def w_X12_shodBy_80 (I : mI) (o : Nat) (a1 : Int32) (post : Int32 → Prop) (k42 : Int32 → Int32 → Int32 → Int32 → Int32 → Prop) (v2 : Int32) (v3 : Int32) (v4 : Int32) (v5 : Int32) (v6 : Int32) (v7 : Int32) (v8 : Int32) : Prop := ∀ ZZ : (Int32 → Int32 → Int32 → Int32 → Int32 → Int32 → Int32 → Prop), (∀ (v2 : Int32) (v3 : Int32) (v4 : Int32) (v5 : Int32) (v6 : Int32) (v7 : Int32) (v8 : Int32), ((v6 ≤ v8 → ∀ x5, x5 = (v5 / 6) → ∀ x6, x6 = v6 + 1 → k42 v2 v3 v4 x5 x6) ∧ (¬ v6 ≤ v8 → (v4 = 0 → ∀ x7, x7 = (v5 / 6) → ∀ x8, x8 = v6 + 1 → k42 v2 v3 v4 x7 x8) ∧ (¬ v4 = 0 → ¬ v5 = 0 ∧ ¬ v7 = 0 ∧ (¬ (irem (v3 / v5) 6) = (irem (v3 / v7) 6) → (w_X12_shodBy_127 I o a1 post ZZ) v2 v3 v5 v6 v7 v8) ∧ ((irem (v3 / v5) 6) = (irem (v3 / v7) 6) → vp_in v6 6 ∧ vp_in v8 6 ∧ (¬ ((I (o + 19) v6.toNatClampNeg) &&& (I (o + 19) v8.toNatClampNeg)) = 0 → ∀ x9, x9 = (v7 / 6) → ∀ x10, x10 = v8 + 1 → ZZ v2 v3 0 v5 v6 x9 x10) ∧ (((I (o + 19) v6.toNatClampNeg) &&& (I (o + 19) v8.toNatClampNeg)) = 0 → (w_X12_shodBy_127 I o a1 post ZZ) v2 v3 v5 v6 v7 v8))))) → ZZ v2 v3 v4 v5 v6 v7 v8) → ZZ v2 v3 v4 v5 v6 v7 v8
set_option maxRecDepth 100000 in
set_option maxHeartbeats 4000000 in
theorem s_X12_shodBy_80 {p : Program} {l : Launch} {e : Env} {s : State} {m : MethodId} {args : Array Value} {below : List Frame} {meth : Method} {c : Code} {D : va_G} {cA : Nat → ClassId} {Z : mZ} {bs : Ad} {n : Nat} {K : mK} {R : mR} {I : mI} {L : mL} (E : Ev p s m args c cX12_shodBy 9 RX12 D cA Z bs) (hr : meth.sig.returnType = (some .int)) (hlk : meth.locks = false) {o : Nat} {a1 : Int32} (ho : isX12 K R o) {post : Int32 → Prop} {k42 : Int32 → Int32 → Int32 → Int32 → Int32 → Prop} (hk42 : ∀ (v2 : Int32) (v3 : Int32) (v4 : Int32) (v5 : Int32) (v6 : Int32) (H : Heap) (locs : List Loc) (ls : Array Slot), k42 v2 v3 v4 v5 v6 → mm D cA bs (n, K, R, I, L) H → va_S (Ab bs) s.heap H locs → lv_has ls 9 [(0, .ref (ad bs o)), (1, .int a1), (2, .int v2), (3, .int v3), (4, .int v4), (5, .int v5), (6, .int v6)] → W p l e ({ frames := 2, cells := 0, slots := 0, locals := 41 } : Room) s m args below meth c H locs 0 0 (MQ below (QI D cA bs (fun r u => u = (n, K, R, I, L) ∧ post r)) args s 0 0 (Ab bs)) (F0 m 42 ls [])) {v2 : Int32} {v3 : Int32} {v4 : Int32} {v5 : Int32} {v6 : Int32} {v7 : Int32} {v8 : Int32} {H : Heap} {locs : List Loc} {ls : Array Slot} (hw : w_X12_shodBy_80 I o a1 post k42 v2 v3 v4 v5 v6 v7 v8) (hM : mm D cA bs (n, K, R, I, L) H) (hS : va_S (Ab bs) s.heap H locs) (hl : lv_has ls 9 [(0, .ref (ad bs o)), (1, .int a1), (2, .int v2), (3, .int v3), (4, .int v4), (5, .int v5), (6, .int v6), (7, .int v7), (8, .int v8)]) : W p l e ({ frames := 2, cells := 0, slots := 0, locals := 41 } : Room) s m args below meth c H locs 0 0 (MQ below (QI D cA bs (fun r u => u = (n, K, R, I, L) ∧ post r)) args s 0 0 (Ab bs)) (F0 m 80 ls []) := by
  have hx := E.1.1
  have hb := E.1.2.1
  refine hw (fun v2 v3 v4 v5 v6 v7 v8 => ∀ (H : Heap) (locs : List Loc) (ls : Array Slot), mm D cA bs (n, K, R, I, L) H → va_S (Ab bs) s.heap H locs → lv_has ls 9 [(0, .ref (ad bs o)), (1, .int a1), (2, .int v2), (3, .int v3), (4, .int v4), (5, .int v5), (6, .int v6), (7, .int v7), (8, .int v8)] → W p l e ({ frames := 2, cells := 0, slots := 0, locals := 41 } : Room) s m args below meth c H locs 0 0 (MQ below (QI D cA bs (fun r u => u = (n, K, R, I, L) ∧ post r)) args s 0 0 (Ab bs)) (F0 m 80 ls [])) ?_ H locs ls hM hS hl
  clear hw hM hS hl
  intro v2 v3 v4 v5 v6 v7 v8 hw H locs ls hM hS hl
  refine lv_iload hx hb dX12_shodBy_80 (lv_at hl 8 rfl) ?_
  refine lv_iload hx hb dX12_shodBy_82 (lv_at hl 6 rfl) ?_
  refine lv_icmp_ge (tgt := 147) hx hb dX12_shodBy_84 (by decide) (fun cq => ?_) (fun cq => ?_)
  · have hw := hw.1 cq
    refine lv_iload hx hb dX12_shodBy_147 (lv_at hl 5 rfl) ?_
    refine lv_bipush (v := 6) hx hb dX12_shodBy_149 (by decide) ?_
    refine lv_idiv hx hb dX12_shodBy_151 (by decide) ?_
    refine lv_topi (fun x5 ex5 => ?_)
    have hw := hw x5 ex5
    refine lv_istore (lv' := [(5, .int x5), (0, .ref (ad bs o)), (1, .int a1), (2, .int v2), (3, .int v3), (4, .int v4), (6, .int v6), (7, .int v7), (8, .int v8)]) hx hb dX12_shodBy_152 hl (by decide) rfl (fun ls hl => ?_)
    obtain ⟨x6, ex6⟩ : ∃ y : Int32, y = v6 + 1 := ⟨_, rfl⟩
    have hw := hw x6 ex6
    refine lv_iinc (v := x6) (lv' := [(6, .int x6), (5, .int x5), (0, .ref (ad bs o)), (1, .int a1), (2, .int v2), (3, .int v3), (4, .int v4), (7, .int v7), (8, .int v8)]) hx hb dX12_shodBy_154 hl (k := 6) rfl (by rw [ex6]; rfl) (by decide) rfl (fun ls hl => ?_)
    refine lv_goto (tgt := 42) hx hb dX12_shodBy_157 (by decide) ?_
    exact hk42 _ _ _ _ _ H locs ls  hw hM hS (lv_sub hl [2, 3, 4, 5, 6, 1, 0] rfl)
  · have hw := hw.2 cq
    refine lv_iload hx hb dX12_shodBy_87 (lv_at hl 4 rfl) ?_
    refine lv_if_eq (tgt := 147) hx hb dX12_shodBy_89 (by decide) (fun cq => ?_) (fun cq => ?_)
    · have hw := hw.1 cq
      refine lv_iload hx hb dX12_shodBy_147 (lv_at hl 5 rfl) ?_
      refine lv_bipush (v := 6) hx hb dX12_shodBy_149 (by decide) ?_
      refine lv_idiv hx hb dX12_shodBy_151 (by decide) ?_
      refine lv_topi (fun x7 ex7 => ?_)
      have hw := hw x7 ex7
      refine lv_istore (lv' := [(5, .int x7), (0, .ref (ad bs o)), (1, .int a1), (2, .int v2), (3, .int v3), (4, .int v4), (6, .int v6), (7, .int v7), (8, .int v8)]) hx hb dX12_shodBy_152 hl (by decide) rfl (fun ls hl => ?_)
      obtain ⟨x8, ex8⟩ : ∃ y : Int32, y = v6 + 1 := ⟨_, rfl⟩
      have hw := hw x8 ex8
      refine lv_iinc (v := x8) (lv' := [(6, .int x8), (5, .int x7), (0, .ref (ad bs o)), (1, .int a1), (2, .int v2), (3, .int v3), (4, .int v4), (7, .int v7), (8, .int v8)]) hx hb dX12_shodBy_154 hl (k := 6) rfl (by rw [ex8]; rfl) (by decide) rfl (fun ls hl => ?_)
      refine lv_goto (tgt := 42) hx hb dX12_shodBy_157 (by decide) ?_
      exact hk42 _ _ _ _ _ H locs ls  hw hM hS (lv_sub hl [2, 3, 4, 5, 6, 1, 0] rfl)
    · have hw := hw.2 cq
      refine lv_iload_n hx hb dX12_shodBy_92 rfl (lv_at hl 3 rfl) ?_
      refine lv_iload hx hb dX12_shodBy_93 (lv_at hl 5 rfl) ?_
      obtain ⟨hd, hw⟩ := hw
      refine lv_idiv hx hb dX12_shodBy_95 hd ?_
      refine lv_bipush (v := 6) hx hb dX12_shodBy_96 (by decide) ?_
      refine lv_irem hx hb dX12_shodBy_98 (by decide) ?_
      refine lv_iload_n hx hb dX12_shodBy_99 rfl (lv_at hl 3 rfl) ?_
      refine lv_iload hx hb dX12_shodBy_100 (lv_at hl 7 rfl) ?_
      obtain ⟨hd, hw⟩ := hw
      refine lv_idiv hx hb dX12_shodBy_102 hd ?_
      refine lv_bipush (v := 6) hx hb dX12_shodBy_103 (by decide) ?_
      refine lv_irem hx hb dX12_shodBy_105 (by decide) ?_
      refine lv_icmp_ne (tgt := 127) hx hb dX12_shodBy_106 (by decide) (fun cq => ?_) (fun cq => ?_)
      · have hw := hw.1 cq
        exact s_X12_shodBy_127 E hr hlk ho (fun v2 v3 v4 v5 v6 v7 v8 H locs ls  hw hM hS hl => hw H locs ls  hM hS hl)  hw hM hS (lv_sub hl [0, 1, 2, 3, 5, 6, 7, 8] rfl)
      · have hw := hw.2 cq
        refine lv_aload_n hx hb dX12_shodBy_109 rfl (lv_at hl 0 rfl) ?_
        refine m_getr E hM fs_X12_65 ho.1 (isO_at ho 18 rfl).1 dX12_shodBy_110 ?_
        refine lv_iload hx hb dX12_shodBy_113 (lv_at hl 6 rfl) ?_
        obtain ⟨hv, hw⟩ := hw
        refine m_iald E hM (isO_at ho 18 rfl).2 hv dX12_shodBy_115 ?_
        refine lv_aload_n hx hb dX12_shodBy_116 rfl (lv_at hl 0 rfl) ?_
        refine m_getr E hM fs_X12_65 ho.1 (isO_at ho 18 rfl).1 dX12_shodBy_117 ?_
        refine lv_iload hx hb dX12_shodBy_120 (lv_at hl 8 rfl) ?_
        obtain ⟨hv, hw⟩ := hw
        refine m_iald E hM (isO_at ho 18 rfl).2 hv dX12_shodBy_122 ?_
        refine lv_iand hx hb dX12_shodBy_123 ?_
        refine lv_if_ne (tgt := 131) hx hb dX12_shodBy_124 (by decide) (fun cq => ?_) (fun cq => ?_)
        · have hw := hw.1 cq
          refine lv_iconst (v := 0) hx hb dX12_shodBy_131 (by decide) ?_
          refine lv_istore (lv' := [(4, .int 0), (0, .ref (ad bs o)), (1, .int a1), (2, .int v2), (3, .int v3), (5, .int v5), (6, .int v6), (7, .int v7), (8, .int v8)]) hx hb dX12_shodBy_132 hl (by decide) rfl (fun ls hl => ?_)
          refine lv_iload hx hb dX12_shodBy_134 (lv_at hl 7 rfl) ?_
          refine lv_bipush (v := 6) hx hb dX12_shodBy_136 (by decide) ?_
          refine lv_idiv hx hb dX12_shodBy_138 (by decide) ?_
          refine lv_topi (fun x9 ex9 => ?_)
          have hw := hw x9 ex9
          refine lv_istore (lv' := [(7, .int x9), (4, .int 0), (0, .ref (ad bs o)), (1, .int a1), (2, .int v2), (3, .int v3), (5, .int v5), (6, .int v6), (8, .int v8)]) hx hb dX12_shodBy_139 hl (by decide) rfl (fun ls hl => ?_)
          obtain ⟨x10, ex10⟩ : ∃ y : Int32, y = v8 + 1 := ⟨_, rfl⟩
          have hw := hw x10 ex10
          refine lv_iinc (v := x10) (lv' := [(8, .int x10), (7, .int x9), (4, .int 0), (0, .ref (ad bs o)), (1, .int a1), (2, .int v2), (3, .int v3), (5, .int v5), (6, .int v6)]) hx hb dX12_shodBy_141 hl (k := 8) rfl (by rw [ex10]; rfl) (by decide) rfl (fun ls hl => ?_)
          refine lv_goto (tgt := 80) hx hb dX12_shodBy_144 (by decide) ?_
          exact hw H locs ls  hM hS (lv_sub hl [3, 4, 5, 6, 2, 7, 8, 1, 0] rfl)
        · have hw := hw.2 cq
          exact s_X12_shodBy_127 E hr hlk ho (fun v2 v3 v4 v5 v6 v7 v8 H locs ls  hw hM hS hl => hw H locs ls  hM hS hl)  hw hM hS (lv_sub hl [0, 1, 2, 3, 5, 6, 7, 8] rfl)
def w_X12_shodBy_42 (I : mI) (o : Nat) (a1 : Int32) (post : Int32 → Prop) (k160 : Int32 → Int32 → Int32 → Prop) (v2 : Int32) (v3 : Int32) (v4 : Int32) (v5 : Int32) (v6 : Int32) : Prop := ∀ ZZ : (Int32 → Int32 → Int32 → Int32 → Int32 → Prop), (∀ (v2 : Int32) (v3 : Int32) (v4 : Int32) (v5 : Int32) (v6 : Int32), (w_X12_people I o (fun r4 => (r4 ≤ v6 → k160 v2 v3 v4) ∧ (¬ r4 ≤ v6 → (v4 = 0 → k160 v2 v3 v4) ∧ (¬ v4 = 0 → ¬ v5 = 0 ∧ (a1 ≤ (irem (v3 / v5) 6) → (w_X12_shodBy_80 I o a1 post ZZ) v2 v3 0 v5 v6 v2 0) ∧ (¬ a1 ≤ (irem (v3 / v5) 6) → (w_X12_shodBy_80 I o a1 post ZZ) v2 v3 1 v5 v6 v2 0))))) → ZZ v2 v3 v4 v5 v6) → ZZ v2 v3 v4 v5 v6
set_option maxRecDepth 100000 in
set_option maxHeartbeats 4000000 in
theorem s_X12_shodBy_42 {p : Program} {l : Launch} {e : Env} {s : State} {m : MethodId} {args : Array Value} {below : List Frame} {meth : Method} {c : Code} {D : va_G} {cA : Nat → ClassId} {Z : mZ} {bs : Ad} {n : Nat} {K : mK} {R : mR} {I : mI} {L : mL} (E : Ev p s m args c cX12_shodBy 9 RX12 D cA Z bs) (hr : meth.sig.returnType = (some .int)) (hlk : meth.locks = false) {o : Nat} {a1 : Int32} (ho : isX12 K R o) {post : Int32 → Prop} {k160 : Int32 → Int32 → Int32 → Prop} (hk160 : ∀ (v2 : Int32) (v3 : Int32) (v4 : Int32) (H : Heap) (locs : List Loc) (ls : Array Slot), k160 v2 v3 v4 → mm D cA bs (n, K, R, I, L) H → va_S (Ab bs) s.heap H locs → lv_has ls 9 [(0, .ref (ad bs o)), (1, .int a1), (2, .int v2), (3, .int v3), (4, .int v4)] → W p l e ({ frames := 2, cells := 0, slots := 0, locals := 41 } : Room) s m args below meth c H locs 0 0 (MQ below (QI D cA bs (fun r u => u = (n, K, R, I, L) ∧ post r)) args s 0 0 (Ab bs)) (F0 m 160 ls [])) {v2 : Int32} {v3 : Int32} {v4 : Int32} {v5 : Int32} {v6 : Int32} {H : Heap} {locs : List Loc} {ls : Array Slot} (hw : w_X12_shodBy_42 I o a1 post k160 v2 v3 v4 v5 v6) (hM : mm D cA bs (n, K, R, I, L) H) (hS : va_S (Ab bs) s.heap H locs) (hl : lv_has ls 9 [(0, .ref (ad bs o)), (1, .int a1), (2, .int v2), (3, .int v3), (4, .int v4), (5, .int v5), (6, .int v6)]) : W p l e ({ frames := 2, cells := 0, slots := 0, locals := 41 } : Room) s m args below meth c H locs 0 0 (MQ below (QI D cA bs (fun r u => u = (n, K, R, I, L) ∧ post r)) args s 0 0 (Ab bs)) (F0 m 42 ls []) := by
  have hx := E.1.1
  have hb := E.1.2.1
  refine hw (fun v2 v3 v4 v5 v6 => ∀ (H : Heap) (locs : List Loc) (ls : Array Slot), mm D cA bs (n, K, R, I, L) H → va_S (Ab bs) s.heap H locs → lv_has ls 9 [(0, .ref (ad bs o)), (1, .int a1), (2, .int v2), (3, .int v3), (4, .int v4), (5, .int v5), (6, .int v6)] → W p l e ({ frames := 2, cells := 0, slots := 0, locals := 41 } : Room) s m args below meth c H locs 0 0 (MQ below (QI D cA bs (fun r u => u = (n, K, R, I, L) ∧ post r)) args s 0 0 (Ab bs)) (F0 m 42 ls [])) ?_ H locs ls hM hS hl
  clear hw hM hS hl
  intro v2 v3 v4 v5 v6 hw H locs ls hM hS hl
  refine lv_iload hx hb dX12_shodBy_42 (lv_at hl 6 rfl) ?_
  refine lv_aload_n hx hb dX12_shodBy_44 rfl (lv_at hl 0 rfl) ?_
  refine m_ci (m_runV E hM hS cs_X12_208 ho.1 (by decide) rfl rfl (c_X12_people ho hw) rfl rfl ⟨Nat.le_of_ble_eq_true rfl, Nat.le_of_ble_eq_true rfl⟩ rfl hl.1 rfl (Nat.le_of_ble_eq_true rfl) dX12_shodBy_45 ⟨Nat.le_of_ble_eq_true rfl, Nat.le_of_ble_eq_true rfl⟩) hS (fun r4 u H locs hp hM hS => ?_)
  obtain ⟨rfl, hw⟩ := hp
  refine lv_icmp_ge (tgt := 160) hx hb dX12_shodBy_48 (by decide) (fun cq => ?_) (fun cq => ?_)
  · have hw := hw.1 cq
    exact hk160 _ _ _ H locs ls  hw hM hS (lv_sub hl [0, 1, 2, 3, 4] rfl)
  · have hw := hw.2 cq
    refine lv_iload hx hb dX12_shodBy_51 (lv_at hl 4 rfl) ?_
    refine lv_if_eq (tgt := 160) hx hb dX12_shodBy_53 (by decide) (fun cq => ?_) (fun cq => ?_)
    · have hw := hw.1 cq
      exact hk160 _ _ _ H locs ls  hw hM hS (lv_sub hl [0, 1, 2, 3, 4] rfl)
    · have hw := hw.2 cq
      refine lv_iload_n hx hb dX12_shodBy_56 rfl (lv_at hl 3 rfl) ?_
      refine lv_iload hx hb dX12_shodBy_57 (lv_at hl 5 rfl) ?_
      obtain ⟨hd, hw⟩ := hw
      refine lv_idiv hx hb dX12_shodBy_59 hd ?_
      refine lv_bipush (v := 6) hx hb dX12_shodBy_60 (by decide) ?_
      refine lv_irem hx hb dX12_shodBy_62 (by decide) ?_
      refine lv_iload_n hx hb dX12_shodBy_63 rfl (lv_at hl 1 rfl) ?_
      refine lv_icmp_ge (tgt := 71) hx hb dX12_shodBy_64 (by decide) (fun cq => ?_) (fun cq => ?_)
      · have hw := hw.1 cq
        refine lv_iconst (v := 0) hx hb dX12_shodBy_71 (by decide) ?_
        refine lv_istore (lv' := [(4, .int 0), (0, .ref (ad bs o)), (1, .int a1), (2, .int v2), (3, .int v3), (5, .int v5), (6, .int v6)]) hx hb dX12_shodBy_72 hl (by decide) rfl (fun ls hl => ?_)
        refine lv_iload_n hx hb dX12_shodBy_74 rfl (lv_at hl 3 rfl) ?_
        refine lv_istore (lv' := [(7, .int v2), (4, .int 0), (0, .ref (ad bs o)), (1, .int a1), (2, .int v2), (3, .int v3), (5, .int v5), (6, .int v6)]) hx hb dX12_shodBy_75 hl (by decide) rfl (fun ls hl => ?_)
        refine lv_iconst (v := 0) hx hb dX12_shodBy_77 (by decide) ?_
        refine lv_istore (lv' := [(8, .int 0), (7, .int v2), (4, .int 0), (0, .ref (ad bs o)), (1, .int a1), (2, .int v2), (3, .int v3), (5, .int v5), (6, .int v6)]) hx hb dX12_shodBy_78 hl (by decide) rfl (fun ls hl => ?_)
        exact s_X12_shodBy_80 E hr hlk ho (fun v2 v3 v4 v5 v6 H locs ls  hw hM hS hl => hw H locs ls  hM hS hl)  hw hM hS (lv_sub hl [3, 4, 5, 6, 2, 7, 8, 1, 0] rfl)
      · have hw := hw.2 cq
        refine lv_iconst (v := 1) hx hb dX12_shodBy_67 (by decide) ?_
        refine lv_goto (tgt := 72) hx hb dX12_shodBy_68 (by decide) ?_
        refine lv_istore (lv' := [(4, .int 1), (0, .ref (ad bs o)), (1, .int a1), (2, .int v2), (3, .int v3), (5, .int v5), (6, .int v6)]) hx hb dX12_shodBy_72 hl (by decide) rfl (fun ls hl => ?_)
        refine lv_iload_n hx hb dX12_shodBy_74 rfl (lv_at hl 3 rfl) ?_
        refine lv_istore (lv' := [(7, .int v2), (4, .int 1), (0, .ref (ad bs o)), (1, .int a1), (2, .int v2), (3, .int v3), (5, .int v5), (6, .int v6)]) hx hb dX12_shodBy_75 hl (by decide) rfl (fun ls hl => ?_)
        refine lv_iconst (v := 0) hx hb dX12_shodBy_77 (by decide) ?_
        refine lv_istore (lv' := [(8, .int 0), (7, .int v2), (4, .int 1), (0, .ref (ad bs o)), (1, .int a1), (2, .int v2), (3, .int v3), (5, .int v5), (6, .int v6)]) hx hb dX12_shodBy_78 hl (by decide) rfl (fun ls hl => ?_)
        exact s_X12_shodBy_80 E hr hlk ho (fun v2 v3 v4 v5 v6 H locs ls  hw hM hS hl => hw H locs ls  hM hS hl)  hw hM hS (lv_sub hl [3, 4, 5, 6, 2, 7, 8, 1, 0] rfl)
def w_X12_shodBy_160 (I : mI) (o : Nat) (a1 : Int32) (post : Int32 → Prop) (k25 : Int32 → Int32 → Prop) (v2 : Int32) (v3 : Int32) (v4 : Int32) : Prop := (v4 = 0 → ∀ x13, x13 = v3 + 1 → k25 v2 x13) ∧ (¬ v4 = 0 → post v3)
set_option maxRecDepth 100000 in
set_option maxHeartbeats 4000000 in
theorem s_X12_shodBy_160 {p : Program} {l : Launch} {e : Env} {s : State} {m : MethodId} {args : Array Value} {below : List Frame} {meth : Method} {c : Code} {D : va_G} {cA : Nat → ClassId} {Z : mZ} {bs : Ad} {n : Nat} {K : mK} {R : mR} {I : mI} {L : mL} (E : Ev p s m args c cX12_shodBy 9 RX12 D cA Z bs) (hr : meth.sig.returnType = (some .int)) (hlk : meth.locks = false) {o : Nat} {a1 : Int32} (ho : isX12 K R o) {post : Int32 → Prop} {k25 : Int32 → Int32 → Prop} (hk25 : ∀ (v2 : Int32) (v3 : Int32) (H : Heap) (locs : List Loc) (ls : Array Slot), k25 v2 v3 → mm D cA bs (n, K, R, I, L) H → va_S (Ab bs) s.heap H locs → lv_has ls 9 [(0, .ref (ad bs o)), (1, .int a1), (2, .int v2), (3, .int v3)] → W p l e ({ frames := 2, cells := 0, slots := 0, locals := 41 } : Room) s m args below meth c H locs 0 0 (MQ below (QI D cA bs (fun r u => u = (n, K, R, I, L) ∧ post r)) args s 0 0 (Ab bs)) (F0 m 25 ls [])) {v2 : Int32} {v3 : Int32} {v4 : Int32} {H : Heap} {locs : List Loc} {ls : Array Slot} (hw : w_X12_shodBy_160 I o a1 post k25 v2 v3 v4) (hM : mm D cA bs (n, K, R, I, L) H) (hS : va_S (Ab bs) s.heap H locs) (hl : lv_has ls 9 [(0, .ref (ad bs o)), (1, .int a1), (2, .int v2), (3, .int v3), (4, .int v4)]) : W p l e ({ frames := 2, cells := 0, slots := 0, locals := 41 } : Room) s m args below meth c H locs 0 0 (MQ below (QI D cA bs (fun r u => u = (n, K, R, I, L) ∧ post r)) args s 0 0 (Ab bs)) (F0 m 160 ls []) := by
  have hx := E.1.1
  have hb := E.1.2.1
  refine lv_iload hx hb dX12_shodBy_160 (lv_at hl 4 rfl) ?_
  refine lv_if_eq (tgt := 167) hx hb dX12_shodBy_162 (by decide) (fun cq => ?_) (fun cq => ?_)
  · have hw := hw.1 cq
    obtain ⟨x13, ex13⟩ : ∃ y : Int32, y = v3 + 1 := ⟨_, rfl⟩
    have hw := hw x13 ex13
    refine lv_iinc (v := x13) (lv' := [(3, .int x13), (0, .ref (ad bs o)), (1, .int a1), (2, .int v2), (4, .int v4)]) hx hb dX12_shodBy_167 hl (k := 3) rfl (by rw [ex13]; rfl) (by decide) rfl (fun ls hl => ?_)
    refine lv_goto (tgt := 25) hx hb dX12_shodBy_170 (by decide) ?_
    exact hk25 _ _ H locs ls  hw hM hS (lv_sub hl [1, 2, 3, 0] rfl)
  · have hw := hw.2 cq
    refine lv_iload_n hx hb dX12_shodBy_165 rfl (lv_at hl 3 rfl) ?_
    exact m_reti hx hb hr hlk hM hS ⟨rfl, hw⟩ dX12_shodBy_166
def w_X12_shodBy_25 (I : mI) (o : Nat) (a1 : Int32) (post : Int32 → Prop) (v2 : Int32) (v3 : Int32) : Prop := ∀ ZZ : (Int32 → Int32 → Prop), (∀ (v2 : Int32) (v3 : Int32), (((6 * v2) ≤ v3 → post (-1)) ∧ (¬ (6 * v2) ≤ v3 → (w_X12_shodBy_42 I o a1 post (w_X12_shodBy_160 I o a1 post ZZ)) v2 v3 1 v2 0)) → ZZ v2 v3) → ZZ v2 v3
set_option maxRecDepth 100000 in
set_option maxHeartbeats 4000000 in
theorem s_X12_shodBy_25 {p : Program} {l : Launch} {e : Env} {s : State} {m : MethodId} {args : Array Value} {below : List Frame} {meth : Method} {c : Code} {D : va_G} {cA : Nat → ClassId} {Z : mZ} {bs : Ad} {n : Nat} {K : mK} {R : mR} {I : mI} {L : mL} (E : Ev p s m args c cX12_shodBy 9 RX12 D cA Z bs) (hr : meth.sig.returnType = (some .int)) (hlk : meth.locks = false) {o : Nat} {a1 : Int32} (ho : isX12 K R o) {post : Int32 → Prop} {v2 : Int32} {v3 : Int32} {H : Heap} {locs : List Loc} {ls : Array Slot} (hw : w_X12_shodBy_25 I o a1 post v2 v3) (hM : mm D cA bs (n, K, R, I, L) H) (hS : va_S (Ab bs) s.heap H locs) (hl : lv_has ls 9 [(0, .ref (ad bs o)), (1, .int a1), (2, .int v2), (3, .int v3)]) : W p l e ({ frames := 2, cells := 0, slots := 0, locals := 41 } : Room) s m args below meth c H locs 0 0 (MQ below (QI D cA bs (fun r u => u = (n, K, R, I, L) ∧ post r)) args s 0 0 (Ab bs)) (F0 m 25 ls []) := by
  have hx := E.1.1
  have hb := E.1.2.1
  refine hw (fun v2 v3 => ∀ (H : Heap) (locs : List Loc) (ls : Array Slot), mm D cA bs (n, K, R, I, L) H → va_S (Ab bs) s.heap H locs → lv_has ls 9 [(0, .ref (ad bs o)), (1, .int a1), (2, .int v2), (3, .int v3)] → W p l e ({ frames := 2, cells := 0, slots := 0, locals := 41 } : Room) s m args below meth c H locs 0 0 (MQ below (QI D cA bs (fun r u => u = (n, K, R, I, L) ∧ post r)) args s 0 0 (Ab bs)) (F0 m 25 ls [])) ?_ H locs ls hM hS hl
  clear hw hM hS hl
  intro v2 v3 hw H locs ls hM hS hl
  refine lv_iload_n hx hb dX12_shodBy_25 rfl (lv_at hl 3 rfl) ?_
  refine lv_bipush (v := 6) hx hb dX12_shodBy_26 (by decide) ?_
  refine lv_iload_n hx hb dX12_shodBy_28 rfl (lv_at hl 2 rfl) ?_
  refine lv_imul hx hb dX12_shodBy_29 ?_
  refine lv_icmp_ge (tgt := 173) hx hb dX12_shodBy_30 (by decide) (fun cq => ?_) (fun cq => ?_)
  · have hw := hw.1 cq
    refine lv_iconst (v := (-1)) hx hb dX12_shodBy_173 (by decide) ?_
    exact m_reti hx hb hr hlk hM hS ⟨rfl, hw⟩ dX12_shodBy_174
  · have hw := hw.2 cq
    refine lv_iconst (v := 1) hx hb dX12_shodBy_33 (by decide) ?_
    refine lv_istore (lv' := [(4, .int 1), (0, .ref (ad bs o)), (1, .int a1), (2, .int v2), (3, .int v3)]) hx hb dX12_shodBy_34 hl (by decide) rfl (fun ls hl => ?_)
    refine lv_iload_n hx hb dX12_shodBy_36 rfl (lv_at hl 3 rfl) ?_
    refine lv_istore (lv' := [(5, .int v2), (4, .int 1), (0, .ref (ad bs o)), (1, .int a1), (2, .int v2), (3, .int v3)]) hx hb dX12_shodBy_37 hl (by decide) rfl (fun ls hl => ?_)
    refine lv_iconst (v := 0) hx hb dX12_shodBy_39 (by decide) ?_
    refine lv_istore (lv' := [(6, .int 0), (5, .int v2), (4, .int 1), (0, .ref (ad bs o)), (1, .int a1), (2, .int v2), (3, .int v3)]) hx hb dX12_shodBy_40 hl (by decide) rfl (fun ls hl => ?_)
    exact s_X12_shodBy_42 E hr hlk ho (fun v2 v3 v4 H locs ls  hw hM hS hl => s_X12_shodBy_160 E hr hlk ho (fun v2 v3 H locs ls  hw hM hS hl => hw H locs ls  hM hS hl)  hw hM hS hl)  hw hM hS (lv_sub hl [3, 4, 5, 6, 2, 1, 0] rfl)
def w_X12_shodBy (I : mI) (o : Nat) (a1 : Int32) (post : Int32 → Prop) : Prop := (w_X12_shodBy_4 I o a1 post (w_X12_shodBy_25 I o a1 post)) 1 1
set_option maxRecDepth 100000 in
set_option maxHeartbeats 4000000 in
theorem c_X12_shodBy {l : Launch} {D : va_G} {cA : Nat → ClassId} {Z : mZ} {bs : Ad} {n : Nat} {K : mK} {R : mR} {I : mI} {L : mL} {o : Nat} {a1 : Int32} {post : Int32 → Prop} (ho : isX12 K R o) (hw : w_X12_shodBy I o a1 post) : Met l yX12_shodBy (.code yX12_shodBy cX12_shodBy 9 (some .int) :: gw) ({ frames := 2, cells := 0, slots := 0, locals := 41 } : Room) (PreM D cA Z bs (n, K, R, I, L) [.ref (ad bs o), .int a1]) (QI D cA bs (fun r u => u = (n, K, R, I, L) ∧ post r)) 0 0 (Ab bs) := by
  refine m_met (by decide) (Nat.le_of_ble_eq_true rfl) (fun p e s m below meth c ls E hr hlk hM hS hl => ?_)
  have E : Ev p s m _ c cX12_shodBy 9 RX12 D cA Z bs := E
  have hl : lv_has ls 9 [(0, .ref (ad bs o)), (1, .int a1)] := hl
  have hx := E.1.1
  have hb := E.1.2.1
  generalize hHe : s.heap = H at hM ⊢
  have hS : va_S (Ab bs) s.heap H [] := by rw [← hHe]; exact va_S.rf
  clear hHe
  refine lv_iconst (v := 1) hx hb dX12_shodBy_0 (by decide) ?_
  refine lv_istore_n (lv' := [(2, .int 1), (0, .ref (ad bs o)), (1, .int a1)]) hx hb dX12_shodBy_1 rfl hl (by decide) rfl (fun ls hl => ?_)
  refine lv_iconst (v := 1) hx hb dX12_shodBy_2 (by decide) ?_
  refine lv_istore_n (lv' := [(3, .int 1), (2, .int 1), (0, .ref (ad bs o)), (1, .int a1)]) hx hb dX12_shodBy_3 rfl hl (by decide) rfl (fun ls hl => ?_)
  exact s_X12_shodBy_4 E hr hlk ho (fun v2 v3 H locs ls  hw hM hS hl => s_X12_shodBy_25 E hr hlk ho  hw hM hS hl)  hw hM hS (lv_sub hl [2, 3, 1, 0] rfl)
theorem dX12_apart_0 : decode cX12_apart 0 = .ok (.aload_n 0, 1) := by decide +kernel
theorem dX12_apart_1 : decode cX12_apart 1 = .ok (.iload_n 1, 1) := by decide +kernel
theorem dX12_apart_2 : decode cX12_apart 2 = .ok (.invokevirtual 214, 3) := by decide +kernel
theorem dX12_apart_5 : decode cX12_apart 5 = .ok (.ifCond .eq 18, 3) := by decide +kernel
theorem dX12_apart_8 : decode cX12_apart 8 = .ok (.iload_n 2, 1) := by decide +kernel
theorem dX12_apart_9 : decode cX12_apart 9 = .ok (.ifCond .eq 16, 3) := by decide +kernel
theorem dX12_apart_12 : decode cX12_apart 12 = .ok (.aload_n 0, 1) := by decide +kernel
theorem dX12_apart_13 : decode cX12_apart 13 = .ok (.iload_n 2, 1) := by decide +kernel
theorem dX12_apart_14 : decode cX12_apart 14 = .ok (.bipush 10, 2) := by decide +kernel
theorem dX12_apart_16 : decode cX12_apart 16 = .ok (.isub, 1) := by decide +kernel
theorem dX12_apart_17 : decode cX12_apart 17 = .ok (.invokevirtual 303, 3) := by decide +kernel
theorem dX12_apart_20 : decode cX12_apart 20 = .ok (.ifCond .ne 5, 3) := by decide +kernel
theorem dX12_apart_23 : decode cX12_apart 23 = .ok (.iconst (-1), 1) := by decide +kernel
theorem dX12_apart_24 : decode cX12_apart 24 = .ok (.ireturn, 1) := by decide +kernel
theorem dX12_apart_25 : decode cX12_apart 25 = .ok (.aload_n 0, 1) := by decide +kernel
theorem dX12_apart_26 : decode cX12_apart 26 = .ok (.invokevirtual 208, 3) := by decide +kernel
theorem dX12_apart_29 : decode cX12_apart 29 = .ok (.ifCond .ne 5, 3) := by decide +kernel
theorem dX12_apart_32 : decode cX12_apart 32 = .ok (.iconst 0, 1) := by decide +kernel
theorem dX12_apart_33 : decode cX12_apart 33 = .ok (.ireturn, 1) := by decide +kernel
theorem dX12_apart_34 : decode cX12_apart 34 = .ok (.aload_n 0, 1) := by decide +kernel
theorem dX12_apart_35 : decode cX12_apart 35 = .ok (.invokevirtual 306, 3) := by decide +kernel
theorem dX12_apart_38 : decode cX12_apart 38 = .ok (.iconst 0, 1) := by decide +kernel
theorem dX12_apart_39 : decode cX12_apart 39 = .ok (.istore_n 3, 1) := by decide +kernel
theorem dX12_apart_40 : decode cX12_apart 40 = .ok (.iload_n 3, 1) := by decide +kernel
theorem dX12_apart_41 : decode cX12_apart 41 = .ok (.aload_n 0, 1) := by decide +kernel
theorem dX12_apart_42 : decode cX12_apart 42 = .ok (.invokevirtual 208, 3) := by decide +kernel
theorem dX12_apart_45 : decode cX12_apart 45 = .ok (.if_icmp .ge 20, 3) := by decide +kernel
theorem dX12_apart_48 : decode cX12_apart 48 = .ok (.aload_n 0, 1) := by decide +kernel
theorem dX12_apart_49 : decode cX12_apart 49 = .ok (.getfield 65, 3) := by decide +kernel
theorem dX12_apart_52 : decode cX12_apart 52 = .ok (.iload_n 3, 1) := by decide +kernel
theorem dX12_apart_53 : decode cX12_apart 53 = .ok (.aload_n 0, 1) := by decide +kernel
theorem dX12_apart_54 : decode cX12_apart 54 = .ok (.iload_n 3, 1) := by decide +kernel
theorem dX12_apart_55 : decode cX12_apart 55 = .ok (.invokevirtual 327, 3) := by decide +kernel
theorem dX12_apart_58 : decode cX12_apart 58 = .ok (.iastore, 1) := by decide +kernel
theorem dX12_apart_59 : decode cX12_apart 59 = .ok (.iinc 3 1, 3) := by decide +kernel
theorem dX12_apart_62 : decode cX12_apart 62 = .ok (.goto (-22), 3) := by decide +kernel
theorem dX12_apart_65 : decode cX12_apart 65 = .ok (.iconst 1, 1) := by decide +kernel
theorem dX12_apart_66 : decode cX12_apart 66 = .ok (.istore_n 3, 1) := by decide +kernel
theorem dX12_apart_67 : decode cX12_apart 67 = .ok (.aload_n 0, 1) := by decide +kernel
theorem dX12_apart_68 : decode cX12_apart 68 = .ok (.iload_n 3, 1) := by decide +kernel
theorem dX12_apart_69 : decode cX12_apart 69 = .ok (.invokevirtual 364, 3) := by decide +kernel
theorem dX12_apart_72 : decode cX12_apart 72 = .ok (.iconst (-1), 1) := by decide +kernel
theorem dX12_apart_73 : decode cX12_apart 73 = .ok (.if_icmp .ne 9, 3) := by decide +kernel
theorem dX12_apart_76 : decode cX12_apart 76 = .ok (.iinc 3 1, 3) := by decide +kernel
theorem dX12_apart_79 : decode cX12_apart 79 = .ok (.goto (-12), 3) := by decide +kernel
theorem dX12_apart_82 : decode cX12_apart 82 = .ok (.iload_n 2, 1) := by decide +kernel
theorem dX12_apart_83 : decode cX12_apart 83 = .ok (.ifCond .ne 5, 3) := by decide +kernel
theorem dX12_apart_86 : decode cX12_apart 86 = .ok (.iload_n 3, 1) := by decide +kernel
theorem dX12_apart_87 : decode cX12_apart 87 = .ok (.ireturn, 1) := by decide +kernel
theorem dX12_apart_88 : decode cX12_apart 88 = .ok (.aload_n 0, 1) := by decide +kernel
theorem dX12_apart_89 : decode cX12_apart 89 = .ok (.iload_n 3, 1) := by decide +kernel
theorem dX12_apart_90 : decode cX12_apart 90 = .ok (.invokevirtual 364, 3) := by decide +kernel
theorem dX12_apart_93 : decode cX12_apart 93 = .ok (.istore 4, 2) := by decide +kernel
theorem dX12_apart_95 : decode cX12_apart 95 = .ok (.aload_n 0, 1) := by decide +kernel
theorem dX12_apart_96 : decode cX12_apart 96 = .ok (.invokevirtual 208, 3) := by decide +kernel
theorem dX12_apart_99 : decode cX12_apart 99 = .ok (.iconst 1, 1) := by decide +kernel
theorem dX12_apart_100 : decode cX12_apart 100 = .ok (.isub, 1) := by decide +kernel
theorem dX12_apart_101 : decode cX12_apart 101 = .ok (.istore 5, 2) := by decide +kernel
theorem dX12_apart_103 : decode cX12_apart 103 = .ok (.iload 5, 2) := by decide +kernel
theorem dX12_apart_105 : decode cX12_apart 105 = .ok (.iload_n 2, 1) := by decide +kernel
theorem dX12_apart_106 : decode cX12_apart 106 = .ok (.bipush 10, 2) := by decide +kernel
theorem dX12_apart_108 : decode cX12_apart 108 = .ok (.isub, 1) := by decide +kernel
theorem dX12_apart_109 : decode cX12_apart 109 = .ok (.if_icmp .le 16, 3) := by decide +kernel
theorem dX12_apart_112 : decode cX12_apart 112 = .ok (.iload 4, 2) := by decide +kernel
theorem dX12_apart_114 : decode cX12_apart 114 = .ok (.bipush 6, 2) := by decide +kernel
theorem dX12_apart_116 : decode cX12_apart 116 = .ok (.idiv, 1) := by decide +kernel
theorem dX12_apart_117 : decode cX12_apart 117 = .ok (.istore 4, 2) := by decide +kernel
theorem dX12_apart_119 : decode cX12_apart 119 = .ok (.iinc 5 (-1), 3) := by decide +kernel
theorem dX12_apart_122 : decode cX12_apart 122 = .ok (.goto (-19), 3) := by decide +kernel
theorem dX12_apart_125 : decode cX12_apart 125 = .ok (.iload 4, 2) := by decide +kernel
theorem dX12_apart_127 : decode cX12_apart 127 = .ok (.bipush 6, 2) := by decide +kernel
theorem dX12_apart_129 : decode cX12_apart 129 = .ok (.irem, 1) := by decide +kernel
theorem dX12_apart_130 : decode cX12_apart 130 = .ok (.ireturn, 1) := by decide +kernel
def w_X12_apart_40 (o : Nat) (a1 : Int32) (a2 : Int32) (post : Int32 → mI → Prop) (k67 : mI → Int32 → Prop) (I : mI) (v3 : Int32) : Prop := ∀ ZZ : (mI → Int32 → Prop), (∀ (I : mI) (v3 : Int32), (w_X12_people I o (fun r6 => (r6 ≤ v3 → k67 I 1) ∧ (¬ r6 ≤ v3 → w_X12_heardOf I o v3 (fun r7 => vp_in v3 6 ∧ ∀ I8, I8 = up2 I (o + 19) v3.toNatClampNeg r7 → ∀ x9, x9 = v3 + 1 → ZZ I8 x9)))) → ZZ I v3) → ZZ I v3
set_option maxRecDepth 100000 in
set_option maxHeartbeats 4000000 in
theorem s_X12_apart_40 {p : Program} {l : Launch} {e : Env} {s : State} {m : MethodId} {args : Array Value} {below : List Frame} {meth : Method} {c : Code} {D : va_G} {cA : Nat → ClassId} {Z : mZ} {bs : Ad} {n : Nat} {K : mK} {R : mR} {L : mL} (E : Ev p s m args c cX12_apart 6 RX12 D cA Z bs) (hr : meth.sig.returnType = (some .int)) (hlk : meth.locks = false) {o : Nat} {a1 : Int32} {a2 : Int32} (ho : isX12 K R o) {post : Int32 → mI → Prop} {k67 : mI → Int32 → Prop} (hk67 : ∀ (I : mI) (v3 : Int32) (H : Heap) (locs : List Loc) (ls : Array Slot), k67 I v3 → mm D cA bs (n, K, R, I, L) H → va_S (Ab bs) s.heap H locs → lv_has ls 6 [(0, .ref (ad bs o)), (2, .int a2), (3, .int v3)] → W p l e ({ frames := 7, cells := 0, slots := 0, locals := 159 } : Room) s m args below meth c H locs 0 0 (MQ below (QI D cA bs (fun r u => ∃ I', u = (n, K, R, I', L) ∧ post r I')) args s 0 0 (Ab bs)) (F0 m 67 ls [])) {I : mI} {v3 : Int32} {H : Heap} {locs : List Loc} {ls : Array Slot} (hw : w_X12_apart_40 o a1 a2 post k67 I v3) (hM : mm D cA bs (n, K, R, I, L) H) (hS : va_S (Ab bs) s.heap H locs) (hl : lv_has ls 6 [(0, .ref (ad bs o)), (2, .int a2), (3, .int v3)]) : W p l e ({ frames := 7, cells := 0, slots := 0, locals := 159 } : Room) s m args below meth c H locs 0 0 (MQ below (QI D cA bs (fun r u => ∃ I', u = (n, K, R, I', L) ∧ post r I')) args s 0 0 (Ab bs)) (F0 m 40 ls []) := by
  have hx := E.1.1
  have hb := E.1.2.1
  refine hw (fun I v3 => ∀ (H : Heap) (locs : List Loc) (ls : Array Slot), mm D cA bs (n, K, R, I, L) H → va_S (Ab bs) s.heap H locs → lv_has ls 6 [(0, .ref (ad bs o)), (2, .int a2), (3, .int v3)] → W p l e ({ frames := 7, cells := 0, slots := 0, locals := 159 } : Room) s m args below meth c H locs 0 0 (MQ below (QI D cA bs (fun r u => ∃ I', u = (n, K, R, I', L) ∧ post r I')) args s 0 0 (Ab bs)) (F0 m 40 ls [])) ?_ H locs ls hM hS hl
  clear hw hM hS hl
  intro I v3 hw H locs ls hM hS hl
  refine lv_iload_n hx hb dX12_apart_40 rfl (lv_at hl 2 rfl) ?_
  refine lv_aload_n hx hb dX12_apart_41 rfl (lv_at hl 0 rfl) ?_
  refine m_ci (m_runV E hM hS cs_X12_208 ho.1 (by decide) rfl rfl (c_X12_people ho hw) rfl rfl ⟨Nat.le_of_ble_eq_true rfl, Nat.le_of_ble_eq_true rfl⟩ rfl hl.1 rfl (Nat.le_of_ble_eq_true rfl) dX12_apart_42 ⟨Nat.le_of_ble_eq_true rfl, Nat.le_of_ble_eq_true rfl⟩) hS (fun r6 u H locs hp hM hS => ?_)
  obtain ⟨rfl, hw⟩ := hp
  refine lv_icmp_ge (tgt := 65) hx hb dX12_apart_45 (by decide) (fun cq => ?_) (fun cq => ?_)
  · have hw := hw.1 cq
    refine lv_iconst (v := 1) hx hb dX12_apart_65 (by decide) ?_
    refine lv_istore_n (lv' := [(3, .int 1), (0, .ref (ad bs o)), (2, .int a2)]) hx hb dX12_apart_66 rfl hl (by decide) rfl (fun ls hl => ?_)
    exact hk67 _ _ H locs ls  hw hM hS (lv_sub hl [1, 2, 0] rfl)
  · have hw := hw.2 cq
    refine lv_aload_n hx hb dX12_apart_48 rfl (lv_at hl 0 rfl) ?_
    refine m_getr E hM fs_X12_65 ho.1 (isO_at ho 18 rfl).1 dX12_apart_49 ?_
    refine lv_iload_n hx hb dX12_apart_52 rfl (lv_at hl 2 rfl) ?_
    refine lv_aload_n hx hb dX12_apart_53 rfl (lv_at hl 0 rfl) ?_
    refine lv_iload_n hx hb dX12_apart_54 rfl (lv_at hl 2 rfl) ?_
    refine m_ci (m_runV E hM hS cs_X12_327 ho.1 (by decide) rfl rfl (c_X12_heardOf ho hw) rfl rfl ⟨Nat.le_of_ble_eq_true rfl, Nat.le_of_ble_eq_true rfl⟩ rfl hl.1 rfl (Nat.le_of_ble_eq_true rfl) dX12_apart_55 ⟨Nat.le_of_ble_eq_true rfl, Nat.le_of_ble_eq_true rfl⟩) hS (fun r7 u H locs hp hM hS => ?_)
    obtain ⟨rfl, hw⟩ := hp
    obtain ⟨hv, hw⟩ := hw
    refine m_iast E hM hS (isO_at ho 18 rfl).2 hv dX12_apart_58 (fun I8 H locs eI8 hM hS => ?_)
    have hw := hw I8 eI8
    obtain ⟨x9, ex9⟩ : ∃ y : Int32, y = v3 + 1 := ⟨_, rfl⟩
    have hw := hw x9 ex9
    refine lv_iinc (v := x9) (lv' := [(3, .int x9), (0, .ref (ad bs o)), (2, .int a2)]) hx hb dX12_apart_59 hl (k := 2) rfl (by rw [ex9]; rfl) (by decide) rfl (fun ls hl => ?_)
    refine lv_goto (tgt := 40) hx hb dX12_apart_62 (by decide) ?_
    exact hw H locs ls  hM hS (lv_sub hl [1, 2, 0] rfl)
def w_X12_apart_67 (o : Nat) (a1 : Int32) (a2 : Int32) (post : Int32 → mI → Prop) (k82 : mI → Int32 → Prop) (I : mI) (v3 : Int32) : Prop := ∀ ZZ : (mI → Int32 → Prop), (∀ (I : mI) (v3 : Int32), (w_X12_shodBy I o v3 (fun r10 => (¬ r10 = (-1) → k82 I v3) ∧ (r10 = (-1) → ∀ x11, x11 = v3 + 1 → ZZ I x11))) → ZZ I v3) → ZZ I v3
set_option maxRecDepth 100000 in
set_option maxHeartbeats 4000000 in
theorem s_X12_apart_67 {p : Program} {l : Launch} {e : Env} {s : State} {m : MethodId} {args : Array Value} {below : List Frame} {meth : Method} {c : Code} {D : va_G} {cA : Nat → ClassId} {Z : mZ} {bs : Ad} {n : Nat} {K : mK} {R : mR} {L : mL} (E : Ev p s m args c cX12_apart 6 RX12 D cA Z bs) (hr : meth.sig.returnType = (some .int)) (hlk : meth.locks = false) {o : Nat} {a1 : Int32} {a2 : Int32} (ho : isX12 K R o) {post : Int32 → mI → Prop} {k82 : mI → Int32 → Prop} (hk82 : ∀ (I : mI) (v3 : Int32) (H : Heap) (locs : List Loc) (ls : Array Slot), k82 I v3 → mm D cA bs (n, K, R, I, L) H → va_S (Ab bs) s.heap H locs → lv_has ls 6 [(0, .ref (ad bs o)), (2, .int a2), (3, .int v3)] → W p l e ({ frames := 7, cells := 0, slots := 0, locals := 159 } : Room) s m args below meth c H locs 0 0 (MQ below (QI D cA bs (fun r u => ∃ I', u = (n, K, R, I', L) ∧ post r I')) args s 0 0 (Ab bs)) (F0 m 82 ls [])) {I : mI} {v3 : Int32} {H : Heap} {locs : List Loc} {ls : Array Slot} (hw : w_X12_apart_67 o a1 a2 post k82 I v3) (hM : mm D cA bs (n, K, R, I, L) H) (hS : va_S (Ab bs) s.heap H locs) (hl : lv_has ls 6 [(0, .ref (ad bs o)), (2, .int a2), (3, .int v3)]) : W p l e ({ frames := 7, cells := 0, slots := 0, locals := 159 } : Room) s m args below meth c H locs 0 0 (MQ below (QI D cA bs (fun r u => ∃ I', u = (n, K, R, I', L) ∧ post r I')) args s 0 0 (Ab bs)) (F0 m 67 ls []) := by
  have hx := E.1.1
  have hb := E.1.2.1
  refine hw (fun I v3 => ∀ (H : Heap) (locs : List Loc) (ls : Array Slot), mm D cA bs (n, K, R, I, L) H → va_S (Ab bs) s.heap H locs → lv_has ls 6 [(0, .ref (ad bs o)), (2, .int a2), (3, .int v3)] → W p l e ({ frames := 7, cells := 0, slots := 0, locals := 159 } : Room) s m args below meth c H locs 0 0 (MQ below (QI D cA bs (fun r u => ∃ I', u = (n, K, R, I', L) ∧ post r I')) args s 0 0 (Ab bs)) (F0 m 67 ls [])) ?_ H locs ls hM hS hl
  clear hw hM hS hl
  intro I v3 hw H locs ls hM hS hl
  refine lv_aload_n hx hb dX12_apart_67 rfl (lv_at hl 0 rfl) ?_
  refine lv_iload_n hx hb dX12_apart_68 rfl (lv_at hl 2 rfl) ?_
  refine m_ci (m_runV E hM hS cs_X12_364 ho.1 (by decide) rfl rfl (c_X12_shodBy ho hw) rfl rfl ⟨Nat.le_of_ble_eq_true rfl, Nat.le_of_ble_eq_true rfl⟩ rfl hl.1 rfl (Nat.le_of_ble_eq_true rfl) dX12_apart_69 ⟨Nat.le_of_ble_eq_true rfl, Nat.le_of_ble_eq_true rfl⟩) hS (fun r10 u H locs hp hM hS => ?_)
  obtain ⟨rfl, hw⟩ := hp
  refine lv_iconst (v := (-1)) hx hb dX12_apart_72 (by decide) ?_
  refine lv_icmp_ne (tgt := 82) hx hb dX12_apart_73 (by decide) (fun cq => ?_) (fun cq => ?_)
  · have hw := hw.1 cq
    exact hk82 _ _ H locs ls  hw hM hS (lv_sub hl [0, 1, 2] rfl)
  · have hw := hw.2 cq
    obtain ⟨x11, ex11⟩ : ∃ y : Int32, y = v3 + 1 := ⟨_, rfl⟩
    have hw := hw x11 ex11
    refine lv_iinc (v := x11) (lv' := [(3, .int x11), (0, .ref (ad bs o)), (2, .int a2)]) hx hb dX12_apart_76 hl (k := 2) rfl (by rw [ex11]; rfl) (by decide) rfl (fun ls hl => ?_)
    refine lv_goto (tgt := 67) hx hb dX12_apart_79 (by decide) ?_
    exact hw H locs ls  hM hS (lv_sub hl [1, 2, 0] rfl)
def w_X12_apart_103 (o : Nat) (a1 : Int32) (a2 : Int32) (post : Int32 → mI → Prop) (I : mI) (v4 : Int32) (v5 : Int32) : Prop := ∀ ZZ : (mI → Int32 → Int32 → Prop), (∀ (I : mI) (v4 : Int32) (v5 : Int32), ((v5 ≤ (a2 - 10) → post (irem v4 6) I) ∧ (¬ v5 ≤ (a2 - 10) → ∀ x15, x15 = (v4 / 6) → ∀ x16, x16 = v5 + (-1) → ZZ I x15 x16)) → ZZ I v4 v5) → ZZ I v4 v5
set_option maxRecDepth 100000 in
set_option maxHeartbeats 4000000 in
theorem s_X12_apart_103 {p : Program} {l : Launch} {e : Env} {s : State} {m : MethodId} {args : Array Value} {below : List Frame} {meth : Method} {c : Code} {D : va_G} {cA : Nat → ClassId} {Z : mZ} {bs : Ad} {n : Nat} {K : mK} {R : mR} {L : mL} (E : Ev p s m args c cX12_apart 6 RX12 D cA Z bs) (hr : meth.sig.returnType = (some .int)) (hlk : meth.locks = false) {o : Nat} {a1 : Int32} {a2 : Int32} (ho : isX12 K R o) {post : Int32 → mI → Prop} {I : mI} {v4 : Int32} {v5 : Int32} {H : Heap} {locs : List Loc} {ls : Array Slot} (hw : w_X12_apart_103 o a1 a2 post I v4 v5) (hM : mm D cA bs (n, K, R, I, L) H) (hS : va_S (Ab bs) s.heap H locs) (hl : lv_has ls 6 [(2, .int a2), (4, .int v4), (5, .int v5)]) : W p l e ({ frames := 7, cells := 0, slots := 0, locals := 159 } : Room) s m args below meth c H locs 0 0 (MQ below (QI D cA bs (fun r u => ∃ I', u = (n, K, R, I', L) ∧ post r I')) args s 0 0 (Ab bs)) (F0 m 103 ls []) := by
  have hx := E.1.1
  have hb := E.1.2.1
  refine hw (fun I v4 v5 => ∀ (H : Heap) (locs : List Loc) (ls : Array Slot), mm D cA bs (n, K, R, I, L) H → va_S (Ab bs) s.heap H locs → lv_has ls 6 [(2, .int a2), (4, .int v4), (5, .int v5)] → W p l e ({ frames := 7, cells := 0, slots := 0, locals := 159 } : Room) s m args below meth c H locs 0 0 (MQ below (QI D cA bs (fun r u => ∃ I', u = (n, K, R, I', L) ∧ post r I')) args s 0 0 (Ab bs)) (F0 m 103 ls [])) ?_ H locs ls hM hS hl
  clear hw hM hS hl
  intro I v4 v5 hw H locs ls hM hS hl
  refine lv_iload hx hb dX12_apart_103 (lv_at hl 2 rfl) ?_
  refine lv_iload_n hx hb dX12_apart_105 rfl (lv_at hl 0 rfl) ?_
  refine lv_bipush (v := 10) hx hb dX12_apart_106 (by decide) ?_
  refine lv_isub hx hb dX12_apart_108 ?_
  refine lv_icmp_le (tgt := 125) hx hb dX12_apart_109 (by decide) (fun cq => ?_) (fun cq => ?_)
  · have hw := hw.1 cq
    refine lv_iload hx hb dX12_apart_125 (lv_at hl 1 rfl) ?_
    refine lv_bipush (v := 6) hx hb dX12_apart_127 (by decide) ?_
    refine lv_irem hx hb dX12_apart_129 (by decide) ?_
    exact m_reti hx hb hr hlk hM hS ⟨_, rfl, hw⟩ dX12_apart_130
  · have hw := hw.2 cq
    refine lv_iload hx hb dX12_apart_112 (lv_at hl 1 rfl) ?_
    refine lv_bipush (v := 6) hx hb dX12_apart_114 (by decide) ?_
    refine lv_idiv hx hb dX12_apart_116 (by decide) ?_
    refine lv_topi (fun x15 ex15 => ?_)
    have hw := hw x15 ex15
    refine lv_istore (lv' := [(4, .int x15), (2, .int a2), (5, .int v5)]) hx hb dX12_apart_117 hl (by decide) rfl (fun ls hl => ?_)
    obtain ⟨x16, ex16⟩ : ∃ y : Int32, y = v5 + (-1) := ⟨_, rfl⟩
    have hw := hw x16 ex16
    refine lv_iinc (v := x16) (lv' := [(5, .int x16), (4, .int x15), (2, .int a2)]) hx hb dX12_apart_119 hl (k := 2) rfl (by rw [ex16]; rfl) (by decide) rfl (fun ls hl => ?_)
    refine lv_goto (tgt := 103) hx hb dX12_apart_122 (by decide) ?_
    exact hw H locs ls  hM hS (lv_sub hl [2, 1, 0] rfl)
def w_X12_apart_82 (o : Nat) (a1 : Int32) (a2 : Int32) (post : Int32 → mI → Prop) (I : mI) (v3 : Int32) : Prop := (¬ a2 = 0 → w_X12_shodBy I o v3 (fun r12 => w_X12_people I o (fun r13 => ∀ x14, x14 = (r13 - 1) → (w_X12_apart_103 o a1 a2 post) I r12 x14))) ∧ (a2 = 0 → post v3 I)
set_option maxRecDepth 100000 in
set_option maxHeartbeats 4000000 in
theorem s_X12_apart_82 {p : Program} {l : Launch} {e : Env} {s : State} {m : MethodId} {args : Array Value} {below : List Frame} {meth : Method} {c : Code} {D : va_G} {cA : Nat → ClassId} {Z : mZ} {bs : Ad} {n : Nat} {K : mK} {R : mR} {L : mL} (E : Ev p s m args c cX12_apart 6 RX12 D cA Z bs) (hr : meth.sig.returnType = (some .int)) (hlk : meth.locks = false) {o : Nat} {a1 : Int32} {a2 : Int32} (ho : isX12 K R o) {post : Int32 → mI → Prop} {I : mI} {v3 : Int32} {H : Heap} {locs : List Loc} {ls : Array Slot} (hw : w_X12_apart_82 o a1 a2 post I v3) (hM : mm D cA bs (n, K, R, I, L) H) (hS : va_S (Ab bs) s.heap H locs) (hl : lv_has ls 6 [(0, .ref (ad bs o)), (2, .int a2), (3, .int v3)]) : W p l e ({ frames := 7, cells := 0, slots := 0, locals := 159 } : Room) s m args below meth c H locs 0 0 (MQ below (QI D cA bs (fun r u => ∃ I', u = (n, K, R, I', L) ∧ post r I')) args s 0 0 (Ab bs)) (F0 m 82 ls []) := by
  have hx := E.1.1
  have hb := E.1.2.1
  refine lv_iload_n hx hb dX12_apart_82 rfl (lv_at hl 1 rfl) ?_
  refine lv_if_ne (tgt := 88) hx hb dX12_apart_83 (by decide) (fun cq => ?_) (fun cq => ?_)
  · have hw := hw.1 cq
    refine lv_aload_n hx hb dX12_apart_88 rfl (lv_at hl 0 rfl) ?_
    refine lv_iload_n hx hb dX12_apart_89 rfl (lv_at hl 2 rfl) ?_
    refine m_ci (m_runV E hM hS cs_X12_364 ho.1 (by decide) rfl rfl (c_X12_shodBy ho hw) rfl rfl ⟨Nat.le_of_ble_eq_true rfl, Nat.le_of_ble_eq_true rfl⟩ rfl hl.1 rfl (Nat.le_of_ble_eq_true rfl) dX12_apart_90 ⟨Nat.le_of_ble_eq_true rfl, Nat.le_of_ble_eq_true rfl⟩) hS (fun r12 u H locs hp hM hS => ?_)
    obtain ⟨rfl, hw⟩ := hp
    refine lv_istore (lv' := [(4, .int r12), (0, .ref (ad bs o)), (2, .int a2), (3, .int v3)]) hx hb dX12_apart_93 hl (by decide) rfl (fun ls hl => ?_)
    refine lv_aload_n hx hb dX12_apart_95 rfl (lv_at hl 1 rfl) ?_
    refine m_ci (m_runV E hM hS cs_X12_208 ho.1 (by decide) rfl rfl (c_X12_people ho hw) rfl rfl ⟨Nat.le_of_ble_eq_true rfl, Nat.le_of_ble_eq_true rfl⟩ rfl hl.1 rfl (Nat.le_of_ble_eq_true rfl) dX12_apart_96 ⟨Nat.le_of_ble_eq_true rfl, Nat.le_of_ble_eq_true rfl⟩) hS (fun r13 u H locs hp hM hS => ?_)
    obtain ⟨rfl, hw⟩ := hp
    refine lv_iconst (v := 1) hx hb dX12_apart_99 (by decide) ?_
    refine lv_isub hx hb dX12_apart_100 ?_
    refine lv_topi (fun x14 ex14 => ?_)
    have hw := hw x14 ex14
    refine lv_istore (lv' := [(5, .int x14), (4, .int r12), (0, .ref (ad bs o)), (2, .int a2), (3, .int v3)]) hx hb dX12_apart_101 hl (by decide) rfl (fun ls hl => ?_)
    exact s_X12_apart_103 E hr hlk ho  hw hM hS (lv_sub hl [3, 1, 0] rfl)
  · have hw := hw.2 cq
    refine lv_iload_n hx hb dX12_apart_86 rfl (lv_at hl 2 rfl) ?_
    exact m_reti hx hb hr hlk hM hS ⟨_, rfl, hw⟩ dX12_apart_87
def w_X12_apart_25 (o : Nat) (a1 : Int32) (a2 : Int32) (post : Int32 → mI → Prop) (I : mI) : Prop := w_X12_people I o (fun r4 => (¬ r4 = 0 → w_X12_runs I o (fun I5 => (w_X12_apart_40 o a1 a2 post (w_X12_apart_67 o a1 a2 post (w_X12_apart_82 o a1 a2 post))) I5 0)) ∧ (r4 = 0 → post 0 I))
set_option maxRecDepth 100000 in
set_option maxHeartbeats 4000000 in
theorem s_X12_apart_25 {p : Program} {l : Launch} {e : Env} {s : State} {m : MethodId} {args : Array Value} {below : List Frame} {meth : Method} {c : Code} {D : va_G} {cA : Nat → ClassId} {Z : mZ} {bs : Ad} {n : Nat} {K : mK} {R : mR} {L : mL} (E : Ev p s m args c cX12_apart 6 RX12 D cA Z bs) (hr : meth.sig.returnType = (some .int)) (hlk : meth.locks = false) {o : Nat} {a1 : Int32} {a2 : Int32} (ho : isX12 K R o) {post : Int32 → mI → Prop} {I : mI} {H : Heap} {locs : List Loc} {ls : Array Slot} (hw : w_X12_apart_25 o a1 a2 post I) (hM : mm D cA bs (n, K, R, I, L) H) (hS : va_S (Ab bs) s.heap H locs) (hl : lv_has ls 6 [(0, .ref (ad bs o)), (2, .int a2)]) : W p l e ({ frames := 7, cells := 0, slots := 0, locals := 159 } : Room) s m args below meth c H locs 0 0 (MQ below (QI D cA bs (fun r u => ∃ I', u = (n, K, R, I', L) ∧ post r I')) args s 0 0 (Ab bs)) (F0 m 25 ls []) := by
  have hx := E.1.1
  have hb := E.1.2.1
  refine lv_aload_n hx hb dX12_apart_25 rfl (lv_at hl 0 rfl) ?_
  refine m_ci (m_runV E hM hS cs_X12_208 ho.1 (by decide) rfl rfl (c_X12_people ho hw) rfl rfl ⟨Nat.le_of_ble_eq_true rfl, Nat.le_of_ble_eq_true rfl⟩ rfl hl.1 rfl (Nat.le_of_ble_eq_true rfl) dX12_apart_26 ⟨Nat.le_of_ble_eq_true rfl, Nat.le_of_ble_eq_true rfl⟩) hS (fun r4 u H locs hp hM hS => ?_)
  obtain ⟨rfl, hw⟩ := hp
  refine lv_if_ne (tgt := 34) hx hb dX12_apart_29 (by decide) (fun cq => ?_) (fun cq => ?_)
  · have hw := hw.1 cq
    refine lv_aload_n hx hb dX12_apart_34 rfl (lv_at hl 0 rfl) ?_
    refine m_cv (m_runV E hM hS cs_X12_306 ho.1 (by decide) rfl rfl (c_X12_runs ho hw) rfl rfl ⟨Nat.le_of_ble_eq_true rfl, Nat.le_of_ble_eq_true rfl⟩ rfl hl.1 rfl (Nat.le_of_ble_eq_true rfl) dX12_apart_35 ⟨Nat.le_of_ble_eq_true rfl, Nat.le_of_ble_eq_true rfl⟩) hS (fun u H locs hp hM hS => ?_)
    obtain ⟨I5, rfl, hw⟩ := hp
    refine lv_iconst (v := 0) hx hb dX12_apart_38 (by decide) ?_
    refine lv_istore_n (lv' := [(3, .int 0), (0, .ref (ad bs o)), (2, .int a2)]) hx hb dX12_apart_39 rfl hl (by decide) rfl (fun ls hl => ?_)
    exact s_X12_apart_40 E hr hlk ho (fun I v3 H locs ls  hw hM hS hl => s_X12_apart_67 E hr hlk ho (fun I v3 H locs ls  hw hM hS hl => s_X12_apart_82 E hr hlk ho  hw hM hS hl)  hw hM hS hl)  hw hM hS (lv_sub hl [1, 2, 0] rfl)
  · have hw := hw.2 cq
    refine lv_iconst (v := 0) hx hb dX12_apart_32 (by decide) ?_
    exact m_reti hx hb hr hlk hM hS ⟨_, rfl, hw⟩ dX12_apart_33
def w_X12_apart (I : mI) (o : Nat) (a1 : Int32) (a2 : Int32) (post : Int32 → mI → Prop) : Prop := w_X12_isHouse I o a1 (fun b1 I2 => (b1 = false → post (-1) I2) ∧ (b1 = true → (a2 = 0 → (w_X12_apart_25 o a1 a2 post) I2) ∧ (¬ a2 = 0 → w_X12_isPerson I2 o (a2 - 10) (fun b3 => (b3 = true → (w_X12_apart_25 o a1 a2 post) I2) ∧ (b3 = false → post (-1) I2)))))
set_option maxRecDepth 100000 in
set_option maxHeartbeats 4000000 in
theorem c_X12_apart {l : Launch} {D : va_G} {cA : Nat → ClassId} {Z : mZ} {bs : Ad} {n : Nat} {K : mK} {R : mR} {I : mI} {L : mL} {o : Nat} {a1 : Int32} {a2 : Int32} {post : Int32 → mI → Prop} (ho : isX12 K R o) (hw : w_X12_apart I o a1 a2 post) : Met l yX12_apart (.code yX12_apart cX12_apart 6 (some .int) :: gw) ({ frames := 7, cells := 0, slots := 0, locals := 159 } : Room) (PreM D cA Z bs (n, K, R, I, L) [.ref (ad bs o), .int a1, .int a2]) (QI D cA bs (fun r u => ∃ I', u = (n, K, R, I', L) ∧ post r I')) 0 0 (Ab bs) := by
  refine m_met (by decide) (Nat.le_of_ble_eq_true rfl) (fun p e s m below meth c ls E hr hlk hM hS hl => ?_)
  have E : Ev p s m _ c cX12_apart 6 RX12 D cA Z bs := E
  have hl : lv_has ls 6 [(0, .ref (ad bs o)), (1, .int a1), (2, .int a2)] := hl
  have hx := E.1.1
  have hb := E.1.2.1
  generalize hHe : s.heap = H at hM ⊢
  have hS : va_S (Ab bs) s.heap H [] := by rw [← hHe]; exact va_S.rf
  clear hHe
  refine lv_aload_n hx hb dX12_apart_0 rfl (lv_at hl 0 rfl) ?_
  refine lv_iload_n hx hb dX12_apart_1 rfl (lv_at hl 1 rfl) ?_
  refine m_ci (m_runV E hM hS cs_X12_214 ho.1 (by decide) rfl rfl (c_X12_isHouse ho hw) rfl rfl ⟨Nat.le_of_ble_eq_true rfl, Nat.le_of_ble_eq_true rfl⟩ rfl hl.1 rfl (Nat.le_of_ble_eq_true rfl) dX12_apart_2 ⟨Nat.le_of_ble_eq_true rfl, Nat.le_of_ble_eq_true rfl⟩) hS (fun r9 u H locs hp hM hS => ?_)
  obtain ⟨b1, rfl, I2, rfl, hw⟩ := hp
  refine lv_if_eq (tgt := 23) hx hb dX12_apart_5 (by decide) (fun cq => ?_) (fun cq => ?_)
  · have hw := hw.1 (bI_f cq)
    refine lv_iconst (v := (-1)) hx hb dX12_apart_23 (by decide) ?_
    exact m_reti hx hb hr hlk hM hS ⟨_, rfl, hw⟩ dX12_apart_24
  · have hw := hw.2 (bI_t cq)
    refine lv_iload_n hx hb dX12_apart_8 rfl (lv_at hl 2 rfl) ?_
    refine lv_if_eq (tgt := 25) hx hb dX12_apart_9 (by decide) (fun cq => ?_) (fun cq => ?_)
    · have hw := hw.1 cq
      exact s_X12_apart_25 E hr hlk ho  hw hM hS (lv_sub hl [0, 2] rfl)
    · have hw := hw.2 cq
      refine lv_aload_n hx hb dX12_apart_12 rfl (lv_at hl 0 rfl) ?_
      refine lv_iload_n hx hb dX12_apart_13 rfl (lv_at hl 2 rfl) ?_
      refine lv_bipush (v := 10) hx hb dX12_apart_14 (by decide) ?_
      refine lv_isub hx hb dX12_apart_16 ?_
      refine m_ci (m_runV E hM hS cs_X12_303 ho.1 (by decide) rfl rfl (c_X12_isPerson ho hw) rfl rfl ⟨Nat.le_of_ble_eq_true rfl, Nat.le_of_ble_eq_true rfl⟩ rfl hl.1 rfl (Nat.le_of_ble_eq_true rfl) dX12_apart_17 ⟨Nat.le_of_ble_eq_true rfl, Nat.le_of_ble_eq_true rfl⟩) hS (fun r9 u H locs hp hM hS => ?_)
      obtain ⟨b3, rfl, rfl, hw⟩ := hp
      refine lv_if_ne (tgt := 25) hx hb dX12_apart_20 (by decide) (fun cq => ?_) (fun cq => ?_)
      · have hw := hw.1 (bI_t cq)
        exact s_X12_apart_25 E hr hlk ho  hw hM hS (lv_sub hl [0, 2] rfl)
      · have hw := hw.2 (bI_f cq)
        refine lv_iconst (v := (-1)) hx hb dX12_apart_23 (by decide) ?_
        exact m_reti hx hb hr hlk hM hS ⟨_, rfl, hw⟩ dX12_apart_24
theorem dX12_worthOf_0 : decode cX12_worthOf 0 = .ok (.aload_n 0, 1) := by decide +kernel
theorem dX12_worthOf_1 : decode cX12_worthOf 1 = .ok (.invokevirtual 306, 3) := by decide +kernel
theorem dX12_worthOf_4 : decode cX12_worthOf 4 = .ok (.aload_n 0, 1) := by decide +kernel
theorem dX12_worthOf_5 : decode cX12_worthOf 5 = .ok (.invokevirtual 367, 3) := by decide +kernel
theorem dX12_worthOf_8 : decode cX12_worthOf 8 = .ok (.istore_n 3, 1) := by decide +kernel
theorem dX12_worthOf_9 : decode cX12_worthOf 9 = .ok (.aload_n 0, 1) := by decide +kernel
theorem dX12_worthOf_10 : decode cX12_worthOf 10 = .ok (.iload_n 1, 1) := by decide +kernel
theorem dX12_worthOf_11 : decode cX12_worthOf 11 = .ok (.putfield 229, 3) := by decide +kernel
theorem dX12_worthOf_14 : decode cX12_worthOf 14 = .ok (.aload_n 0, 1) := by decide +kernel
theorem dX12_worthOf_15 : decode cX12_worthOf 15 = .ok (.iload_n 2, 1) := by decide +kernel
theorem dX12_worthOf_16 : decode cX12_worthOf 16 = .ok (.putfield 244, 3) := by decide +kernel
theorem dX12_worthOf_19 : decode cX12_worthOf 19 = .ok (.aload_n 0, 1) := by decide +kernel
theorem dX12_worthOf_20 : decode cX12_worthOf 20 = .ok (.invokevirtual 306, 3) := by decide +kernel
theorem dX12_worthOf_23 : decode cX12_worthOf 23 = .ok (.aload_n 0, 1) := by decide +kernel
theorem dX12_worthOf_24 : decode cX12_worthOf 24 = .ok (.iconst (-1), 1) := by decide +kernel
theorem dX12_worthOf_25 : decode cX12_worthOf 25 = .ok (.putfield 229, 3) := by decide +kernel
theorem dX12_worthOf_28 : decode cX12_worthOf 28 = .ok (.iload_n 3, 1) := by decide +kernel
theorem dX12_worthOf_29 : decode cX12_worthOf 29 = .ok (.aload_n 0, 1) := by decide +kernel
theorem dX12_worthOf_30 : decode cX12_worthOf 30 = .ok (.invokevirtual 367, 3) := by decide +kernel
theorem dX12_worthOf_33 : decode cX12_worthOf 33 = .ok (.isub, 1) := by decide +kernel
theorem dX12_worthOf_34 : decode cX12_worthOf 34 = .ok (.ireturn, 1) := by decide +kernel
def w_X12_worthOf (I : mI) (o : Nat) (a1 : Int32) (a2 : Int32) (post : Int32 → mI → Prop) : Prop := w_X12_runs I o (fun I1 => w_X12_allNotes I1 o (fun r2 => ∀ I3, I3 = up2 I1 o 18 a1 → ∀ I4, I4 = up2 I3 o 19 a2 → w_X12_runs I4 o (fun I5 => ∀ I6, I6 = up2 I5 o 18 (-1) → w_X12_allNotes I6 o (fun r7 => post (r2 - r7) I6))))
set_option maxRecDepth 100000 in
set_option maxHeartbeats 4000000 in
theorem c_X12_worthOf {l : Launch} {D : va_G} {cA : Nat → ClassId} {Z : mZ} {bs : Ad} {n : Nat} {K : mK} {R : mR} {I : mI} {L : mL} {o : Nat} {a1 : Int32} {a2 : Int32} {post : Int32 → mI → Prop} (ho : isX12 K R o) (hw : w_X12_worthOf I o a1 a2 post) : Met l yX12_worthOf (.code yX12_worthOf cX12_worthOf 4 (some .int) :: gw) ({ frames := 7, cells := 0, slots := 0, locals := 159 } : Room) (PreM D cA Z bs (n, K, R, I, L) [.ref (ad bs o), .int a1, .int a2]) (QI D cA bs (fun r u => ∃ I', u = (n, K, R, I', L) ∧ post r I')) 0 0 (Ab bs) := by
  refine m_met (by decide) (Nat.le_of_ble_eq_true rfl) (fun p e s m below meth c ls E hr hlk hM hS hl => ?_)
  have E : Ev p s m _ c cX12_worthOf 4 RX12 D cA Z bs := E
  have hl : lv_has ls 4 [(0, .ref (ad bs o)), (1, .int a1), (2, .int a2)] := hl
  have hx := E.1.1
  have hb := E.1.2.1
  generalize hHe : s.heap = H at hM ⊢
  have hS : va_S (Ab bs) s.heap H [] := by rw [← hHe]; exact va_S.rf
  clear hHe
  refine lv_aload_n hx hb dX12_worthOf_0 rfl (lv_at hl 0 rfl) ?_
  refine m_cv (m_runV E hM hS cs_X12_306 ho.1 (by decide) rfl rfl (c_X12_runs ho hw) rfl rfl ⟨Nat.le_of_ble_eq_true rfl, Nat.le_of_ble_eq_true rfl⟩ rfl hl.1 rfl (Nat.le_of_ble_eq_true rfl) dX12_worthOf_1 ⟨Nat.le_of_ble_eq_true rfl, Nat.le_of_ble_eq_true rfl⟩) hS (fun u H locs hp hM hS => ?_)
  obtain ⟨I1, rfl, hw⟩ := hp
  refine lv_aload_n hx hb dX12_worthOf_4 rfl (lv_at hl 0 rfl) ?_
  refine m_ci (m_runV E hM hS cs_X12_367 ho.1 (by decide) rfl rfl (c_X12_allNotes ho hw) rfl rfl ⟨Nat.le_of_ble_eq_true rfl, Nat.le_of_ble_eq_true rfl⟩ rfl hl.1 rfl (Nat.le_of_ble_eq_true rfl) dX12_worthOf_5 ⟨Nat.le_of_ble_eq_true rfl, Nat.le_of_ble_eq_true rfl⟩) hS (fun r2 u H locs hp hM hS => ?_)
  obtain ⟨rfl, hw⟩ := hp
  refine lv_istore_n (lv' := [(3, .int r2), (0, .ref (ad bs o)), (1, .int a1), (2, .int a2)]) hx hb dX12_worthOf_8 rfl hl (by decide) rfl (fun ls hl => ?_)
  refine lv_aload_n hx hb dX12_worthOf_9 rfl (lv_at hl 1 rfl) ?_
  refine lv_iload_n hx hb dX12_worthOf_10 rfl (lv_at hl 2 rfl) ?_
  refine m_puti E hM hS fp_X12_229 ho.1 rfl rfl dX12_worthOf_11 (fun I3 H locs eI3 hM hS => ?_)
  have hw := hw I3 eI3
  refine lv_aload_n hx hb dX12_worthOf_14 rfl (lv_at hl 1 rfl) ?_
  refine lv_iload_n hx hb dX12_worthOf_15 rfl (lv_at hl 3 rfl) ?_
  refine m_puti E hM hS fp_X12_244 ho.1 rfl rfl dX12_worthOf_16 (fun I4 H locs eI4 hM hS => ?_)
  have hw := hw I4 eI4
  refine lv_aload_n hx hb dX12_worthOf_19 rfl (lv_at hl 1 rfl) ?_
  refine m_cv (m_runV E hM hS cs_X12_306 ho.1 (by decide) rfl rfl (c_X12_runs ho hw) rfl rfl ⟨Nat.le_of_ble_eq_true rfl, Nat.le_of_ble_eq_true rfl⟩ rfl hl.1 rfl (Nat.le_of_ble_eq_true rfl) dX12_worthOf_20 ⟨Nat.le_of_ble_eq_true rfl, Nat.le_of_ble_eq_true rfl⟩) hS (fun u H locs hp hM hS => ?_)
  obtain ⟨I5, rfl, hw⟩ := hp
  refine lv_aload_n hx hb dX12_worthOf_23 rfl (lv_at hl 1 rfl) ?_
  refine lv_iconst (v := (-1)) hx hb dX12_worthOf_24 (by decide) ?_
  refine m_puti E hM hS fp_X12_229 ho.1 rfl rfl dX12_worthOf_25 (fun I6 H locs eI6 hM hS => ?_)
  have hw := hw I6 eI6
  refine lv_iload_n hx hb dX12_worthOf_28 rfl (lv_at hl 0 rfl) ?_
  refine lv_aload_n hx hb dX12_worthOf_29 rfl (lv_at hl 1 rfl) ?_
  refine m_ci (m_runV E hM hS cs_X12_367 ho.1 (by decide) rfl rfl (c_X12_allNotes ho hw) rfl rfl ⟨Nat.le_of_ble_eq_true rfl, Nat.le_of_ble_eq_true rfl⟩ rfl hl.1 rfl (Nat.le_of_ble_eq_true rfl) dX12_worthOf_30 ⟨Nat.le_of_ble_eq_true rfl, Nat.le_of_ble_eq_true rfl⟩) hS (fun r7 u H locs hp hM hS => ?_)
  obtain ⟨rfl, hw⟩ := hp
  refine lv_isub hx hb dX12_worthOf_33 ?_
  exact m_reti hx hb hr hlk hM hS ⟨_, rfl, hw⟩ dX12_worthOf_34
theorem dX12_worth_0 : decode cX12_worth 0 = .ok (.aload_n 0, 1) := by decide +kernel
theorem dX12_worth_1 : decode cX12_worth 1 = .ok (.iload_n 1, 1) := by decide +kernel
theorem dX12_worth_2 : decode cX12_worth 2 = .ok (.invokevirtual 214, 3) := by decide +kernel
theorem dX12_worth_5 : decode cX12_worth 5 = .ok (.ifCond .eq 26, 3) := by decide +kernel
theorem dX12_worth_8 : decode cX12_worth 8 = .ok (.iload_n 2, 1) := by decide +kernel
theorem dX12_worth_9 : decode cX12_worth 9 = .ok (.iconst (-1), 1) := by decide +kernel
theorem dX12_worth_10 : decode cX12_worth 10 = .ok (.if_icmp .eq 11, 3) := by decide +kernel
theorem dX12_worth_13 : decode cX12_worth 13 = .ok (.aload_n 0, 1) := by decide +kernel
theorem dX12_worth_14 : decode cX12_worth 14 = .ok (.iload_n 2, 1) := by decide +kernel
theorem dX12_worth_15 : decode cX12_worth 15 = .ok (.invokevirtual 350, 3) := by decide +kernel
theorem dX12_worth_18 : decode cX12_worth 18 = .ok (.ifCond .eq 13, 3) := by decide +kernel
theorem dX12_worth_21 : decode cX12_worth 21 = .ok (.iload_n 3, 1) := by decide +kernel
theorem dX12_worth_22 : decode cX12_worth 22 = .ok (.iconst 1, 1) := by decide +kernel
theorem dX12_worth_23 : decode cX12_worth 23 = .ok (.bipush 9, 2) := by decide +kernel
theorem dX12_worth_25 : decode cX12_worth 25 = .ok (.invokestatic 133, 3) := by decide +kernel
theorem dX12_worth_28 : decode cX12_worth 28 = .ok (.ifCond .ne 6, 3) := by decide +kernel
theorem dX12_worth_31 : decode cX12_worth 31 = .ok (.bipush (-2), 2) := by decide +kernel
theorem dX12_worth_33 : decode cX12_worth 33 = .ok (.ireturn, 1) := by decide +kernel
theorem dX12_worth_34 : decode cX12_worth 34 = .ok (.iload_n 2, 1) := by decide +kernel
theorem dX12_worth_35 : decode cX12_worth 35 = .ok (.iconst (-1), 1) := by decide +kernel
theorem dX12_worth_36 : decode cX12_worth 36 = .ok (.if_icmp .eq 10, 3) := by decide +kernel
theorem dX12_worth_39 : decode cX12_worth 39 = .ok (.aload_n 0, 1) := by decide +kernel
theorem dX12_worth_40 : decode cX12_worth 40 = .ok (.iload_n 2, 1) := by decide +kernel
theorem dX12_worth_41 : decode cX12_worth 41 = .ok (.iload_n 3, 1) := by decide +kernel
theorem dX12_worth_42 : decode cX12_worth 42 = .ok (.invokevirtual 370, 3) := by decide +kernel
theorem dX12_worth_45 : decode cX12_worth 45 = .ok (.ireturn, 1) := by decide +kernel
theorem dX12_worth_46 : decode cX12_worth 46 = .ok (.iconst 0, 1) := by decide +kernel
theorem dX12_worth_47 : decode cX12_worth 47 = .ok (.istore 4, 2) := by decide +kernel
theorem dX12_worth_49 : decode cX12_worth 49 = .ok (.aload_n 0, 1) := by decide +kernel
theorem dX12_worth_50 : decode cX12_worth 50 = .ok (.iconst 0, 1) := by decide +kernel
theorem dX12_worth_51 : decode cX12_worth 51 = .ok (.iload_n 3, 1) := by decide +kernel
theorem dX12_worth_52 : decode cX12_worth 52 = .ok (.invokevirtual 370, 3) := by decide +kernel
theorem dX12_worth_55 : decode cX12_worth 55 = .ok (.istore 5, 2) := by decide +kernel
theorem dX12_worth_57 : decode cX12_worth 57 = .ok (.iconst 1, 1) := by decide +kernel
theorem dX12_worth_58 : decode cX12_worth 58 = .ok (.istore 6, 2) := by decide +kernel
theorem dX12_worth_60 : decode cX12_worth 60 = .ok (.iload 6, 2) := by decide +kernel
theorem dX12_worth_62 : decode cX12_worth 62 = .ok (.aload_n 0, 1) := by decide +kernel
theorem dX12_worth_63 : decode cX12_worth 63 = .ok (.iconst 0, 1) := by decide +kernel
theorem dX12_worth_64 : decode cX12_worth 64 = .ok (.invokevirtual 205, 3) := by decide +kernel
theorem dX12_worth_67 : decode cX12_worth 67 = .ok (.if_icmp .ge 50, 3) := by decide +kernel
theorem dX12_worth_70 : decode cX12_worth 70 = .ok (.aload_n 0, 1) := by decide +kernel
theorem dX12_worth_71 : decode cX12_worth 71 = .ok (.iload 6, 2) := by decide +kernel
theorem dX12_worth_73 : decode cX12_worth 73 = .ok (.iload_n 3, 1) := by decide +kernel
theorem dX12_worth_74 : decode cX12_worth 74 = .ok (.invokevirtual 370, 3) := by decide +kernel
theorem dX12_worth_77 : decode cX12_worth 77 = .ok (.istore 7, 2) := by decide +kernel
theorem dX12_worth_79 : decode cX12_worth 79 = .ok (.iload 7, 2) := by decide +kernel
theorem dX12_worth_81 : decode cX12_worth 81 = .ok (.iload 5, 2) := by decide +kernel
theorem dX12_worth_83 : decode cX12_worth 83 = .ok (.if_icmp .le 8, 3) := by decide +kernel
theorem dX12_worth_86 : decode cX12_worth 86 = .ok (.iload 6, 2) := by decide +kernel
theorem dX12_worth_88 : decode cX12_worth 88 = .ok (.goto 5, 3) := by decide +kernel
theorem dX12_worth_91 : decode cX12_worth 91 = .ok (.iload 4, 2) := by decide +kernel
theorem dX12_worth_93 : decode cX12_worth 93 = .ok (.istore 4, 2) := by decide +kernel
theorem dX12_worth_95 : decode cX12_worth 95 = .ok (.iload 7, 2) := by decide +kernel
theorem dX12_worth_97 : decode cX12_worth 97 = .ok (.iload 5, 2) := by decide +kernel
theorem dX12_worth_99 : decode cX12_worth 99 = .ok (.if_icmp .le 8, 3) := by decide +kernel
theorem dX12_worth_102 : decode cX12_worth 102 = .ok (.iload 7, 2) := by decide +kernel
theorem dX12_worth_104 : decode cX12_worth 104 = .ok (.goto 5, 3) := by decide +kernel
theorem dX12_worth_107 : decode cX12_worth 107 = .ok (.iload 5, 2) := by decide +kernel
theorem dX12_worth_109 : decode cX12_worth 109 = .ok (.istore 5, 2) := by decide +kernel
theorem dX12_worth_111 : decode cX12_worth 111 = .ok (.iinc 6 1, 3) := by decide +kernel
theorem dX12_worth_114 : decode cX12_worth 114 = .ok (.goto (-54), 3) := by decide +kernel
theorem dX12_worth_117 : decode cX12_worth 117 = .ok (.iload 4, 2) := by decide +kernel
theorem dX12_worth_119 : decode cX12_worth 119 = .ok (.ireturn, 1) := by decide +kernel
def w_X12_worth_93 (o : Nat) (a1 : Int32) (a2 : Int32) (a3 : Int32) (post : Int32 → mI → Prop) (k60 : mI → Int32 → Int32 → Int32 → Prop) (I : mI) (v5 : Int32) (v6 : Int32) (v7 : Int32) (s0 : Int32) : Prop := (v7 ≤ v5 → ∀ x12, x12 = v6 + 1 → k60 I s0 v5 x12) ∧ (¬ v7 ≤ v5 → ∀ x13, x13 = v6 + 1 → k60 I s0 v7 x13)
set_option maxRecDepth 100000 in
set_option maxHeartbeats 4000000 in
theorem s_X12_worth_93 {p : Program} {l : Launch} {e : Env} {s : State} {m : MethodId} {args : Array Value} {below : List Frame} {meth : Method} {c : Code} {D : va_G} {cA : Nat → ClassId} {Z : mZ} {bs : Ad} {n : Nat} {K : mK} {R : mR} {L : mL} (E : Ev p s m args c cX12_worth 8 RX12 D cA Z bs) (hr : meth.sig.returnType = (some .int)) (hlk : meth.locks = false) {o : Nat} {a1 : Int32} {a2 : Int32} {a3 : Int32} (ho : isX12 K R o) {post : Int32 → mI → Prop} {k60 : mI → Int32 → Int32 → Int32 → Prop} (hk60 : ∀ (I : mI) (v4 : Int32) (v5 : Int32) (v6 : Int32) (H : Heap) (locs : List Loc) (ls : Array Slot), k60 I v4 v5 v6 → mm D cA bs (n, K, R, I, L) H → va_S (Ab bs) s.heap H locs → lv_has ls 8 [(0, .ref (ad bs o)), (3, .int a3), (4, .int v4), (5, .int v5), (6, .int v6)] → W p l e ({ frames := 8, cells := 0, slots := 0, locals := 182 } : Room) s m args below meth c H locs 0 0 (MQ below (QI D cA bs (fun r u => ∃ I', u = (n, K, R, I', L) ∧ post r I')) args s 0 0 (Ab bs)) (F0 m 60 ls [])) {I : mI} {v5 : Int32} {v6 : Int32} {v7 : Int32} {s0 : Int32} {H : Heap} {locs : List Loc} {ls : Array Slot} (hw : w_X12_worth_93 o a1 a2 a3 post k60 I v5 v6 v7 s0) (hM : mm D cA bs (n, K, R, I, L) H) (hS : va_S (Ab bs) s.heap H locs) (hl : lv_has ls 8 [(0, .ref (ad bs o)), (3, .int a3), (5, .int v5), (6, .int v6), (7, .int v7)]) : W p l e ({ frames := 8, cells := 0, slots := 0, locals := 182 } : Room) s m args below meth c H locs 0 0 (MQ below (QI D cA bs (fun r u => ∃ I', u = (n, K, R, I', L) ∧ post r I')) args s 0 0 (Ab bs)) (F0 m 93 ls [.int s0]) := by
  have hx := E.1.1
  have hb := E.1.2.1
  refine lv_istore (lv' := [(4, .int s0), (0, .ref (ad bs o)), (3, .int a3), (5, .int v5), (6, .int v6), (7, .int v7)]) hx hb dX12_worth_93 hl (by decide) rfl (fun ls hl => ?_)
  refine lv_iload hx hb dX12_worth_95 (lv_at hl 5 rfl) ?_
  refine lv_iload hx hb dX12_worth_97 (lv_at hl 3 rfl) ?_
  refine lv_icmp_le (tgt := 107) hx hb dX12_worth_99 (by decide) (fun cq => ?_) (fun cq => ?_)
  · have hw := hw.1 cq
    refine lv_iload hx hb dX12_worth_107 (lv_at hl 3 rfl) ?_
    refine lv_istore (lv' := [(5, .int v5), (4, .int s0), (0, .ref (ad bs o)), (3, .int a3), (6, .int v6), (7, .int v7)]) hx hb dX12_worth_109 hl (by decide) rfl (fun ls hl => ?_)
    obtain ⟨x12, ex12⟩ : ∃ y : Int32, y = v6 + 1 := ⟨_, rfl⟩
    have hw := hw x12 ex12
    refine lv_iinc (v := x12) (lv' := [(6, .int x12), (5, .int v5), (4, .int s0), (0, .ref (ad bs o)), (3, .int a3), (7, .int v7)]) hx hb dX12_worth_111 hl (k := 4) rfl (by rw [ex12]; rfl) (by decide) rfl (fun ls hl => ?_)
    refine lv_goto (tgt := 60) hx hb dX12_worth_114 (by decide) ?_
    exact hk60 _ _ _ _ H locs ls  hw hM hS (lv_sub hl [3, 4, 2, 1, 0] rfl)
  · have hw := hw.2 cq
    refine lv_iload hx hb dX12_worth_102 (lv_at hl 5 rfl) ?_
    refine lv_goto (tgt := 109) hx hb dX12_worth_104 (by decide) ?_
    refine lv_istore (lv' := [(5, .int v7), (4, .int s0), (0, .ref (ad bs o)), (3, .int a3), (6, .int v6), (7, .int v7)]) hx hb dX12_worth_109 hl (by decide) rfl (fun ls hl => ?_)
    obtain ⟨x13, ex13⟩ : ∃ y : Int32, y = v6 + 1 := ⟨_, rfl⟩
    have hw := hw x13 ex13
    refine lv_iinc (v := x13) (lv' := [(6, .int x13), (5, .int v7), (4, .int s0), (0, .ref (ad bs o)), (3, .int a3), (7, .int v7)]) hx hb dX12_worth_111 hl (k := 4) rfl (by rw [ex13]; rfl) (by decide) rfl (fun ls hl => ?_)
    refine lv_goto (tgt := 60) hx hb dX12_worth_114 (by decide) ?_
    exact hk60 _ _ _ _ H locs ls  hw hM hS (lv_sub hl [3, 4, 2, 1, 0] rfl)
def w_X12_worth_60 (o : Nat) (a1 : Int32) (a2 : Int32) (a3 : Int32) (post : Int32 → mI → Prop) (I : mI) (v4 : Int32) (v5 : Int32) (v6 : Int32) : Prop := ∀ ZZ : (mI → Int32 → Int32 → Int32 → Prop), (∀ (I : mI) (v4 : Int32) (v5 : Int32) (v6 : Int32), (w_X12_of I o 0 (fun r9 => (r9 ≤ v6 → post v4 I) ∧ (¬ r9 ≤ v6 → w_X12_worthOf I o v6 a3 (fun r10 I11 => (r10 ≤ v5 → (w_X12_worth_93 o a1 a2 a3 post ZZ) I11 v5 v6 r10 v4) ∧ (¬ r10 ≤ v5 → (w_X12_worth_93 o a1 a2 a3 post ZZ) I11 v5 v6 r10 v6))))) → ZZ I v4 v5 v6) → ZZ I v4 v5 v6
set_option maxRecDepth 100000 in
set_option maxHeartbeats 4000000 in
theorem s_X12_worth_60 {p : Program} {l : Launch} {e : Env} {s : State} {m : MethodId} {args : Array Value} {below : List Frame} {meth : Method} {c : Code} {D : va_G} {cA : Nat → ClassId} {Z : mZ} {bs : Ad} {n : Nat} {K : mK} {R : mR} {L : mL} (E : Ev p s m args c cX12_worth 8 RX12 D cA Z bs) (hr : meth.sig.returnType = (some .int)) (hlk : meth.locks = false) {o : Nat} {a1 : Int32} {a2 : Int32} {a3 : Int32} (ho : isX12 K R o) {post : Int32 → mI → Prop} {I : mI} {v4 : Int32} {v5 : Int32} {v6 : Int32} {H : Heap} {locs : List Loc} {ls : Array Slot} (hw : w_X12_worth_60 o a1 a2 a3 post I v4 v5 v6) (hM : mm D cA bs (n, K, R, I, L) H) (hS : va_S (Ab bs) s.heap H locs) (hl : lv_has ls 8 [(0, .ref (ad bs o)), (3, .int a3), (4, .int v4), (5, .int v5), (6, .int v6)]) : W p l e ({ frames := 8, cells := 0, slots := 0, locals := 182 } : Room) s m args below meth c H locs 0 0 (MQ below (QI D cA bs (fun r u => ∃ I', u = (n, K, R, I', L) ∧ post r I')) args s 0 0 (Ab bs)) (F0 m 60 ls []) := by
  have hx := E.1.1
  have hb := E.1.2.1
  refine hw (fun I v4 v5 v6 => ∀ (H : Heap) (locs : List Loc) (ls : Array Slot), mm D cA bs (n, K, R, I, L) H → va_S (Ab bs) s.heap H locs → lv_has ls 8 [(0, .ref (ad bs o)), (3, .int a3), (4, .int v4), (5, .int v5), (6, .int v6)] → W p l e ({ frames := 8, cells := 0, slots := 0, locals := 182 } : Room) s m args below meth c H locs 0 0 (MQ below (QI D cA bs (fun r u => ∃ I', u = (n, K, R, I', L) ∧ post r I')) args s 0 0 (Ab bs)) (F0 m 60 ls [])) ?_ H locs ls hM hS hl
  clear hw hM hS hl
  intro I v4 v5 v6 hw H locs ls hM hS hl
  refine lv_iload hx hb dX12_worth_60 (lv_at hl 4 rfl) ?_
  refine lv_aload_n hx hb dX12_worth_62 rfl (lv_at hl 0 rfl) ?_
  refine lv_iconst (v := 0) hx hb dX12_worth_63 (by decide) ?_
  refine m_ci (m_runV E hM hS cs_X12_205 ho.1 (by decide) rfl rfl (c_X12_of ho hw) rfl rfl ⟨Nat.le_of_ble_eq_true rfl, Nat.le_of_ble_eq_true rfl⟩ rfl hl.1 rfl (Nat.le_of_ble_eq_true rfl) dX12_worth_64 ⟨Nat.le_of_ble_eq_true rfl, Nat.le_of_ble_eq_true rfl⟩) hS (fun r9 u H locs hp hM hS => ?_)
  obtain ⟨rfl, hw⟩ := hp
  refine lv_icmp_ge (tgt := 117) hx hb dX12_worth_67 (by decide) (fun cq => ?_) (fun cq => ?_)
  · have hw := hw.1 cq
    refine lv_iload hx hb dX12_worth_117 (lv_at hl 2 rfl) ?_
    exact m_reti hx hb hr hlk hM hS ⟨_, rfl, hw⟩ dX12_worth_119
  · have hw := hw.2 cq
    refine lv_aload_n hx hb dX12_worth_70 rfl (lv_at hl 0 rfl) ?_
    refine lv_iload hx hb dX12_worth_71 (lv_at hl 4 rfl) ?_
    refine lv_iload_n hx hb dX12_worth_73 rfl (lv_at hl 1 rfl) ?_
    refine m_ci (m_runV E hM hS cs_X12_370 ho.1 (by decide) rfl rfl (c_X12_worthOf ho hw) rfl rfl ⟨Nat.le_of_ble_eq_true rfl, Nat.le_of_ble_eq_true rfl⟩ rfl hl.1 rfl (Nat.le_of_ble_eq_true rfl) dX12_worth_74 ⟨Nat.le_of_ble_eq_true rfl, Nat.le_of_ble_eq_true rfl⟩) hS (fun r10 u H locs hp hM hS => ?_)
    obtain ⟨I11, rfl, hw⟩ := hp
    refine lv_istore (lv' := [(7, .int r10), (0, .ref (ad bs o)), (3, .int a3), (4, .int v4), (5, .int v5), (6, .int v6)]) hx hb dX12_worth_77 hl (by decide) rfl (fun ls hl => ?_)
    refine lv_iload hx hb dX12_worth_79 (lv_at hl 0 rfl) ?_
    refine lv_iload hx hb dX12_worth_81 (lv_at hl 4 rfl) ?_
    refine lv_icmp_le (tgt := 91) hx hb dX12_worth_83 (by decide) (fun cq => ?_) (fun cq => ?_)
    · have hw := hw.1 cq
      refine lv_iload hx hb dX12_worth_91 (lv_at hl 3 rfl) ?_
      exact s_X12_worth_93 E hr hlk ho (fun I v4 v5 v6 H locs ls  hw hM hS hl => hw H locs ls  hM hS hl)  hw hM hS (lv_sub hl [1, 2, 4, 5, 0] rfl)
    · have hw := hw.2 cq
      refine lv_iload hx hb dX12_worth_86 (lv_at hl 5 rfl) ?_
      refine lv_goto (tgt := 93) hx hb dX12_worth_88 (by decide) ?_
      exact s_X12_worth_93 E hr hlk ho (fun I v4 v5 v6 H locs ls  hw hM hS hl => hw H locs ls  hM hS hl)  hw hM hS (lv_sub hl [1, 2, 4, 5, 0] rfl)
def w_X12_worth_21 (o : Nat) (a1 : Int32) (a2 : Int32) (a3 : Int32) (post : Int32 → mI → Prop) (I : mI) : Prop := w_X12_isIn a3 1 9 (fun b4 => (b4 = true → (a2 = (-1) → w_X12_worthOf I o 0 a3 (fun r5 I6 => (w_X12_worth_60 o a1 a2 a3 post) I6 0 r5 1)) ∧ (¬ a2 = (-1) → w_X12_worthOf I o a2 a3 (fun r7 I8 => post r7 I8))) ∧ (b4 = false → post (-2) I))
set_option maxRecDepth 100000 in
set_option maxHeartbeats 4000000 in
theorem s_X12_worth_21 {p : Program} {l : Launch} {e : Env} {s : State} {m : MethodId} {args : Array Value} {below : List Frame} {meth : Method} {c : Code} {D : va_G} {cA : Nat → ClassId} {Z : mZ} {bs : Ad} {n : Nat} {K : mK} {R : mR} {L : mL} (E : Ev p s m args c cX12_worth 8 RX12 D cA Z bs) (hr : meth.sig.returnType = (some .int)) (hlk : meth.locks = false) {o : Nat} {a1 : Int32} {a2 : Int32} {a3 : Int32} (ho : isX12 K R o) {post : Int32 → mI → Prop} {I : mI} {H : Heap} {locs : List Loc} {ls : Array Slot} (hw : w_X12_worth_21 o a1 a2 a3 post I) (hM : mm D cA bs (n, K, R, I, L) H) (hS : va_S (Ab bs) s.heap H locs) (hl : lv_has ls 8 [(0, .ref (ad bs o)), (2, .int a2), (3, .int a3)]) : W p l e ({ frames := 8, cells := 0, slots := 0, locals := 182 } : Room) s m args below meth c H locs 0 0 (MQ below (QI D cA bs (fun r u => ∃ I', u = (n, K, R, I', L) ∧ post r I')) args s 0 0 (Ab bs)) (F0 m 21 ls []) := by
  have hx := E.1.1
  have hb := E.1.2.1
  refine lv_iload_n hx hb dX12_worth_21 rfl (lv_at hl 2 rfl) ?_
  refine lv_iconst (v := 1) hx hb dX12_worth_22 (by decide) ?_
  refine lv_bipush (v := 9) hx hb dX12_worth_23 (by decide) ?_
  refine m_ci (m_runS E hM hS cs_X12_133 (c_X12_isIn  hw) rfl rfl ⟨Nat.le_of_ble_eq_true rfl, Nat.le_of_ble_eq_true rfl⟩ rfl hl.1 rfl (Nat.le_of_ble_eq_true rfl) dX12_worth_25 ⟨Nat.le_of_ble_eq_true rfl, Nat.le_of_ble_eq_true rfl⟩) hS (fun r9 u H locs hp hM hS => ?_)
  obtain ⟨b4, rfl, rfl, hw⟩ := hp
  refine lv_if_ne (tgt := 34) hx hb dX12_worth_28 (by decide) (fun cq => ?_) (fun cq => ?_)
  · have hw := hw.1 (bI_t cq)
    refine lv_iload_n hx hb dX12_worth_34 rfl (lv_at hl 1 rfl) ?_
    refine lv_iconst (v := (-1)) hx hb dX12_worth_35 (by decide) ?_
    refine lv_icmp_eq (tgt := 46) hx hb dX12_worth_36 (by decide) (fun cq => ?_) (fun cq => ?_)
    · have hw := hw.1 cq
      refine lv_iconst (v := 0) hx hb dX12_worth_46 (by decide) ?_
      refine lv_istore (lv' := [(4, .int 0), (0, .ref (ad bs o)), (2, .int a2), (3, .int a3)]) hx hb dX12_worth_47 hl (by decide) rfl (fun ls hl => ?_)
      refine lv_aload_n hx hb dX12_worth_49 rfl (lv_at hl 1 rfl) ?_
      refine lv_iconst (v := 0) hx hb dX12_worth_50 (by decide) ?_
      refine lv_iload_n hx hb dX12_worth_51 rfl (lv_at hl 3 rfl) ?_
      refine m_ci (m_runV E hM hS cs_X12_370 ho.1 (by decide) rfl rfl (c_X12_worthOf ho hw) rfl rfl ⟨Nat.le_of_ble_eq_true rfl, Nat.le_of_ble_eq_true rfl⟩ rfl hl.1 rfl (Nat.le_of_ble_eq_true rfl) dX12_worth_52 ⟨Nat.le_of_ble_eq_true rfl, Nat.le_of_ble_eq_true rfl⟩) hS (fun r5 u H locs hp hM hS => ?_)
      obtain ⟨I6, rfl, hw⟩ := hp
      refine lv_istore (lv' := [(5, .int r5), (4, .int 0), (0, .ref (ad bs o)), (2, .int a2), (3, .int a3)]) hx hb dX12_worth_55 hl (by decide) rfl (fun ls hl => ?_)
      refine lv_iconst (v := 1) hx hb dX12_worth_57 (by decide) ?_
      refine lv_istore (lv' := [(6, .int 1), (5, .int r5), (4, .int 0), (0, .ref (ad bs o)), (2, .int a2), (3, .int a3)]) hx hb dX12_worth_58 hl (by decide) rfl (fun ls hl => ?_)
      exact s_X12_worth_60 E hr hlk ho  hw hM hS (lv_sub hl [3, 5, 2, 1, 0] rfl)
    · have hw := hw.2 cq
      refine lv_aload_n hx hb dX12_worth_39 rfl (lv_at hl 0 rfl) ?_
      refine lv_iload_n hx hb dX12_worth_40 rfl (lv_at hl 1 rfl) ?_
      refine lv_iload_n hx hb dX12_worth_41 rfl (lv_at hl 2 rfl) ?_
      refine m_ci (m_runV E hM hS cs_X12_370 ho.1 (by decide) rfl rfl (c_X12_worthOf ho hw) rfl rfl ⟨Nat.le_of_ble_eq_true rfl, Nat.le_of_ble_eq_true rfl⟩ rfl hl.1 rfl (Nat.le_of_ble_eq_true rfl) dX12_worth_42 ⟨Nat.le_of_ble_eq_true rfl, Nat.le_of_ble_eq_true rfl⟩) hS (fun r7 u H locs hp hM hS => ?_)
      obtain ⟨I8, rfl, hw⟩ := hp
      exact m_reti hx hb hr hlk hM hS ⟨_, rfl, hw⟩ dX12_worth_45
  · have hw := hw.2 (bI_f cq)
    refine lv_bipush (v := (-2)) hx hb dX12_worth_31 (by decide) ?_
    exact m_reti hx hb hr hlk hM hS ⟨_, rfl, hw⟩ dX12_worth_33
def w_X12_worth (I : mI) (o : Nat) (a1 : Int32) (a2 : Int32) (a3 : Int32) (post : Int32 → mI → Prop) : Prop := w_X12_isHouse I o a1 (fun b1 I2 => (b1 = false → post (-2) I2) ∧ (b1 = true → (a2 = (-1) → (w_X12_worth_21 o a1 a2 a3 post) I2) ∧ (¬ a2 = (-1) → w_X12_isStep I2 o a2 (fun b3 => (b3 = false → post (-2) I2) ∧ (b3 = true → (w_X12_worth_21 o a1 a2 a3 post) I2)))))
set_option maxRecDepth 100000 in
set_option maxHeartbeats 4000000 in
theorem c_X12_worth {l : Launch} {D : va_G} {cA : Nat → ClassId} {Z : mZ} {bs : Ad} {n : Nat} {K : mK} {R : mR} {I : mI} {L : mL} {o : Nat} {a1 : Int32} {a2 : Int32} {a3 : Int32} {post : Int32 → mI → Prop} (ho : isX12 K R o) (hw : w_X12_worth I o a1 a2 a3 post) : Met l yX12_worth (.code yX12_worth cX12_worth 8 (some .int) :: gw) ({ frames := 8, cells := 0, slots := 0, locals := 182 } : Room) (PreM D cA Z bs (n, K, R, I, L) [.ref (ad bs o), .int a1, .int a2, .int a3]) (QI D cA bs (fun r u => ∃ I', u = (n, K, R, I', L) ∧ post r I')) 0 0 (Ab bs) := by
  refine m_met (by decide) (Nat.le_of_ble_eq_true rfl) (fun p e s m below meth c ls E hr hlk hM hS hl => ?_)
  have E : Ev p s m _ c cX12_worth 8 RX12 D cA Z bs := E
  have hl : lv_has ls 8 [(0, .ref (ad bs o)), (1, .int a1), (2, .int a2), (3, .int a3)] := hl
  have hx := E.1.1
  have hb := E.1.2.1
  generalize hHe : s.heap = H at hM ⊢
  have hS : va_S (Ab bs) s.heap H [] := by rw [← hHe]; exact va_S.rf
  clear hHe
  refine lv_aload_n hx hb dX12_worth_0 rfl (lv_at hl 0 rfl) ?_
  refine lv_iload_n hx hb dX12_worth_1 rfl (lv_at hl 1 rfl) ?_
  refine m_ci (m_runV E hM hS cs_X12_214 ho.1 (by decide) rfl rfl (c_X12_isHouse ho hw) rfl rfl ⟨Nat.le_of_ble_eq_true rfl, Nat.le_of_ble_eq_true rfl⟩ rfl hl.1 rfl (Nat.le_of_ble_eq_true rfl) dX12_worth_2 ⟨Nat.le_of_ble_eq_true rfl, Nat.le_of_ble_eq_true rfl⟩) hS (fun r9 u H locs hp hM hS => ?_)
  obtain ⟨b1, rfl, I2, rfl, hw⟩ := hp
  refine lv_if_eq (tgt := 31) hx hb dX12_worth_5 (by decide) (fun cq => ?_) (fun cq => ?_)
  · have hw := hw.1 (bI_f cq)
    refine lv_bipush (v := (-2)) hx hb dX12_worth_31 (by decide) ?_
    exact m_reti hx hb hr hlk hM hS ⟨_, rfl, hw⟩ dX12_worth_33
  · have hw := hw.2 (bI_t cq)
    refine lv_iload_n hx hb dX12_worth_8 rfl (lv_at hl 2 rfl) ?_
    refine lv_iconst (v := (-1)) hx hb dX12_worth_9 (by decide) ?_
    refine lv_icmp_eq (tgt := 21) hx hb dX12_worth_10 (by decide) (fun cq => ?_) (fun cq => ?_)
    · have hw := hw.1 cq
      exact s_X12_worth_21 E hr hlk ho  hw hM hS (lv_sub hl [0, 2, 3] rfl)
    · have hw := hw.2 cq
      refine lv_aload_n hx hb dX12_worth_13 rfl (lv_at hl 0 rfl) ?_
      refine lv_iload_n hx hb dX12_worth_14 rfl (lv_at hl 2 rfl) ?_
      refine m_ci (m_runV E hM hS cs_X12_350 ho.1 (by decide) rfl rfl (c_X12_isStep ho hw) rfl rfl ⟨Nat.le_of_ble_eq_true rfl, Nat.le_of_ble_eq_true rfl⟩ rfl hl.1 rfl (Nat.le_of_ble_eq_true rfl) dX12_worth_15 ⟨Nat.le_of_ble_eq_true rfl, Nat.le_of_ble_eq_true rfl⟩) hS (fun r9 u H locs hp hM hS => ?_)
      obtain ⟨b3, rfl, rfl, hw⟩ := hp
      refine lv_if_eq (tgt := 31) hx hb dX12_worth_18 (by decide) (fun cq => ?_) (fun cq => ?_)
      · have hw := hw.1 (bI_f cq)
        refine lv_bipush (v := (-2)) hx hb dX12_worth_31 (by decide) ?_
        exact m_reti hx hb hr hlk hM hS ⟨_, rfl, hw⟩ dX12_worth_33
      · have hw := hw.2 (bI_t cq)
        exact s_X12_worth_21 E hr hlk ho  hw hM hS (lv_sub hl [0, 2, 3] rfl)
theorem dX12_sounds_0 : decode cX12_sounds 0 = .ok (.aload_n 0, 1) := by decide +kernel
theorem dX12_sounds_1 : decode cX12_sounds 1 = .ok (.getfield 7, 3) := by decide +kernel
theorem dX12_sounds_4 : decode cX12_sounds 4 = .ok (.aload_n 0, 1) := by decide +kernel
theorem dX12_sounds_5 : decode cX12_sounds 5 = .ok (.getfield 373, 3) := by decide +kernel
theorem dX12_sounds_8 : decode cX12_sounds 8 = .ok (.iaload, 1) := by decide +kernel
theorem dX12_sounds_9 : decode cX12_sounds 9 = .ok (.ireturn, 1) := by decide +kernel
def w_X12_sounds (I : mI) (o : Nat) (post : Int32 → Prop) : Prop := vp_in (I o 44) 3960 ∧ post (I (o + 1) (I o 44).toNatClampNeg)
set_option maxRecDepth 100000 in
set_option maxHeartbeats 4000000 in
theorem c_X12_sounds {l : Launch} {D : va_G} {cA : Nat → ClassId} {Z : mZ} {bs : Ad} {n : Nat} {K : mK} {R : mR} {I : mI} {L : mL} {o : Nat} {post : Int32 → Prop} (ho : isX12 K R o) (hw : w_X12_sounds I o post) : Met l yX12_sounds (.code yX12_sounds cX12_sounds 1 (some .int) :: gw) ({ frames := 0, cells := 0, slots := 0, locals := 0 } : Room) (PreM D cA Z bs (n, K, R, I, L) [.ref (ad bs o)]) (QI D cA bs (fun r u => u = (n, K, R, I, L) ∧ post r)) 0 0 (Ab bs) := by
  refine m_met (by decide) (Nat.le_of_ble_eq_true rfl) (fun p e s m below meth c ls E hr hlk hM hS hl => ?_)
  have E : Ev p s m _ c cX12_sounds 1 RX12 D cA Z bs := E
  have hl : lv_has ls 1 [(0, .ref (ad bs o))] := hl
  have hx := E.1.1
  have hb := E.1.2.1
  generalize hHe : s.heap = H at hM ⊢
  have hS : va_S (Ab bs) s.heap H [] := by rw [← hHe]; exact va_S.rf
  clear hHe
  refine lv_aload_n hx hb dX12_sounds_0 rfl (lv_at hl 0 rfl) ?_
  refine m_getr E hM fs_X12_7 ho.1 (isO_at ho 0 rfl).1 dX12_sounds_1 ?_
  refine lv_aload_n hx hb dX12_sounds_4 rfl (lv_at hl 0 rfl) ?_
  refine m_geti E hM fs_X12_373 ho.1 dX12_sounds_5 ?_
  obtain ⟨hv, hw⟩ := hw
  refine m_iald E hM (isO_at ho 0 rfl).2 hv dX12_sounds_8 ?_
  exact m_reti hx hb hr hlk hM hS ⟨rfl, hw⟩ dX12_sounds_9
theorem dX12_soundOf_0 : decode cX12_soundOf 0 = .ok (.aload_n 0, 1) := by decide +kernel
theorem dX12_soundOf_1 : decode cX12_soundOf 1 = .ok (.getfield 7, 3) := by decide +kernel
theorem dX12_soundOf_4 : decode cX12_soundOf 4 = .ok (.aload_n 0, 1) := by decide +kernel
theorem dX12_soundOf_5 : decode cX12_soundOf 5 = .ok (.getfield 373, 3) := by decide +kernel
theorem dX12_soundOf_8 : decode cX12_soundOf 8 = .ok (.iconst 1, 1) := by decide +kernel
theorem dX12_soundOf_9 : decode cX12_soundOf 9 = .ok (.iadd, 1) := by decide +kernel
theorem dX12_soundOf_10 : decode cX12_soundOf 10 = .ok (.iconst 4, 1) := by decide +kernel
theorem dX12_soundOf_11 : decode cX12_soundOf 11 = .ok (.iload_n 1, 1) := by decide +kernel
theorem dX12_soundOf_12 : decode cX12_soundOf 12 = .ok (.imul, 1) := by decide +kernel
theorem dX12_soundOf_13 : decode cX12_soundOf 13 = .ok (.iadd, 1) := by decide +kernel
theorem dX12_soundOf_14 : decode cX12_soundOf 14 = .ok (.iload_n 2, 1) := by decide +kernel
theorem dX12_soundOf_15 : decode cX12_soundOf 15 = .ok (.iadd, 1) := by decide +kernel
theorem dX12_soundOf_16 : decode cX12_soundOf 16 = .ok (.iaload, 1) := by decide +kernel
theorem dX12_soundOf_17 : decode cX12_soundOf 17 = .ok (.ireturn, 1) := by decide +kernel
def w_X12_soundOf (I : mI) (o : Nat) (a1 : Int32) (a2 : Int32) (post : Int32 → Prop) : Prop := vp_in ((((I o 44) + 1) + (4 * a1)) + a2) 3960 ∧ post (I (o + 1) ((((I o 44) + 1) + (4 * a1)) + a2).toNatClampNeg)
set_option maxRecDepth 100000 in
set_option maxHeartbeats 4000000 in
theorem c_X12_soundOf {l : Launch} {D : va_G} {cA : Nat → ClassId} {Z : mZ} {bs : Ad} {n : Nat} {K : mK} {R : mR} {I : mI} {L : mL} {o : Nat} {a1 : Int32} {a2 : Int32} {post : Int32 → Prop} (ho : isX12 K R o) (hw : w_X12_soundOf I o a1 a2 post) : Met l yX12_soundOf (.code yX12_soundOf cX12_soundOf 3 (some .int) :: gw) ({ frames := 0, cells := 0, slots := 0, locals := 0 } : Room) (PreM D cA Z bs (n, K, R, I, L) [.ref (ad bs o), .int a1, .int a2]) (QI D cA bs (fun r u => u = (n, K, R, I, L) ∧ post r)) 0 0 (Ab bs) := by
  refine m_met (by decide) (Nat.le_of_ble_eq_true rfl) (fun p e s m below meth c ls E hr hlk hM hS hl => ?_)
  have E : Ev p s m _ c cX12_soundOf 3 RX12 D cA Z bs := E
  have hl : lv_has ls 3 [(0, .ref (ad bs o)), (1, .int a1), (2, .int a2)] := hl
  have hx := E.1.1
  have hb := E.1.2.1
  generalize hHe : s.heap = H at hM ⊢
  have hS : va_S (Ab bs) s.heap H [] := by rw [← hHe]; exact va_S.rf
  clear hHe
  refine lv_aload_n hx hb dX12_soundOf_0 rfl (lv_at hl 0 rfl) ?_
  refine m_getr E hM fs_X12_7 ho.1 (isO_at ho 0 rfl).1 dX12_soundOf_1 ?_
  refine lv_aload_n hx hb dX12_soundOf_4 rfl (lv_at hl 0 rfl) ?_
  refine m_geti E hM fs_X12_373 ho.1 dX12_soundOf_5 ?_
  refine lv_iconst (v := 1) hx hb dX12_soundOf_8 (by decide) ?_
  refine lv_iadd hx hb dX12_soundOf_9 ?_
  refine lv_iconst (v := 4) hx hb dX12_soundOf_10 (by decide) ?_
  refine lv_iload_n hx hb dX12_soundOf_11 rfl (lv_at hl 1 rfl) ?_
  refine lv_imul hx hb dX12_soundOf_12 ?_
  refine lv_iadd hx hb dX12_soundOf_13 ?_
  refine lv_iload_n hx hb dX12_soundOf_14 rfl (lv_at hl 2 rfl) ?_
  refine lv_iadd hx hb dX12_soundOf_15 ?_
  obtain ⟨hv, hw⟩ := hw
  refine m_iald E hM (isO_at ho 0 rfl).2 hv dX12_soundOf_16 ?_
  exact m_reti hx hb hr hlk hM hS ⟨rfl, hw⟩ dX12_soundOf_17
