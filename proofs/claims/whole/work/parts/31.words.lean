/-! the reader's words: String constants, and the JDK's code for their length and their signs -/
def QS (D : va_G) (cA : Nat → ClassId) (bs : Ad) (Z : mZ) (post : Nat → Mm → Prop) : Array Value → State → Outcome → State → Prop := va_Qq (fun r u => ∃ i : Nat, r = some (Z.2.1 i) ∧ i < 8 ∧ post i u) (fun u t => mm D cA bs u t.heap) (Ab bs)
section MS
variable {p : Program} {l : Launch} {e : Env} {RM : Room} {s : State} {m : MethodId} {args : Array Value} {below : List Frame} {meth : Method} {c : Code} {H H0 : Heap} {locs : List Loc} {cells slots : Nat} {Q : State → Prop} {cc : ByteArray} {pc : Nat} {ls : Array Slot} {rest st0 : List Value} {D : va_G} {cA : Nat → ClassId} {Z : mZ} {bs : Ad} {nL : Nat} {own : String} {M : Mm}
  {y : MethodName} {bytes : ByteArray} {maxL mc ms np idx : Nat} {ret : Option FieldType} {rm : Room} {Qc : Array Value → State → Outcome → State → Prop} {As : List Value}
theorem m_runVS (E : Ev p s m args c cc nL own D cA Z bs) (hM : mm D cA bs M H) (hS : va_S (Ab bs) s.heap H locs) (hC : CSV own idx y bytes maxL ret np) {i : Nat} (hi : i < 8) (hMet : Met l y (.code y bytes maxL ret :: gw) rm (PreM D cA Z bs M (.ref (Z.2.1 i) :: As)) Qc mc ms (Ab bs)) (hrc : rm.cells = mc) (hrs : rm.slots = ms) (hR : rm.frames + 1 ≤ RM.frames ∧ 8 + (maxL + 11) + rm.locals ≤ RM.locals)
    (hn : As.length = np) (hls : ls.size = nL) (hst : st0 = As.reverse ++ .ref (Z.2.1 i) :: rest) (hW : (rest.map fun v => v.category).sum ≤ 8) (hdg : decode cc pc = .ok (.invokevirtual idx, 3)) (hf : cells + mc ≤ RM.cells ∧ slots + ms ≤ RM.slots) (hys : y.cls = "java/lang/String" := by rfl) :
    va_Run p l e RM s m args below meth c H locs cells slots mc ms (F0 m pc ls st0) rest (Qc (Value.ref (Z.2.1 i) :: As).toArray) (Ab bs) := by
  have hw := hC.1
  have hG : GoodIn gw (wsV own idx y.cls y (.code y bytes maxL ret :: gw)) := by
    intro w hw'
    rcases List.mem_append.mp hw' with h | h
    · exact gw_good (hw w (by simp only [List.mem_cons, List.not_mem_nil, or_false] at h ⊢; rcases h with h | h | h | h <;> simp [h]))
    · exact gw_c (hw _ (by simp)) w h
  refine va_runV E.1 hMet (cwV np E.1.2.2.2.2 hG rfl hrc hrs ⟨rfl, hC.2⟩ hR) ⟨PreM_blind, ?_, fun U hU hWm => ⟨rfl, Cx_warm E.2 hS hU hWm, by rw [hU]; exact hM⟩⟩ rfl hn hls (by rw [← hst]) (lv_room hW) hdg hf
  rw [hys]
  exact vk_recv E.2.2.2.2.2.2.2.2.2.1 hi hS
theorem m_cs {post : Nat → Mm → Prop} {a : Array Value} (hr : va_Run p l e RM s m args below meth c H locs cells slots mc ms (F0 m pc ls st0) rest (QS D cA bs Z post a) (Ab bs)) (hS : va_S (Ab bs) H0 H locs)
    (kk : ∀ (i : Nat) (u : Mm) (H1 : Heap) (locs1 : List Loc), i < 8 → post i u → mm D cA bs u H1 → va_S (Ab bs) H0 H1 locs1 → W p l e RM s m args below meth c H1 locs1 (cells + mc) (slots + ms) Q (F0 m (pc + 3) ls (.ref (Z.2.1 i) :: rest))) : W p l e RM s m args below meth c H locs cells slots Q (F0 m pc ls st0) :=
  va_callq hr hS (fun _ _ h => h) (fun _ h => h) (fun r u t H1 locs1 ht _ hp hB _ _ hS1 => by
    obtain ⟨i, rfl, hi, ho⟩ := hp
    exact kk i u H1 locs1 hi ho (by rw [← ht]; exact hB) hS1)
theorem m_rets {post : Nat → Mm → Prop} (hx : p.tables.exec = Jvm.exec) (hb : c.code = cc) (hr : meth.sig.returnType = some (.object "java/lang/String")) (hlk : meth.locks = false) {i : Nat} (hi : i < 8) (hM : mm D cA bs M H) (hS : va_S (Ab bs) s.heap H locs) (hp : post i M) (hdg : decode cc pc = .ok (.areturn, 1)) : W p l e RM s m args below meth c H locs cells slots (MQ below (QS D cA bs Z post) args s cells slots (Ab bs)) (F0 m pc ls [.ref (Z.2.1 i)]) :=
  W.aret hx hb hr (Or.inl ⟨_, rfl⟩) (Or.inr ⟨_, rfl⟩) (fun t ht _ => ⟨⟨some (Z.2.1 i), M, rfl, ⟨i, rfl, hi, hp⟩, (show mm D cA bs M t.heap by rw [ht]; exact hM)⟩, hS.F ht⟩) hS.2.2 hdg
theorem m_retn {post : Int32 → Mm → Prop} (hx : p.tables.exec = Jvm.exec) (hb : c.code = cc) {ty : FieldType} (hr : meth.sig.returnType = some ty) (hlk : meth.locks = false) {v : Int32} (hv : narrow ty (.int v) = .int v) (hM : mm D cA bs M H) (hS : va_S (Ab bs) s.heap H locs) (hp : post v M) (hdg : decode cc pc = .ok (.ireturn, 1)) : W p l e RM s m args below meth c H locs cells slots (MQ below (QI D cA bs post) args s cells slots (Ab bs)) (F0 m pc ls [.int v]) :=
  W.zret (v := v) hx hb hr hv (fun t ht _ => ⟨⟨v, M, rfl, hp, (show mm D cA bs M t.heap by rw [ht]; exact hM)⟩, hS.F ht⟩) hS.2.2 hdg
end MS
theorem cs_J0_335 : CSV RJ0 335 yJ0_coder_7d493 cJ0_coder_7d493 1 (some .byte) 0 := ⟨(List.forall_mem_cons.mpr ⟨gw_of 576 (by decide +kernel) (by decide +kernel), (List.forall_mem_cons.mpr ⟨gw_of 577 (by decide +kernel) (by decide +kernel), (List.forall_mem_cons.mpr ⟨gw_of 578 (by decide +kernel) (by decide +kernel), (List.forall_mem_cons.mpr ⟨gw_of 15 (by decide +kernel) (by decide +kernel), (List.forall_mem_cons.mpr ⟨gw_of 579 (by decide +kernel) (by decide +kernel), (fun _ h => absurd h List.not_mem_nil)⟩)⟩)⟩)⟩)⟩), by decide +kernel, by decide +kernel, by decide +kernel⟩
theorem cs_J0_492 : CSV RJ0 492 yJ0_isLatin1_aae02 cJ0_isLatin1_aae02 1 (some .boolean) 0 := ⟨(List.forall_mem_cons.mpr ⟨gw_of 586 (by decide +kernel) (by decide +kernel), (List.forall_mem_cons.mpr ⟨gw_of 587 (by decide +kernel) (by decide +kernel), (List.forall_mem_cons.mpr ⟨gw_of 588 (by decide +kernel) (by decide +kernel), (List.forall_mem_cons.mpr ⟨gw_of 15 (by decide +kernel) (by decide +kernel), (List.forall_mem_cons.mpr ⟨gw_of 589 (by decide +kernel) (by decide +kernel), (fun _ h => absurd h List.not_mem_nil)⟩)⟩)⟩)⟩)⟩), by decide +kernel, by decide +kernel, by decide +kernel⟩
theorem cs_J0_495 : CSS RJ0 495 yJ1_charAt_3b067 cJ1_charAt_3b067 2 (some .char) 2 := ⟨(List.forall_mem_cons.mpr ⟨gw_of 590 (by decide +kernel) (by decide +kernel), (List.forall_mem_cons.mpr ⟨gw_of 591 (by decide +kernel) (by decide +kernel), (List.forall_mem_cons.mpr ⟨gw_of 16 (by decide +kernel) (by decide +kernel), (List.forall_mem_cons.mpr ⟨gw_of 592 (by decide +kernel) (by decide +kernel), (fun _ h => absurd h List.not_mem_nil)⟩)⟩)⟩)⟩), by decide +kernel, by decide +kernel, by decide +kernel⟩
theorem cs_J1_9 : CSS RJ1 9 yJ0_checkIndex_df160 cJ0_checkIndex_df160 2 none 2 := ⟨(List.forall_mem_cons.mpr ⟨gw_of 593 (by decide +kernel) (by decide +kernel), (List.forall_mem_cons.mpr ⟨gw_of 594 (by decide +kernel) (by decide +kernel), (List.forall_mem_cons.mpr ⟨gw_of 15 (by decide +kernel) (by decide +kernel), (List.forall_mem_cons.mpr ⟨gw_of 595 (by decide +kernel) (by decide +kernel), (fun _ h => absurd h List.not_mem_nil)⟩)⟩)⟩)⟩), by decide +kernel, by decide +kernel, by decide +kernel⟩
theorem cs_J0_1059 : CSS RJ0 1059 yJ3_checkIndex_8e157 cJ3_checkIndex_8e157 3 (some .int) 3 := ⟨(List.forall_mem_cons.mpr ⟨gw_of 598 (by decide +kernel) (by decide +kernel), (List.forall_mem_cons.mpr ⟨gw_of 599 (by decide +kernel) (by decide +kernel), (List.forall_mem_cons.mpr ⟨gw_of 17 (by decide +kernel) (by decide +kernel), (List.forall_mem_cons.mpr ⟨gw_of 600 (by decide +kernel) (by decide +kernel), (fun _ h => absurd h List.not_mem_nil)⟩)⟩)⟩)⟩), by decide +kernel, by decide +kernel, by decide +kernel⟩
theorem cs_X5_134 : CSV RX5 134 yJ0_length_8abf5 cJ0_length_8abf5 1 (some .int) 0 := ⟨(List.forall_mem_cons.mpr ⟨gw_of 572 (by decide +kernel) (by decide +kernel), (List.forall_mem_cons.mpr ⟨gw_of 573 (by decide +kernel) (by decide +kernel), (List.forall_mem_cons.mpr ⟨gw_of 574 (by decide +kernel) (by decide +kernel), (List.forall_mem_cons.mpr ⟨gw_of 15 (by decide +kernel) (by decide +kernel), (List.forall_mem_cons.mpr ⟨gw_of 575 (by decide +kernel) (by decide +kernel), (fun _ h => absurd h List.not_mem_nil)⟩)⟩)⟩)⟩)⟩), by decide +kernel, by decide +kernel, by decide +kernel⟩
theorem cs_X5_140 : CSV RX5 140 yJ0_charAt_5068e cJ0_charAt_5068e 2 (some .char) 1 := ⟨(List.forall_mem_cons.mpr ⟨gw_of 582 (by decide +kernel) (by decide +kernel), (List.forall_mem_cons.mpr ⟨gw_of 583 (by decide +kernel) (by decide +kernel), (List.forall_mem_cons.mpr ⟨gw_of 584 (by decide +kernel) (by decide +kernel), (List.forall_mem_cons.mpr ⟨gw_of 15 (by decide +kernel) (by decide +kernel), (List.forall_mem_cons.mpr ⟨gw_of 585 (by decide +kernel) (by decide +kernel), (fun _ h => absurd h List.not_mem_nil)⟩)⟩)⟩)⟩)⟩), by decide +kernel, by decide +kernel, by decide +kernel⟩
theorem dJ3_checkIndex_8e157_0 : decode cJ3_checkIndex_8e157 0 = .ok (.iload_n 0, 1) := by decide +kernel
theorem dJ3_checkIndex_8e157_1 : decode cJ3_checkIndex_8e157 1 = .ok (.ifCond .lt 8, 3) := by decide +kernel
theorem dJ3_checkIndex_8e157_4 : decode cJ3_checkIndex_8e157 4 = .ok (.iload_n 0, 1) := by decide +kernel
theorem dJ3_checkIndex_8e157_5 : decode cJ3_checkIndex_8e157 5 = .ok (.iload_n 1, 1) := by decide +kernel
theorem dJ3_checkIndex_8e157_6 : decode cJ3_checkIndex_8e157 6 = .ok (.if_icmp .lt 10, 3) := by decide +kernel
theorem dJ3_checkIndex_8e157_9 : decode cJ3_checkIndex_8e157 9 = .ok (.aload_n 2, 1) := by decide +kernel
theorem dJ3_checkIndex_8e157_10 : decode cJ3_checkIndex_8e157 10 = .ok (.iload_n 0, 1) := by decide +kernel
theorem dJ3_checkIndex_8e157_11 : decode cJ3_checkIndex_8e157 11 = .ok (.iload_n 1, 1) := by decide +kernel
theorem dJ3_checkIndex_8e157_12 : decode cJ3_checkIndex_8e157 12 = .ok (.invokestatic 95, 3) := by decide +kernel
theorem dJ3_checkIndex_8e157_15 : decode cJ3_checkIndex_8e157 15 = .ok (.athrow, 1) := by decide +kernel
theorem dJ3_checkIndex_8e157_16 : decode cJ3_checkIndex_8e157 16 = .ok (.iload_n 0, 1) := by decide +kernel
theorem dJ3_checkIndex_8e157_17 : decode cJ3_checkIndex_8e157 17 = .ok (.ireturn, 1) := by decide +kernel
def w_J3_checkIndex_8e157 (a1 : Int32) (a2 : Int32) (post : Int32 → Prop) : Prop := (a1 < 0 → False) ∧ (¬ a1 < 0 → (a1 < a2 → post a1) ∧ (¬ a1 < a2 → False))
set_option maxRecDepth 100000 in
set_option maxHeartbeats 4000000 in
theorem c_J3_checkIndex_8e157 {l : Launch} {D : va_G} {cA : Nat → ClassId} {Z : mZ} {bs : Ad} {n : Nat} {K : mK} {R : mR} {I : mI} {L : mL} {a1 : Int32} {a2 : Int32} {v : Value} {post : Int32 → Prop} (hv9 : v = Value.null ∨ ∃ t, v = Value.ref t) (hw : w_J3_checkIndex_8e157 a1 a2 post) : Met l yJ3_checkIndex_8e157 (.code yJ3_checkIndex_8e157 cJ3_checkIndex_8e157 3 (some .int) :: gw) ({ frames := 0, cells := 0, slots := 0, locals := 0 } : Room) (PreM D cA Z bs (n, K, R, I, L) [.int a1, .int a2, v]) (QI D cA bs (fun r u => u = (n, K, R, I, L) ∧ post r)) 0 0 (Ab bs) := by
  rcases hv9 with rfl | ⟨t9, rfl⟩
  all_goals
    refine m_met (by decide) (Nat.le_of_ble_eq_true rfl) (fun p e s m below meth c ls E hr hlk hM hS hl => ?_)
    have E : Ev p s m _ c cJ3_checkIndex_8e157 3 RJ3 D cA Z bs := E
    have hl : lv_has ls 3 [(0, .int a1), (1, .int a2), (2, _)] := hl
    have hx := E.1.1
    have hb := E.1.2.1
    generalize hHe : s.heap = H at hM ⊢
    have hS : va_S (Ab bs) s.heap H [] := by rw [← hHe]; exact va_S.rf
    clear hHe
    refine lv_iload_n hx hb dJ3_checkIndex_8e157_0 rfl (lv_at hl 0 rfl) ?_
    refine lv_if_lt (tgt := 9) hx hb dJ3_checkIndex_8e157_1 (by decide) (fun cq => ?_) (fun cq => ?_)
    · have hw := hw.1 cq
      exact False.elim hw
    · have hw := hw.2 cq
      refine lv_iload_n hx hb dJ3_checkIndex_8e157_4 rfl (lv_at hl 0 rfl) ?_
      refine lv_iload_n hx hb dJ3_checkIndex_8e157_5 rfl (lv_at hl 1 rfl) ?_
      refine lv_icmp_lt (tgt := 16) hx hb dJ3_checkIndex_8e157_6 (by decide) (fun cq => ?_) (fun cq => ?_)
      · have hw := hw.1 cq
        refine lv_iload_n hx hb dJ3_checkIndex_8e157_16 rfl (lv_at hl 0 rfl) ?_
        exact m_reti hx hb hr hlk hM hS ⟨rfl, hw⟩ dJ3_checkIndex_8e157_17
      · have hw := hw.2 cq
        exact False.elim hw
theorem dJ0_checkIndex_df160_0 : decode cJ0_checkIndex_df160 0 = .ok (.iload_n 0, 1) := by decide +kernel
theorem dJ0_checkIndex_df160_1 : decode cJ0_checkIndex_df160 1 = .ok (.iload_n 1, 1) := by decide +kernel
theorem dJ0_checkIndex_df160_2 : decode cJ0_checkIndex_df160 2 = .ok (.getstatic 1053, 3) := by decide +kernel
theorem dJ0_checkIndex_df160_5 : decode cJ0_checkIndex_df160 5 = .ok (.invokestatic 1059, 3) := by decide +kernel
theorem dJ0_checkIndex_df160_8 : decode cJ0_checkIndex_df160 8 = .ok (.pop, 1) := by decide +kernel
theorem dJ0_checkIndex_df160_9 : decode cJ0_checkIndex_df160 9 = .ok (.return_, 1) := by decide +kernel
def w_J0_checkIndex_df160 (a1 : Int32) (a2 : Int32) (post : Prop) : Prop := w_J3_checkIndex_8e157 a1 a2 (fun r1 => post)
set_option maxRecDepth 100000 in
set_option maxHeartbeats 4000000 in
theorem c_J0_checkIndex_df160 {l : Launch} {D : va_G} {cA : Nat → ClassId} {Z : mZ} {bs : Ad} {n : Nat} {K : mK} {R : mR} {I : mI} {L : mL} {a1 : Int32} {a2 : Int32} {post : Prop}  (hw : w_J0_checkIndex_df160 a1 a2 post) : Met l yJ0_checkIndex_df160 (.code yJ0_checkIndex_df160 cJ0_checkIndex_df160 2 none :: gw) ({ frames := 1, cells := 0, slots := 0, locals := 22 } : Room) (PreM D cA Z bs (n, K, R, I, L) [.int a1, .int a2]) (QV D cA bs (fun u => u = (n, K, R, I, L) ∧ post)) 0 0 (Ab bs) := by
  refine m_met (by decide) (Nat.le_of_ble_eq_true rfl) (fun p e s m below meth c ls E hr hlk hM hS hl => ?_)
  have E : Ev p s m _ c cJ0_checkIndex_df160 2 RJ0 D cA Z bs := E
  have hl : lv_has ls 2 [(0, .int a1), (1, .int a2)] := hl
  have hx := E.1.1
  have hb := E.1.2.1
  generalize hHe : s.heap = H at hM ⊢
  have hS : va_S (Ab bs) s.heap H [] := by rw [← hHe]; exact va_S.rf
  clear hHe
  refine lv_iload_n hx hb dJ0_checkIndex_df160_0 rfl (lv_at hl 0 rfl) ?_
  refine lv_iload_n hx hb dJ0_checkIndex_df160_1 rfl (lv_at hl 1 rfl) ?_
  rcases E.2.2.2.2.2.2.2.1 with hz9 | ⟨t9, hz9⟩
  · refine va_gets (v := .null) hx hb hz9 hS E.1.2.2.2.1 (E.1.2.2.2.2 _ (gw_of 596 (by decide +kernel) (by decide +kernel))) (fun _ h9 => h9) dJ0_checkIndex_df160_2 ?_
    refine m_ci (m_runS E hM hS cs_J0_1059 (c_J3_checkIndex_8e157 (Or.inl rfl) hw) rfl rfl ⟨Nat.le_of_ble_eq_true rfl, Nat.le_of_ble_eq_true rfl⟩ rfl hl.1 rfl (Nat.le_of_ble_eq_true rfl) dJ0_checkIndex_df160_5 ⟨Nat.le_of_ble_eq_true rfl, Nat.le_of_ble_eq_true rfl⟩) hS (fun r1 u H locs hp hM hS => ?_)
    obtain ⟨rfl, hw⟩ := hp
    refine lv_pop hx hb dJ0_checkIndex_df160_8 rfl ?_
    exact m_retv hx hb hr hlk hM hS ⟨rfl, hw⟩ dJ0_checkIndex_df160_9
  · refine va_gets (v := .ref t9) hx hb hz9 hS E.1.2.2.2.1 (E.1.2.2.2.2 _ (gw_of 596 (by decide +kernel) (by decide +kernel))) (fun _ h9 => h9) dJ0_checkIndex_df160_2 ?_
    refine m_ci (m_runS E hM hS cs_J0_1059 (c_J3_checkIndex_8e157 (Or.inr ⟨_, rfl⟩) hw) rfl rfl ⟨Nat.le_of_ble_eq_true rfl, Nat.le_of_ble_eq_true rfl⟩ rfl hl.1 rfl (Nat.le_of_ble_eq_true rfl) dJ0_checkIndex_df160_5 ⟨Nat.le_of_ble_eq_true rfl, Nat.le_of_ble_eq_true rfl⟩) hS (fun r1 u H locs hp hM hS => ?_)
    obtain ⟨rfl, hw⟩ := hp
    refine lv_pop hx hb dJ0_checkIndex_df160_8 rfl ?_
    exact m_retv hx hb hr hlk hM hS ⟨rfl, hw⟩ dJ0_checkIndex_df160_9
theorem dJ1_charAt_3b067_0 : decode cJ1_charAt_3b067 0 = .ok (.iload_n 1, 1) := by decide +kernel
theorem dJ1_charAt_3b067_1 : decode cJ1_charAt_3b067 1 = .ok (.aload_n 0, 1) := by decide +kernel
theorem dJ1_charAt_3b067_2 : decode cJ1_charAt_3b067 2 = .ok (.arraylength, 1) := by decide +kernel
theorem dJ1_charAt_3b067_3 : decode cJ1_charAt_3b067 3 = .ok (.invokestatic 9, 3) := by decide +kernel
theorem dJ1_charAt_3b067_6 : decode cJ1_charAt_3b067 6 = .ok (.aload_n 0, 1) := by decide +kernel
theorem dJ1_charAt_3b067_7 : decode cJ1_charAt_3b067 7 = .ok (.iload_n 1, 1) := by decide +kernel
theorem dJ1_charAt_3b067_8 : decode cJ1_charAt_3b067 8 = .ok (.baload, 1) := by decide +kernel
theorem dJ1_charAt_3b067_9 : decode cJ1_charAt_3b067 9 = .ok (.sipush 255, 3) := by decide +kernel
theorem dJ1_charAt_3b067_12 : decode cJ1_charAt_3b067 12 = .ok (.iand, 1) := by decide +kernel
theorem dJ1_charAt_3b067_13 : decode cJ1_charAt_3b067 13 = .ok (.i2c, 1) := by decide +kernel
theorem dJ1_charAt_3b067_14 : decode cJ1_charAt_3b067 14 = .ok (.ireturn, 1) := by decide +kernel
def w_J1_charAt_3b067 (a1 : Nat) (a2 : Int32) (post : Int32 → Prop) : Prop := w_J0_checkIndex_df160 a2 (Int32.ofNat (tb_len.getD a1 0)) (vp_in a2 (tb_len.getD a1 0) ∧ post (((((tb_byt.getD a1 []).getD a2.toNatClampNeg 0) &&& 255).toUInt32 % 65536).toInt32))
set_option maxRecDepth 100000 in
set_option maxHeartbeats 4000000 in
theorem c_J1_charAt_3b067 {l : Launch} {D : va_G} {cA : Nat → ClassId} {Z : mZ} {bs : Ad} {n : Nat} {K : mK} {R : mR} {I : mI} {L : mL} {a1 : Nat} {a2 : Int32} {post : Int32 → Prop} (ha1 : a1 < 8) (hw : w_J1_charAt_3b067 a1 a2 post) : Met l yJ1_charAt_3b067 (.code yJ1_charAt_3b067 cJ1_charAt_3b067 2 (some .char) :: gw) ({ frames := 2, cells := 0, slots := 0, locals := 43 } : Room) (PreM D cA Z bs (n, K, R, I, L) [.ref (Z.2.2 a1), .int a2]) (QI D cA bs (fun r u => u = (n, K, R, I, L) ∧ post r)) 0 0 (Ab bs) := by
  refine m_met (by decide) (Nat.le_of_ble_eq_true rfl) (fun p e s m below meth c ls E hr hlk hM hS hl => ?_)
  have E : Ev p s m _ c cJ1_charAt_3b067 2 RJ1 D cA Z bs := E
  have hl : lv_has ls 2 [(0, .ref (Z.2.2 a1)), (1, .int a2)] := hl
  have hx := E.1.1
  have hb := E.1.2.1
  generalize hHe : s.heap = H at hM ⊢
  have hS : va_S (Ab bs) s.heap H [] := by rw [← hHe]; exact va_S.rf
  clear hHe
  refine lv_iload_n hx hb dJ1_charAt_3b067_0 rfl (lv_at hl 1 rfl) ?_
  refine lv_aload_n hx hb dJ1_charAt_3b067_1 rfl (lv_at hl 0 rfl) ?_
  refine va_tlen hx hb (E.2.2.2.2.2.2.2.2.2.1.1 _ ha1).2.2.2 hS rfl dJ1_charAt_3b067_2 ?_
  refine m_cv (m_runS E hM hS cs_J1_9 (c_J0_checkIndex_df160  hw) rfl rfl ⟨Nat.le_of_ble_eq_true rfl, Nat.le_of_ble_eq_true rfl⟩ rfl hl.1 rfl (Nat.le_of_ble_eq_true rfl) dJ1_charAt_3b067_3 ⟨Nat.le_of_ble_eq_true rfl, Nat.le_of_ble_eq_true rfl⟩) hS (fun u H locs hp hM hS => ?_)
  obtain ⟨rfl, hw⟩ := hp
  refine lv_aload_n hx hb dJ1_charAt_3b067_6 rfl (lv_at hl 0 rfl) ?_
  refine lv_iload_n hx hb dJ1_charAt_3b067_7 rfl (lv_at hl 1 rfl) ?_
  obtain ⟨hv, hw⟩ := hw
  refine va_tb (f := fun j => .int ((tb_byt.getD a1 []).getD j 0)) hx hb (E.2.2.2.2.2.2.2.2.2.1.1 _ ha1).2.2.2 hS hv rfl dJ1_charAt_3b067_8 ?_
  refine lv_sipush (v := 255) hx hb dJ1_charAt_3b067_9 (by decide) ?_
  refine lv_iand hx hb dJ1_charAt_3b067_12 ?_
  refine lv_i2c hx hb dJ1_charAt_3b067_13 rfl ?_
  exact m_retn hx hb hr hlk (pk_nc _) hM hS ⟨rfl, hw⟩ dJ1_charAt_3b067_14
theorem dJ0_coder_7d493_0 : decode cJ0_coder_7d493 0 = .ok (.getstatic 38, 3) := by decide +kernel
theorem dJ0_coder_7d493_3 : decode cJ0_coder_7d493 3 = .ok (.ifCond .eq 10, 3) := by decide +kernel
theorem dJ0_coder_7d493_6 : decode cJ0_coder_7d493 6 = .ok (.aload_n 0, 1) := by decide +kernel
theorem dJ0_coder_7d493_7 : decode cJ0_coder_7d493 7 = .ok (.getfield 15, 3) := by decide +kernel
theorem dJ0_coder_7d493_10 : decode cJ0_coder_7d493 10 = .ok (.goto 4, 3) := by decide +kernel
theorem dJ0_coder_7d493_13 : decode cJ0_coder_7d493 13 = .ok (.iconst 1, 1) := by decide +kernel
theorem dJ0_coder_7d493_14 : decode cJ0_coder_7d493 14 = .ok (.ireturn, 1) := by decide +kernel
def w_J0_coder_7d493 (o : Nat) (post : Int32 → Prop) : Prop := post 0
set_option maxRecDepth 100000 in
set_option maxHeartbeats 4000000 in
theorem c_J0_coder_7d493 {l : Launch} {D : va_G} {cA : Nat → ClassId} {Z : mZ} {bs : Ad} {n : Nat} {K : mK} {R : mR} {I : mI} {L : mL} {o : Nat} {post : Int32 → Prop} (ho : o < 8) (hw : w_J0_coder_7d493 o post) : Met l yJ0_coder_7d493 (.code yJ0_coder_7d493 cJ0_coder_7d493 1 (some .byte) :: gw) ({ frames := 0, cells := 0, slots := 0, locals := 0 } : Room) (PreM D cA Z bs (n, K, R, I, L) [.ref (Z.2.1 o)]) (QI D cA bs (fun r u => u = (n, K, R, I, L) ∧ post r)) 0 0 (Ab bs) := by
  refine m_met (by decide) (Nat.le_of_ble_eq_true rfl) (fun p e s m below meth c ls E hr hlk hM hS hl => ?_)
  have E : Ev p s m _ c cJ0_coder_7d493 1 RJ0 D cA Z bs := E
  have hl : lv_has ls 1 [(0, .ref (Z.2.1 o))] := hl
  have hx := E.1.1
  have hb := E.1.2.1
  generalize hHe : s.heap = H at hM ⊢
  have hS : va_S (Ab bs) s.heap H [] := by rw [← hHe]; exact va_S.rf
  clear hHe
  refine va_gets (v := .int 1) hx hb E.2.2.2.2.2.2.1 hS E.1.2.2.2.1 (E.1.2.2.2.2 _ (gw_of 580 (by decide +kernel) (by decide +kernel))) (fun _ h9 => h9) dJ0_coder_7d493_0 ?_
  refine lv_if_eq (tgt := 13) hx hb dJ0_coder_7d493_3 (by decide) (fun cq => absurd cq (by decide)) (fun _ => ?_)
  refine lv_aload_n hx hb dJ0_coder_7d493_6 rfl (lv_at hl 0 rfl) ?_
  refine vk_getf hx hb (E.2.2.2.2.2.2.2.2.2.1.1 _ ho).2.1 hS E.1.2.2.2.1 (E.1.2.2.2.2 _ (gw_of 1896 (by decide +kernel) (by decide +kernel))) (fun _ h9 => h9) dJ0_coder_7d493_7 ?_
  refine lv_goto (tgt := 14) hx hb dJ0_coder_7d493_10 (by decide) ?_
  exact m_retn hx hb hr hlk rfl hM hS ⟨rfl, hw⟩ dJ0_coder_7d493_14
theorem dJ0_isLatin1_aae02_0 : decode cJ0_isLatin1_aae02 0 = .ok (.getstatic 38, 3) := by decide +kernel
theorem dJ0_isLatin1_aae02_3 : decode cJ0_isLatin1_aae02 3 = .ok (.ifCond .eq 14, 3) := by decide +kernel
theorem dJ0_isLatin1_aae02_6 : decode cJ0_isLatin1_aae02 6 = .ok (.aload_n 0, 1) := by decide +kernel
theorem dJ0_isLatin1_aae02_7 : decode cJ0_isLatin1_aae02 7 = .ok (.getfield 15, 3) := by decide +kernel
theorem dJ0_isLatin1_aae02_10 : decode cJ0_isLatin1_aae02 10 = .ok (.ifCond .ne 7, 3) := by decide +kernel
theorem dJ0_isLatin1_aae02_13 : decode cJ0_isLatin1_aae02 13 = .ok (.iconst 1, 1) := by decide +kernel
theorem dJ0_isLatin1_aae02_14 : decode cJ0_isLatin1_aae02 14 = .ok (.goto 4, 3) := by decide +kernel
theorem dJ0_isLatin1_aae02_17 : decode cJ0_isLatin1_aae02 17 = .ok (.iconst 0, 1) := by decide +kernel
theorem dJ0_isLatin1_aae02_18 : decode cJ0_isLatin1_aae02 18 = .ok (.ireturn, 1) := by decide +kernel
def w_J0_isLatin1_aae02 (o : Nat) (post : Bool → Prop) : Prop := post true
set_option maxRecDepth 100000 in
set_option maxHeartbeats 4000000 in
theorem c_J0_isLatin1_aae02 {l : Launch} {D : va_G} {cA : Nat → ClassId} {Z : mZ} {bs : Ad} {n : Nat} {K : mK} {R : mR} {I : mI} {L : mL} {o : Nat} {post : Bool → Prop} (ho : o < 8) (hw : w_J0_isLatin1_aae02 o post) : Met l yJ0_isLatin1_aae02 (.code yJ0_isLatin1_aae02 cJ0_isLatin1_aae02 1 (some .boolean) :: gw) ({ frames := 0, cells := 0, slots := 0, locals := 0 } : Room) (PreM D cA Z bs (n, K, R, I, L) [.ref (Z.2.1 o)]) (QI D cA bs (fun r u => ∃ b, r = bI b ∧ u = (n, K, R, I, L) ∧ post b)) 0 0 (Ab bs) := by
  refine m_met (by decide) (Nat.le_of_ble_eq_true rfl) (fun p e s m below meth c ls E hr hlk hM hS hl => ?_)
  have E : Ev p s m _ c cJ0_isLatin1_aae02 1 RJ0 D cA Z bs := E
  have hl : lv_has ls 1 [(0, .ref (Z.2.1 o))] := hl
  have hx := E.1.1
  have hb := E.1.2.1
  generalize hHe : s.heap = H at hM ⊢
  have hS : va_S (Ab bs) s.heap H [] := by rw [← hHe]; exact va_S.rf
  clear hHe
  refine va_gets (v := .int 1) hx hb E.2.2.2.2.2.2.1 hS E.1.2.2.2.1 (E.1.2.2.2.2 _ (gw_of 580 (by decide +kernel) (by decide +kernel))) (fun _ h9 => h9) dJ0_isLatin1_aae02_0 ?_
  refine lv_if_eq (tgt := 17) hx hb dJ0_isLatin1_aae02_3 (by decide) (fun cq => absurd cq (by decide)) (fun _ => ?_)
  refine lv_aload_n hx hb dJ0_isLatin1_aae02_6 rfl (lv_at hl 0 rfl) ?_
  refine vk_getf hx hb (E.2.2.2.2.2.2.2.2.2.1.1 _ ho).2.1 hS E.1.2.2.2.1 (E.1.2.2.2.2 _ (gw_of 1896 (by decide +kernel) (by decide +kernel))) (fun _ h9 => h9) dJ0_isLatin1_aae02_7 ?_
  refine lv_if_ne (tgt := 17) hx hb dJ0_isLatin1_aae02_10 (by decide) (fun cq => absurd cq (by decide)) (fun _ => ?_)
  refine lv_iconst (v := 1) hx hb dJ0_isLatin1_aae02_13 (by decide) ?_
  refine lv_goto (tgt := 18) hx hb dJ0_isLatin1_aae02_14 (by decide) ?_
  exact m_retz hx hb hr hlk (Or.inr rfl) hM hS ⟨true, rfl, rfl, hw⟩ dJ0_isLatin1_aae02_18
theorem dJ0_length_8abf5_0 : decode cJ0_length_8abf5 0 = .ok (.aload_n 0, 1) := by decide +kernel
theorem dJ0_length_8abf5_1 : decode cJ0_length_8abf5 1 = .ok (.getfield 9, 3) := by decide +kernel
theorem dJ0_length_8abf5_4 : decode cJ0_length_8abf5 4 = .ok (.arraylength, 1) := by decide +kernel
theorem dJ0_length_8abf5_5 : decode cJ0_length_8abf5 5 = .ok (.aload_n 0, 1) := by decide +kernel
theorem dJ0_length_8abf5_6 : decode cJ0_length_8abf5 6 = .ok (.invokevirtual 335, 3) := by decide +kernel
theorem dJ0_length_8abf5_9 : decode cJ0_length_8abf5 9 = .ok (.ishr, 1) := by decide +kernel
theorem dJ0_length_8abf5_10 : decode cJ0_length_8abf5 10 = .ok (.ireturn, 1) := by decide +kernel
def w_J0_length_8abf5 (o : Nat) (post : Int32 → Prop) : Prop := w_J0_coder_7d493 o (fun r1 => post ((Int32.ofNat (tb_len.getD o 0)) >>> (r1 &&& 31)))
set_option maxRecDepth 100000 in
set_option maxHeartbeats 4000000 in
theorem c_J0_length_8abf5 {l : Launch} {D : va_G} {cA : Nat → ClassId} {Z : mZ} {bs : Ad} {n : Nat} {K : mK} {R : mR} {I : mI} {L : mL} {o : Nat} {post : Int32 → Prop} (ho : o < 8) (hw : w_J0_length_8abf5 o post) : Met l yJ0_length_8abf5 (.code yJ0_length_8abf5 cJ0_length_8abf5 1 (some .int) :: gw) ({ frames := 1, cells := 0, slots := 0, locals := 20 } : Room) (PreM D cA Z bs (n, K, R, I, L) [.ref (Z.2.1 o)]) (QI D cA bs (fun r u => u = (n, K, R, I, L) ∧ post r)) 0 0 (Ab bs) := by
  refine m_met (by decide) (Nat.le_of_ble_eq_true rfl) (fun p e s m below meth c ls E hr hlk hM hS hl => ?_)
  have E : Ev p s m _ c cJ0_length_8abf5 1 RJ0 D cA Z bs := E
  have hl : lv_has ls 1 [(0, .ref (Z.2.1 o))] := hl
  have hx := E.1.1
  have hb := E.1.2.1
  generalize hHe : s.heap = H at hM ⊢
  have hS : va_S (Ab bs) s.heap H [] := by rw [← hHe]; exact va_S.rf
  clear hHe
  refine lv_aload_n hx hb dJ0_length_8abf5_0 rfl (lv_at hl 0 rfl) ?_
  refine vk_getf hx hb (E.2.2.2.2.2.2.2.2.2.1.1 _ ho).2.2.1 hS E.1.2.2.2.1 (E.1.2.2.2.2 _ (gw_of 1895 (by decide +kernel) (by decide +kernel))) (fun _ h9 => h9) dJ0_length_8abf5_1 ?_
  refine va_tlen hx hb (E.2.2.2.2.2.2.2.2.2.1.1 _ ho).2.2.2 hS rfl dJ0_length_8abf5_4 ?_
  refine lv_aload_n hx hb dJ0_length_8abf5_5 rfl (lv_at hl 0 rfl) ?_
  refine m_ci (m_runVS E hM hS cs_J0_335 ho (c_J0_coder_7d493 ho hw) rfl rfl ⟨Nat.le_of_ble_eq_true rfl, Nat.le_of_ble_eq_true rfl⟩ rfl hl.1 rfl (Nat.le_of_ble_eq_true rfl) dJ0_length_8abf5_6 ⟨Nat.le_of_ble_eq_true rfl, Nat.le_of_ble_eq_true rfl⟩) hS (fun r1 u H locs hp hM hS => ?_)
  obtain ⟨rfl, hw⟩ := hp
  refine lv_ishr hx hb dJ0_length_8abf5_9 ?_
  exact m_reti hx hb hr hlk hM hS ⟨rfl, hw⟩ dJ0_length_8abf5_10
theorem dJ0_charAt_5068e_0 : decode cJ0_charAt_5068e 0 = .ok (.aload_n 0, 1) := by decide +kernel
theorem dJ0_charAt_5068e_1 : decode cJ0_charAt_5068e 1 = .ok (.invokevirtual 492, 3) := by decide +kernel
theorem dJ0_charAt_5068e_4 : decode cJ0_charAt_5068e 4 = .ok (.ifCond .eq 12, 3) := by decide +kernel
theorem dJ0_charAt_5068e_7 : decode cJ0_charAt_5068e 7 = .ok (.aload_n 0, 1) := by decide +kernel
theorem dJ0_charAt_5068e_8 : decode cJ0_charAt_5068e 8 = .ok (.getfield 9, 3) := by decide +kernel
theorem dJ0_charAt_5068e_11 : decode cJ0_charAt_5068e 11 = .ok (.iload_n 1, 1) := by decide +kernel
theorem dJ0_charAt_5068e_12 : decode cJ0_charAt_5068e 12 = .ok (.invokestatic 495, 3) := by decide +kernel
theorem dJ0_charAt_5068e_15 : decode cJ0_charAt_5068e 15 = .ok (.ireturn, 1) := by decide +kernel
theorem dJ0_charAt_5068e_16 : decode cJ0_charAt_5068e 16 = .ok (.aload_n 0, 1) := by decide +kernel
theorem dJ0_charAt_5068e_17 : decode cJ0_charAt_5068e 17 = .ok (.getfield 9, 3) := by decide +kernel
theorem dJ0_charAt_5068e_20 : decode cJ0_charAt_5068e 20 = .ok (.iload_n 1, 1) := by decide +kernel
theorem dJ0_charAt_5068e_21 : decode cJ0_charAt_5068e 21 = .ok (.invokestatic 498, 3) := by decide +kernel
theorem dJ0_charAt_5068e_24 : decode cJ0_charAt_5068e 24 = .ok (.ireturn, 1) := by decide +kernel
def w_J0_charAt_5068e (o : Nat) (a1 : Int32) (post : Int32 → Prop) : Prop := w_J0_isLatin1_aae02 o (fun r1 => (r1 = false → False) ∧ (r1 = true → w_J1_charAt_3b067 o a1 (fun r2 => narrow .char (.int r2) = .int r2 ∧ post r2)))
set_option maxRecDepth 100000 in
set_option maxHeartbeats 4000000 in
theorem c_J0_charAt_5068e {l : Launch} {D : va_G} {cA : Nat → ClassId} {Z : mZ} {bs : Ad} {n : Nat} {K : mK} {R : mR} {I : mI} {L : mL} {o : Nat} {a1 : Int32} {post : Int32 → Prop} (ho : o < 8) (hw : w_J0_charAt_5068e o a1 post) : Met l yJ0_charAt_5068e (.code yJ0_charAt_5068e cJ0_charAt_5068e 2 (some .char) :: gw) ({ frames := 3, cells := 0, slots := 0, locals := 64 } : Room) (PreM D cA Z bs (n, K, R, I, L) [.ref (Z.2.1 o), .int a1]) (QI D cA bs (fun r u => u = (n, K, R, I, L) ∧ post r)) 0 0 (Ab bs) := by
  refine m_met (by decide) (Nat.le_of_ble_eq_true rfl) (fun p e s m below meth c ls E hr hlk hM hS hl => ?_)
  have E : Ev p s m _ c cJ0_charAt_5068e 2 RJ0 D cA Z bs := E
  have hl : lv_has ls 2 [(0, .ref (Z.2.1 o)), (1, .int a1)] := hl
  have hx := E.1.1
  have hb := E.1.2.1
  generalize hHe : s.heap = H at hM ⊢
  have hS : va_S (Ab bs) s.heap H [] := by rw [← hHe]; exact va_S.rf
  clear hHe
  refine lv_aload_n hx hb dJ0_charAt_5068e_0 rfl (lv_at hl 0 rfl) ?_
  refine m_ci (m_runVS E hM hS cs_J0_492 ho (c_J0_isLatin1_aae02 ho hw) rfl rfl ⟨Nat.le_of_ble_eq_true rfl, Nat.le_of_ble_eq_true rfl⟩ rfl hl.1 rfl (Nat.le_of_ble_eq_true rfl) dJ0_charAt_5068e_1 ⟨Nat.le_of_ble_eq_true rfl, Nat.le_of_ble_eq_true rfl⟩) hS (fun r9 u H locs hp hM hS => ?_)
  obtain ⟨r1, rfl, rfl, hw⟩ := hp
  refine lv_if_eq (tgt := 16) hx hb dJ0_charAt_5068e_4 (by decide) (fun cq => ?_) (fun cq => ?_)
  · have hw := hw.1 (bI_f cq)
    refine lv_aload_n hx hb dJ0_charAt_5068e_16 rfl (lv_at hl 0 rfl) ?_
    refine vk_getf hx hb (E.2.2.2.2.2.2.2.2.2.1.1 _ ho).2.2.1 hS E.1.2.2.2.1 (E.1.2.2.2.2 _ (gw_of 1895 (by decide +kernel) (by decide +kernel))) (fun _ h9 => h9) dJ0_charAt_5068e_17 ?_
    refine lv_iload_n hx hb dJ0_charAt_5068e_20 rfl (lv_at hl 1 rfl) ?_
    exact False.elim hw
  · have hw := hw.2 (bI_t cq)
    refine lv_aload_n hx hb dJ0_charAt_5068e_7 rfl (lv_at hl 0 rfl) ?_
    refine vk_getf hx hb (E.2.2.2.2.2.2.2.2.2.1.1 _ ho).2.2.1 hS E.1.2.2.2.1 (E.1.2.2.2.2 _ (gw_of 1895 (by decide +kernel) (by decide +kernel))) (fun _ h9 => h9) dJ0_charAt_5068e_8 ?_
    refine lv_iload_n hx hb dJ0_charAt_5068e_11 rfl (lv_at hl 1 rfl) ?_
    refine m_ci (m_runS E hM hS cs_J0_495 (c_J1_charAt_3b067 ho hw) rfl rfl ⟨Nat.le_of_ble_eq_true rfl, Nat.le_of_ble_eq_true rfl⟩ rfl hl.1 rfl (Nat.le_of_ble_eq_true rfl) dJ0_charAt_5068e_12 ⟨Nat.le_of_ble_eq_true rfl, Nat.le_of_ble_eq_true rfl⟩) hS (fun r2 u H locs hp hM hS => ?_)
    obtain ⟨rfl, hw⟩ := hp
    obtain ⟨hn9, hw⟩ := hw
    exact m_retn hx hb hr hlk hn9 hM hS ⟨rfl, hw⟩ dJ0_charAt_5068e_15
theorem dX5_wordOf_0 : decode cX5_wordOf 0 = .ok (.iload_n 0, 1) := by decide +kernel
theorem dX5_wordOf_1 : decode cX5_wordOf 1 = .ok (.tableswitch 64 0 6 #[43, 46, 49, 52, 55, 58, 61], 43) := by decide +kernel
theorem dX5_wordOf_44 : decode cX5_wordOf 44 = .ok (.ldc 119, 2) := by decide +kernel
theorem dX5_wordOf_46 : decode cX5_wordOf 46 = .ok (.areturn, 1) := by decide +kernel
theorem dX5_wordOf_47 : decode cX5_wordOf 47 = .ok (.ldc 120, 2) := by decide +kernel
theorem dX5_wordOf_49 : decode cX5_wordOf 49 = .ok (.areturn, 1) := by decide +kernel
theorem dX5_wordOf_50 : decode cX5_wordOf 50 = .ok (.ldc 122, 2) := by decide +kernel
theorem dX5_wordOf_52 : decode cX5_wordOf 52 = .ok (.areturn, 1) := by decide +kernel
theorem dX5_wordOf_53 : decode cX5_wordOf 53 = .ok (.ldc 124, 2) := by decide +kernel
theorem dX5_wordOf_55 : decode cX5_wordOf 55 = .ok (.areturn, 1) := by decide +kernel
theorem dX5_wordOf_56 : decode cX5_wordOf 56 = .ok (.ldc 126, 2) := by decide +kernel
theorem dX5_wordOf_58 : decode cX5_wordOf 58 = .ok (.areturn, 1) := by decide +kernel
theorem dX5_wordOf_59 : decode cX5_wordOf 59 = .ok (.ldc 128, 2) := by decide +kernel
theorem dX5_wordOf_61 : decode cX5_wordOf 61 = .ok (.areturn, 1) := by decide +kernel
theorem dX5_wordOf_62 : decode cX5_wordOf 62 = .ok (.ldc 130, 2) := by decide +kernel
theorem dX5_wordOf_64 : decode cX5_wordOf 64 = .ok (.areturn, 1) := by decide +kernel
theorem dX5_wordOf_65 : decode cX5_wordOf 65 = .ok (.ldc 132, 2) := by decide +kernel
theorem dX5_wordOf_67 : decode cX5_wordOf 67 = .ok (.areturn, 1) := by decide +kernel
def w_X5_wordOf (a1 : Int32) (post : Nat → Prop) : Prop := (a1 = 0 → post 0) ∧ (a1 = 1 → post 1) ∧ (a1 = 2 → post 2) ∧ (a1 = 3 → post 3) ∧ (a1 = 4 → post 4) ∧ (a1 = 5 → post 5) ∧ (a1 = 6 → post 6) ∧ (¬ a1 = 0 → ¬ a1 = 1 → ¬ a1 = 2 → ¬ a1 = 3 → ¬ a1 = 4 → ¬ a1 = 5 → ¬ a1 = 6 → post 7)
set_option maxRecDepth 100000 in
set_option maxHeartbeats 4000000 in
theorem c_X5_wordOf {l : Launch} {D : va_G} {cA : Nat → ClassId} {Z : mZ} {bs : Ad} {n : Nat} {K : mK} {R : mR} {I : mI} {L : mL} {a1 : Int32} {post : Nat → Prop}  (hw : w_X5_wordOf a1 post) : Met l yX5_wordOf (.code yX5_wordOf cX5_wordOf 1 (some (.object "java/lang/String")) :: gw) ({ frames := 0, cells := 0, slots := 0, locals := 0 } : Room) (PreM D cA Z bs (n, K, R, I, L) [.int a1]) (QS D cA bs Z (fun r u => u = (n, K, R, I, L) ∧ post r)) 0 0 (Ab bs) := by
  refine m_met (by decide) (Nat.le_of_ble_eq_true rfl) (fun p e s m below meth c ls E hr hlk hM hS hl => ?_)
  have E : Ev p s m _ c cX5_wordOf 1 RX5 D cA Z bs := E
  have hl : lv_has ls 1 [(0, .int a1)] := hl
  have hx := E.1.1
  have hb := E.1.2.1
  generalize hHe : s.heap = H at hM ⊢
  have hS : va_S (Ab bs) s.heap H [] := by rw [← hHe]; exact va_S.rf
  clear hHe
  refine lv_iload_n hx hb dX5_wordOf_0 rfl (lv_at hl 0 rfl) ?_
  by_cases cq0 : a1 = 0
  · have hw := hw.1 cq0
    refine lv_tableIn (tgt := 44) hx hb dX5_wordOf_1 (by rw [cq0]; decide) (by rw [cq0]; decide) (by rw [cq0]; rfl) (by decide) ?_
    refine va_ldcS (q := Z.2.1 0) hx hb E.1.2.2.2.1 (E.2.2.2.2.2.2.2.2.1 0 (by decide)) dX5_wordOf_44 ?_
    exact m_rets hx hb hr hlk (i := 0) (by decide) hM hS ⟨rfl, hw⟩ dX5_wordOf_46
  by_cases cq1 : a1 = 1
  · have hw := hw.2.1 cq1
    refine lv_tableIn (tgt := 47) hx hb dX5_wordOf_1 (by rw [cq1]; decide) (by rw [cq1]; decide) (by rw [cq1]; rfl) (by decide) ?_
    refine va_ldcS (q := Z.2.1 1) hx hb E.1.2.2.2.1 (E.2.2.2.2.2.2.2.2.1 1 (by decide)) dX5_wordOf_47 ?_
    exact m_rets hx hb hr hlk (i := 1) (by decide) hM hS ⟨rfl, hw⟩ dX5_wordOf_49
  by_cases cq2 : a1 = 2
  · have hw := hw.2.2.1 cq2
    refine lv_tableIn (tgt := 50) hx hb dX5_wordOf_1 (by rw [cq2]; decide) (by rw [cq2]; decide) (by rw [cq2]; rfl) (by decide) ?_
    refine va_ldcS (q := Z.2.1 2) hx hb E.1.2.2.2.1 (E.2.2.2.2.2.2.2.2.1 2 (by decide)) dX5_wordOf_50 ?_
    exact m_rets hx hb hr hlk (i := 2) (by decide) hM hS ⟨rfl, hw⟩ dX5_wordOf_52
  by_cases cq3 : a1 = 3
  · have hw := hw.2.2.2.1 cq3
    refine lv_tableIn (tgt := 53) hx hb dX5_wordOf_1 (by rw [cq3]; decide) (by rw [cq3]; decide) (by rw [cq3]; rfl) (by decide) ?_
    refine va_ldcS (q := Z.2.1 3) hx hb E.1.2.2.2.1 (E.2.2.2.2.2.2.2.2.1 3 (by decide)) dX5_wordOf_53 ?_
    exact m_rets hx hb hr hlk (i := 3) (by decide) hM hS ⟨rfl, hw⟩ dX5_wordOf_55
  by_cases cq4 : a1 = 4
  · have hw := hw.2.2.2.2.1 cq4
    refine lv_tableIn (tgt := 56) hx hb dX5_wordOf_1 (by rw [cq4]; decide) (by rw [cq4]; decide) (by rw [cq4]; rfl) (by decide) ?_
    refine va_ldcS (q := Z.2.1 4) hx hb E.1.2.2.2.1 (E.2.2.2.2.2.2.2.2.1 4 (by decide)) dX5_wordOf_56 ?_
    exact m_rets hx hb hr hlk (i := 4) (by decide) hM hS ⟨rfl, hw⟩ dX5_wordOf_58
  by_cases cq5 : a1 = 5
  · have hw := hw.2.2.2.2.2.1 cq5
    refine lv_tableIn (tgt := 59) hx hb dX5_wordOf_1 (by rw [cq5]; decide) (by rw [cq5]; decide) (by rw [cq5]; rfl) (by decide) ?_
    refine va_ldcS (q := Z.2.1 5) hx hb E.1.2.2.2.1 (E.2.2.2.2.2.2.2.2.1 5 (by decide)) dX5_wordOf_59 ?_
    exact m_rets hx hb hr hlk (i := 5) (by decide) hM hS ⟨rfl, hw⟩ dX5_wordOf_61
  by_cases cq6 : a1 = 6
  · have hw := hw.2.2.2.2.2.2.1 cq6
    refine lv_tableIn (tgt := 62) hx hb dX5_wordOf_1 (by rw [cq6]; decide) (by rw [cq6]; decide) (by rw [cq6]; rfl) (by decide) ?_
    refine va_ldcS (q := Z.2.1 6) hx hb E.1.2.2.2.1 (E.2.2.2.2.2.2.2.2.1 6 (by decide)) dX5_wordOf_62 ?_
    exact m_rets hx hb hr hlk (i := 6) (by decide) hM hS ⟨rfl, hw⟩ dX5_wordOf_64
  have hw := hw.2.2.2.2.2.2.2 cq0 cq1 cq2 cq3 cq4 cq5 cq6
  refine lv_tableOut (tgt := 65) hx hb dX5_wordOf_1 (by have hn0 := lv_neT cq0 (a := 0) (by decide); have hn1 := lv_neT cq1 (a := 1) (by decide); have hn2 := lv_neT cq2 (a := 2) (by decide); have hn3 := lv_neT cq3 (a := 3) (by decide); have hn4 := lv_neT cq4 (a := 4) (by decide); have hn5 := lv_neT cq5 (a := 5) (by decide); have hn6 := lv_neT cq6 (a := 6) (by decide); omega) (by decide) ?_
  refine va_ldcS (q := Z.2.1 7) hx hb E.1.2.2.2.1 (E.2.2.2.2.2.2.2.2.1 7 (by decide)) dX5_wordOf_65 ?_
  exact m_rets hx hb hr hlk (i := 7) (by decide) hM hS ⟨rfl, hw⟩ dX5_wordOf_67
theorem dX5_tokenIs_0 : decode cX5_tokenIs 0 = .ok (.aload_n 0, 1) := by decide +kernel
theorem dX5_tokenIs_1 : decode cX5_tokenIs 1 = .ok (.getfield 43, 3) := by decide +kernel
theorem dX5_tokenIs_4 : decode cX5_tokenIs 4 = .ok (.aload_n 0, 1) := by decide +kernel
theorem dX5_tokenIs_5 : decode cX5_tokenIs 5 = .ok (.getfield 95, 3) := by decide +kernel
theorem dX5_tokenIs_8 : decode cX5_tokenIs 8 = .ok (.isub, 1) := by decide +kernel
theorem dX5_tokenIs_9 : decode cX5_tokenIs 9 = .ok (.aload_n 1, 1) := by decide +kernel
theorem dX5_tokenIs_10 : decode cX5_tokenIs 10 = .ok (.invokevirtual 134, 3) := by decide +kernel
theorem dX5_tokenIs_13 : decode cX5_tokenIs 13 = .ok (.if_icmp .eq 5, 3) := by decide +kernel
theorem dX5_tokenIs_16 : decode cX5_tokenIs 16 = .ok (.iconst 0, 1) := by decide +kernel
theorem dX5_tokenIs_17 : decode cX5_tokenIs 17 = .ok (.ireturn, 1) := by decide +kernel
theorem dX5_tokenIs_18 : decode cX5_tokenIs 18 = .ok (.iconst 0, 1) := by decide +kernel
theorem dX5_tokenIs_19 : decode cX5_tokenIs 19 = .ok (.istore_n 2, 1) := by decide +kernel
theorem dX5_tokenIs_20 : decode cX5_tokenIs 20 = .ok (.iload_n 2, 1) := by decide +kernel
theorem dX5_tokenIs_21 : decode cX5_tokenIs 21 = .ok (.aload_n 1, 1) := by decide +kernel
theorem dX5_tokenIs_22 : decode cX5_tokenIs 22 = .ok (.invokevirtual 134, 3) := by decide +kernel
theorem dX5_tokenIs_25 : decode cX5_tokenIs 25 = .ok (.if_icmp .ge 30, 3) := by decide +kernel
theorem dX5_tokenIs_28 : decode cX5_tokenIs 28 = .ok (.aload_n 0, 1) := by decide +kernel
theorem dX5_tokenIs_29 : decode cX5_tokenIs 29 = .ok (.getfield 29, 3) := by decide +kernel
theorem dX5_tokenIs_32 : decode cX5_tokenIs 32 = .ok (.aload_n 0, 1) := by decide +kernel
theorem dX5_tokenIs_33 : decode cX5_tokenIs 33 = .ok (.getfield 95, 3) := by decide +kernel
theorem dX5_tokenIs_36 : decode cX5_tokenIs 36 = .ok (.iload_n 2, 1) := by decide +kernel
theorem dX5_tokenIs_37 : decode cX5_tokenIs 37 = .ok (.iadd, 1) := by decide +kernel
theorem dX5_tokenIs_38 : decode cX5_tokenIs 38 = .ok (.baload, 1) := by decide +kernel
theorem dX5_tokenIs_39 : decode cX5_tokenIs 39 = .ok (.aload_n 1, 1) := by decide +kernel
theorem dX5_tokenIs_40 : decode cX5_tokenIs 40 = .ok (.iload_n 2, 1) := by decide +kernel
theorem dX5_tokenIs_41 : decode cX5_tokenIs 41 = .ok (.invokevirtual 140, 3) := by decide +kernel
theorem dX5_tokenIs_44 : decode cX5_tokenIs 44 = .ok (.if_icmp .eq 5, 3) := by decide +kernel
theorem dX5_tokenIs_47 : decode cX5_tokenIs 47 = .ok (.iconst 0, 1) := by decide +kernel
theorem dX5_tokenIs_48 : decode cX5_tokenIs 48 = .ok (.ireturn, 1) := by decide +kernel
theorem dX5_tokenIs_49 : decode cX5_tokenIs 49 = .ok (.iinc 2 1, 3) := by decide +kernel
theorem dX5_tokenIs_52 : decode cX5_tokenIs 52 = .ok (.goto (-32), 3) := by decide +kernel
theorem dX5_tokenIs_55 : decode cX5_tokenIs 55 = .ok (.iconst 1, 1) := by decide +kernel
theorem dX5_tokenIs_56 : decode cX5_tokenIs 56 = .ok (.ireturn, 1) := by decide +kernel
def w_X5_tokenIs_20 (I : mI) (o : Nat) (otp : Nat) (a1 : Nat) (post : Bool → Prop) (v2 : Int32) : Prop := ∀ ZZ : (Int32 → Prop), (∀ (v2 : Int32), (w_J0_length_8abf5 a1 (fun r2 => (r2 ≤ v2 → post true) ∧ (¬ r2 ≤ v2 → vp_in ((I o 8) + v2) 600 ∧ w_J0_charAt_5068e a1 v2 (fun r3 => ((I otp ((I o 8) + v2).toNatClampNeg) = r3 → ∀ x4, x4 = v2 + 1 → ZZ x4) ∧ (¬ (I otp ((I o 8) + v2).toNatClampNeg) = r3 → post false))))) → ZZ v2) → ZZ v2
set_option maxRecDepth 100000 in
set_option maxHeartbeats 4000000 in
theorem s_X5_tokenIs_20 {p : Program} {l : Launch} {e : Env} {s : State} {m : MethodId} {args : Array Value} {below : List Frame} {meth : Method} {c : Code} {D : va_G} {cA : Nat → ClassId} {Z : mZ} {bs : Ad} {n : Nat} {K : mK} {R : mR} {I : mI} {L : mL} (E : Ev p s m args c cX5_tokenIs 3 RX5 D cA Z bs) (hr : meth.sig.returnType = (some .boolean)) (hlk : meth.locks = false) {o : Nat} {otp : Nat} {a1 : Nat} (ho : isX5 K R o otp) (ha1 : a1 < 8) {post : Bool → Prop} {v2 : Int32} {H : Heap} {locs : List Loc} {ls : Array Slot} (hw : w_X5_tokenIs_20 I o otp a1 post v2) (hM : mm D cA bs (n, K, R, I, L) H) (hS : va_S (Ab bs) s.heap H locs) (hl : lv_has ls 3 [(0, .ref (ad bs o)), (1, .ref (Z.2.1 a1)), (2, .int v2)]) : W p l e ({ frames := 4, cells := 0, slots := 0, locals := 85 } : Room) s m args below meth c H locs 0 0 (MQ below (QI D cA bs (fun r u => ∃ b, r = bI b ∧ u = (n, K, R, I, L) ∧ post b)) args s 0 0 (Ab bs)) (F0 m 20 ls []) := by
  have hx := E.1.1
  have hb := E.1.2.1
  refine hw (fun v2 => ∀ (H : Heap) (locs : List Loc) (ls : Array Slot), mm D cA bs (n, K, R, I, L) H → va_S (Ab bs) s.heap H locs → lv_has ls 3 [(0, .ref (ad bs o)), (1, .ref (Z.2.1 a1)), (2, .int v2)] → W p l e ({ frames := 4, cells := 0, slots := 0, locals := 85 } : Room) s m args below meth c H locs 0 0 (MQ below (QI D cA bs (fun r u => ∃ b, r = bI b ∧ u = (n, K, R, I, L) ∧ post b)) args s 0 0 (Ab bs)) (F0 m 20 ls [])) ?_ H locs ls hM hS hl
  clear hw hM hS hl
  intro v2 hw H locs ls hM hS hl
  refine lv_iload_n hx hb dX5_tokenIs_20 rfl (lv_at hl 2 rfl) ?_
  refine lv_aload_n hx hb dX5_tokenIs_21 rfl (lv_at hl 1 rfl) ?_
  refine m_ci (m_runVS E hM hS cs_X5_134 ha1 (c_J0_length_8abf5 ha1 hw) rfl rfl ⟨Nat.le_of_ble_eq_true rfl, Nat.le_of_ble_eq_true rfl⟩ rfl hl.1 rfl (Nat.le_of_ble_eq_true rfl) dX5_tokenIs_22 ⟨Nat.le_of_ble_eq_true rfl, Nat.le_of_ble_eq_true rfl⟩) hS (fun r2 u H locs hp hM hS => ?_)
  obtain ⟨rfl, hw⟩ := hp
  refine lv_icmp_ge (tgt := 55) hx hb dX5_tokenIs_25 (by decide) (fun cq => ?_) (fun cq => ?_)
  · have hw := hw.1 cq
    refine lv_iconst (v := 1) hx hb dX5_tokenIs_55 (by decide) ?_
    exact m_retz hx hb hr hlk (Or.inr rfl) hM hS ⟨true, rfl, rfl, hw⟩ dX5_tokenIs_56
  · have hw := hw.2 cq
    refine lv_aload_n hx hb dX5_tokenIs_28 rfl (lv_at hl 0 rfl) ?_
    refine m_getr E hM fs_X5_29 ho.1.1 ho.2.2.2.1 dX5_tokenIs_29 ?_
    refine lv_aload_n hx hb dX5_tokenIs_32 rfl (lv_at hl 0 rfl) ?_
    refine m_geti E hM fs_X5_95 ho.1.1 dX5_tokenIs_33 ?_
    refine lv_iload_n hx hb dX5_tokenIs_36 rfl (lv_at hl 2 rfl) ?_
    refine lv_iadd hx hb dX5_tokenIs_37 ?_
    obtain ⟨hv, hw⟩ := hw
    refine m_bald E hM ho.2.2.2.2 hv dX5_tokenIs_38 ?_
    refine lv_aload_n hx hb dX5_tokenIs_39 rfl (lv_at hl 1 rfl) ?_
    refine lv_iload_n hx hb dX5_tokenIs_40 rfl (lv_at hl 2 rfl) ?_
    refine m_ci (m_runVS E hM hS cs_X5_140 ha1 (c_J0_charAt_5068e ha1 hw) rfl rfl ⟨Nat.le_of_ble_eq_true rfl, Nat.le_of_ble_eq_true rfl⟩ rfl hl.1 rfl (Nat.le_of_ble_eq_true rfl) dX5_tokenIs_41 ⟨Nat.le_of_ble_eq_true rfl, Nat.le_of_ble_eq_true rfl⟩) hS (fun r3 u H locs hp hM hS => ?_)
    obtain ⟨rfl, hw⟩ := hp
    refine lv_icmp_eq (tgt := 49) hx hb dX5_tokenIs_44 (by decide) (fun cq => ?_) (fun cq => ?_)
    · have hw := hw.1 cq
      obtain ⟨x4, ex4⟩ : ∃ y : Int32, y = v2 + 1 := ⟨_, rfl⟩
      have hw := hw x4 ex4
      refine lv_iinc (v := x4) (lv' := [(2, .int x4), (0, .ref (ad bs o)), (1, .ref (Z.2.1 a1))]) hx hb dX5_tokenIs_49 hl (k := 2) rfl (by rw [ex4]; rfl) (by decide) rfl (fun ls hl => ?_)
      refine lv_goto (tgt := 20) hx hb dX5_tokenIs_52 (by decide) ?_
      exact hw H locs ls  hM hS (lv_sub hl [1, 2, 0] rfl)
    · have hw := hw.2 cq
      refine lv_iconst (v := 0) hx hb dX5_tokenIs_47 (by decide) ?_
      exact m_retz hx hb hr hlk (Or.inl rfl) hM hS ⟨false, rfl, rfl, hw⟩ dX5_tokenIs_48
def w_X5_tokenIs (I : mI) (o : Nat) (otp : Nat) (a1 : Nat) (post : Bool → Prop) : Prop := w_J0_length_8abf5 a1 (fun r1 => (((I o 6) - (I o 8)) = r1 → (w_X5_tokenIs_20 I o otp a1 post) 0) ∧ (¬ ((I o 6) - (I o 8)) = r1 → post false))
set_option maxRecDepth 100000 in
set_option maxHeartbeats 4000000 in
theorem c_X5_tokenIs {l : Launch} {D : va_G} {cA : Nat → ClassId} {Z : mZ} {bs : Ad} {n : Nat} {K : mK} {R : mR} {I : mI} {L : mL} {o : Nat} {otp : Nat} {a1 : Nat} {post : Bool → Prop} (ho : isX5 K R o otp) (ha1 : a1 < 8) (hw : w_X5_tokenIs I o otp a1 post) : Met l yX5_tokenIs (.code yX5_tokenIs cX5_tokenIs 3 (some .boolean) :: gw) ({ frames := 4, cells := 0, slots := 0, locals := 85 } : Room) (PreM D cA Z bs (n, K, R, I, L) [.ref (ad bs o), .ref (Z.2.1 a1)]) (QI D cA bs (fun r u => ∃ b, r = bI b ∧ u = (n, K, R, I, L) ∧ post b)) 0 0 (Ab bs) := by
  refine m_met (by decide) (Nat.le_of_ble_eq_true rfl) (fun p e s m below meth c ls E hr hlk hM hS hl => ?_)
  have E : Ev p s m _ c cX5_tokenIs 3 RX5 D cA Z bs := E
  have hl : lv_has ls 3 [(0, .ref (ad bs o)), (1, .ref (Z.2.1 a1))] := hl
  have hx := E.1.1
  have hb := E.1.2.1
  generalize hHe : s.heap = H at hM ⊢
  have hS : va_S (Ab bs) s.heap H [] := by rw [← hHe]; exact va_S.rf
  clear hHe
  refine lv_aload_n hx hb dX5_tokenIs_0 rfl (lv_at hl 0 rfl) ?_
  refine m_geti E hM fs_X5_43 ho.1.1 dX5_tokenIs_1 ?_
  refine lv_aload_n hx hb dX5_tokenIs_4 rfl (lv_at hl 0 rfl) ?_
  refine m_geti E hM fs_X5_95 ho.1.1 dX5_tokenIs_5 ?_
  refine lv_isub hx hb dX5_tokenIs_8 ?_
  refine lv_aload_n hx hb dX5_tokenIs_9 rfl (lv_at hl 1 rfl) ?_
  refine m_ci (m_runVS E hM hS cs_X5_134 ha1 (c_J0_length_8abf5 ha1 hw) rfl rfl ⟨Nat.le_of_ble_eq_true rfl, Nat.le_of_ble_eq_true rfl⟩ rfl hl.1 rfl (Nat.le_of_ble_eq_true rfl) dX5_tokenIs_10 ⟨Nat.le_of_ble_eq_true rfl, Nat.le_of_ble_eq_true rfl⟩) hS (fun r1 u H locs hp hM hS => ?_)
  obtain ⟨rfl, hw⟩ := hp
  refine lv_icmp_eq (tgt := 18) hx hb dX5_tokenIs_13 (by decide) (fun cq => ?_) (fun cq => ?_)
  · have hw := hw.1 cq
    refine lv_iconst (v := 0) hx hb dX5_tokenIs_18 (by decide) ?_
    refine lv_istore_n (lv' := [(2, .int 0), (0, .ref (ad bs o)), (1, .ref (Z.2.1 a1))]) hx hb dX5_tokenIs_19 rfl hl (by decide) rfl (fun ls hl => ?_)
    exact s_X5_tokenIs_20 E hr hlk ho ha1  hw hM hS (lv_sub hl [1, 2, 0] rfl)
  · have hw := hw.2 cq
    refine lv_iconst (v := 0) hx hb dX5_tokenIs_16 (by decide) ?_
    exact m_retz hx hb hr hlk (Or.inl rfl) hM hS ⟨false, rfl, rfl, hw⟩ dX5_tokenIs_17
theorem dX5_lineAtToken_0 : decode cX5_lineAtToken 0 = .ok (.iload_n 1, 1) := by decide +kernel
theorem dX5_lineAtToken_1 : decode cX5_lineAtToken 1 = .ok (.ifCond .ne 7, 3) := by decide +kernel
theorem dX5_lineAtToken_4 : decode cX5_lineAtToken 4 = .ok (.iconst 0, 1) := by decide +kernel
theorem dX5_lineAtToken_5 : decode cX5_lineAtToken 5 = .ok (.goto 5, 3) := by decide +kernel
theorem dX5_lineAtToken_8 : decode cX5_lineAtToken 8 = .ok (.bipush 7, 2) := by decide +kernel
theorem dX5_lineAtToken_10 : decode cX5_lineAtToken 10 = .ok (.istore_n 2, 1) := by decide +kernel
theorem dX5_lineAtToken_11 : decode cX5_lineAtToken 11 = .ok (.iload_n 1, 1) := by decide +kernel
theorem dX5_lineAtToken_12 : decode cX5_lineAtToken 12 = .ok (.ifCond .ne 8, 3) := by decide +kernel
theorem dX5_lineAtToken_15 : decode cX5_lineAtToken 15 = .ok (.bipush 6, 2) := by decide +kernel
theorem dX5_lineAtToken_17 : decode cX5_lineAtToken 17 = .ok (.goto 5, 3) := by decide +kernel
theorem dX5_lineAtToken_20 : decode cX5_lineAtToken 20 = .ok (.bipush 7, 2) := by decide +kernel
theorem dX5_lineAtToken_22 : decode cX5_lineAtToken 22 = .ok (.istore_n 3, 1) := by decide +kernel
theorem dX5_lineAtToken_23 : decode cX5_lineAtToken 23 = .ok (.iload_n 2, 1) := by decide +kernel
theorem dX5_lineAtToken_24 : decode cX5_lineAtToken 24 = .ok (.istore 4, 2) := by decide +kernel
theorem dX5_lineAtToken_26 : decode cX5_lineAtToken 26 = .ok (.iload 4, 2) := by decide +kernel
theorem dX5_lineAtToken_28 : decode cX5_lineAtToken 28 = .ok (.iload_n 3, 1) := by decide +kernel
theorem dX5_lineAtToken_29 : decode cX5_lineAtToken 29 = .ok (.if_icmp .gt 32, 3) := by decide +kernel
theorem dX5_lineAtToken_32 : decode cX5_lineAtToken 32 = .ok (.aload_n 0, 1) := by decide +kernel
theorem dX5_lineAtToken_33 : decode cX5_lineAtToken 33 = .ok (.getfield 67, 3) := by decide +kernel
theorem dX5_lineAtToken_36 : decode cX5_lineAtToken 36 = .ok (.iconst 1, 1) := by decide +kernel
theorem dX5_lineAtToken_37 : decode cX5_lineAtToken 37 = .ok (.if_icmp .ne 18, 3) := by decide +kernel
theorem dX5_lineAtToken_40 : decode cX5_lineAtToken 40 = .ok (.aload_n 0, 1) := by decide +kernel
theorem dX5_lineAtToken_41 : decode cX5_lineAtToken 41 = .ok (.iload 4, 2) := by decide +kernel
theorem dX5_lineAtToken_43 : decode cX5_lineAtToken 43 = .ok (.invokestatic 111, 3) := by decide +kernel
theorem dX5_lineAtToken_46 : decode cX5_lineAtToken 46 = .ok (.invokevirtual 115, 3) := by decide +kernel
theorem dX5_lineAtToken_49 : decode cX5_lineAtToken 49 = .ok (.ifCond .eq 6, 3) := by decide +kernel
theorem dX5_lineAtToken_52 : decode cX5_lineAtToken 52 = .ok (.iload 4, 2) := by decide +kernel
theorem dX5_lineAtToken_54 : decode cX5_lineAtToken 54 = .ok (.ireturn, 1) := by decide +kernel
theorem dX5_lineAtToken_55 : decode cX5_lineAtToken 55 = .ok (.iinc 4 1, 3) := by decide +kernel
theorem dX5_lineAtToken_58 : decode cX5_lineAtToken 58 = .ok (.goto (-32), 3) := by decide +kernel
theorem dX5_lineAtToken_61 : decode cX5_lineAtToken 61 = .ok (.iconst (-1), 1) := by decide +kernel
theorem dX5_lineAtToken_62 : decode cX5_lineAtToken 62 = .ok (.ireturn, 1) := by decide +kernel
def w_X5_lineAtToken_26 (I : mI) (o : Nat) (otp : Nat) (a1 : Int32) (post : Int32 → Prop) (v3 : Int32) (v4 : Int32) : Prop := ∀ ZZ : (Int32 → Int32 → Prop), (∀ (v3 : Int32) (v4 : Int32), ((v3 < v4 → post (-1)) ∧ (¬ v3 < v4 → (¬ (I o 7) = 1 → ∀ x1, x1 = v4 + 1 → ZZ v3 x1) ∧ ((I o 7) = 1 → w_X5_wordOf v4 (fun r2 => w_X5_tokenIs I o otp r2 (fun r3 => (r3 = false → ∀ x4, x4 = v4 + 1 → ZZ v3 x4) ∧ (r3 = true → post v4)))))) → ZZ v3 v4) → ZZ v3 v4
set_option maxRecDepth 100000 in
set_option maxHeartbeats 4000000 in
theorem s_X5_lineAtToken_26 {p : Program} {l : Launch} {e : Env} {s : State} {m : MethodId} {args : Array Value} {below : List Frame} {meth : Method} {c : Code} {D : va_G} {cA : Nat → ClassId} {Z : mZ} {bs : Ad} {n : Nat} {K : mK} {R : mR} {I : mI} {L : mL} (E : Ev p s m args c cX5_lineAtToken 5 RX5 D cA Z bs) (hr : meth.sig.returnType = (some .int)) (hlk : meth.locks = false) {o : Nat} {otp : Nat} {a1 : Int32} (ho : isX5 K R o otp) {post : Int32 → Prop} {v3 : Int32} {v4 : Int32} {H : Heap} {locs : List Loc} {ls : Array Slot} (hw : w_X5_lineAtToken_26 I o otp a1 post v3 v4) (hM : mm D cA bs (n, K, R, I, L) H) (hS : va_S (Ab bs) s.heap H locs) (hl : lv_has ls 5 [(0, .ref (ad bs o)), (3, .int v3), (4, .int v4)]) : W p l e ({ frames := 5, cells := 0, slots := 0, locals := 107 } : Room) s m args below meth c H locs 0 0 (MQ below (QI D cA bs (fun r u => u = (n, K, R, I, L) ∧ post r)) args s 0 0 (Ab bs)) (F0 m 26 ls []) := by
  have hx := E.1.1
  have hb := E.1.2.1
  refine hw (fun v3 v4 => ∀ (H : Heap) (locs : List Loc) (ls : Array Slot), mm D cA bs (n, K, R, I, L) H → va_S (Ab bs) s.heap H locs → lv_has ls 5 [(0, .ref (ad bs o)), (3, .int v3), (4, .int v4)] → W p l e ({ frames := 5, cells := 0, slots := 0, locals := 107 } : Room) s m args below meth c H locs 0 0 (MQ below (QI D cA bs (fun r u => u = (n, K, R, I, L) ∧ post r)) args s 0 0 (Ab bs)) (F0 m 26 ls [])) ?_ H locs ls hM hS hl
  clear hw hM hS hl
  intro v3 v4 hw H locs ls hM hS hl
  refine lv_iload hx hb dX5_lineAtToken_26 (lv_at hl 2 rfl) ?_
  refine lv_iload_n hx hb dX5_lineAtToken_28 rfl (lv_at hl 1 rfl) ?_
  refine lv_icmp_gt (tgt := 61) hx hb dX5_lineAtToken_29 (by decide) (fun cq => ?_) (fun cq => ?_)
  · have hw := hw.1 cq
    refine lv_iconst (v := (-1)) hx hb dX5_lineAtToken_61 (by decide) ?_
    exact m_reti hx hb hr hlk hM hS ⟨rfl, hw⟩ dX5_lineAtToken_62
  · have hw := hw.2 cq
    refine lv_aload_n hx hb dX5_lineAtToken_32 rfl (lv_at hl 0 rfl) ?_
    refine m_geti E hM fs_X5_67 ho.1.1 dX5_lineAtToken_33 ?_
    refine lv_iconst (v := 1) hx hb dX5_lineAtToken_36 (by decide) ?_
    refine lv_icmp_ne (tgt := 55) hx hb dX5_lineAtToken_37 (by decide) (fun cq => ?_) (fun cq => ?_)
    · have hw := hw.1 cq
      obtain ⟨x1, ex1⟩ : ∃ y : Int32, y = v4 + 1 := ⟨_, rfl⟩
      have hw := hw x1 ex1
      refine lv_iinc (v := x1) (lv' := [(4, .int x1), (0, .ref (ad bs o)), (3, .int v3)]) hx hb dX5_lineAtToken_55 hl (k := 2) rfl (by rw [ex1]; rfl) (by decide) rfl (fun ls hl => ?_)
      refine lv_goto (tgt := 26) hx hb dX5_lineAtToken_58 (by decide) ?_
      exact hw H locs ls  hM hS (lv_sub hl [1, 2, 0] rfl)
    · have hw := hw.2 cq
      refine lv_aload_n hx hb dX5_lineAtToken_40 rfl (lv_at hl 0 rfl) ?_
      refine lv_iload hx hb dX5_lineAtToken_41 (lv_at hl 2 rfl) ?_
      refine m_cs (m_runS E hM hS cs_X5_111 (c_X5_wordOf  hw) rfl rfl ⟨Nat.le_of_ble_eq_true rfl, Nat.le_of_ble_eq_true rfl⟩ rfl hl.1 rfl (Nat.le_of_ble_eq_true rfl) dX5_lineAtToken_43 ⟨Nat.le_of_ble_eq_true rfl, Nat.le_of_ble_eq_true rfl⟩) hS (fun r2 u H locs hqr2 hp hM hS => ?_)
      obtain ⟨rfl, hw⟩ := hp
      refine m_ci (m_runV E hM hS cs_X5_115 ho.1.1 (by decide) rfl rfl (c_X5_tokenIs ho hqr2 hw) rfl rfl ⟨Nat.le_of_ble_eq_true rfl, Nat.le_of_ble_eq_true rfl⟩ rfl hl.1 rfl (Nat.le_of_ble_eq_true rfl) dX5_lineAtToken_46 ⟨Nat.le_of_ble_eq_true rfl, Nat.le_of_ble_eq_true rfl⟩) hS (fun r9 u H locs hp hM hS => ?_)
      obtain ⟨r3, rfl, rfl, hw⟩ := hp
      refine lv_if_eq (tgt := 55) hx hb dX5_lineAtToken_49 (by decide) (fun cq => ?_) (fun cq => ?_)
      · have hw := hw.1 (bI_f cq)
        obtain ⟨x4, ex4⟩ : ∃ y : Int32, y = v4 + 1 := ⟨_, rfl⟩
        have hw := hw x4 ex4
        refine lv_iinc (v := x4) (lv' := [(4, .int x4), (0, .ref (ad bs o)), (3, .int v3)]) hx hb dX5_lineAtToken_55 hl (k := 2) rfl (by rw [ex4]; rfl) (by decide) rfl (fun ls hl => ?_)
        refine lv_goto (tgt := 26) hx hb dX5_lineAtToken_58 (by decide) ?_
        exact hw H locs ls  hM hS (lv_sub hl [1, 2, 0] rfl)
      · have hw := hw.2 (bI_t cq)
        refine lv_iload hx hb dX5_lineAtToken_52 (lv_at hl 2 rfl) ?_
        exact m_reti hx hb hr hlk hM hS ⟨rfl, hw⟩ dX5_lineAtToken_54
def w_X5_lineAtToken_10 (I : mI) (o : Nat) (otp : Nat) (a1 : Int32) (post : Int32 → Prop) (s0 : Int32) : Prop := (¬ a1 = 0 → (w_X5_lineAtToken_26 I o otp a1 post) 7 s0) ∧ (a1 = 0 → (w_X5_lineAtToken_26 I o otp a1 post) 6 s0)
set_option maxRecDepth 100000 in
set_option maxHeartbeats 4000000 in
theorem s_X5_lineAtToken_10 {p : Program} {l : Launch} {e : Env} {s : State} {m : MethodId} {args : Array Value} {below : List Frame} {meth : Method} {c : Code} {D : va_G} {cA : Nat → ClassId} {Z : mZ} {bs : Ad} {n : Nat} {K : mK} {R : mR} {I : mI} {L : mL} (E : Ev p s m args c cX5_lineAtToken 5 RX5 D cA Z bs) (hr : meth.sig.returnType = (some .int)) (hlk : meth.locks = false) {o : Nat} {otp : Nat} {a1 : Int32} (ho : isX5 K R o otp) {post : Int32 → Prop} {s0 : Int32} {H : Heap} {locs : List Loc} {ls : Array Slot} (hw : w_X5_lineAtToken_10 I o otp a1 post s0) (hM : mm D cA bs (n, K, R, I, L) H) (hS : va_S (Ab bs) s.heap H locs) (hl : lv_has ls 5 [(0, .ref (ad bs o)), (1, .int a1)]) : W p l e ({ frames := 5, cells := 0, slots := 0, locals := 107 } : Room) s m args below meth c H locs 0 0 (MQ below (QI D cA bs (fun r u => u = (n, K, R, I, L) ∧ post r)) args s 0 0 (Ab bs)) (F0 m 10 ls [.int s0]) := by
  have hx := E.1.1
  have hb := E.1.2.1
  refine lv_istore_n (lv' := [(2, .int s0), (0, .ref (ad bs o)), (1, .int a1)]) hx hb dX5_lineAtToken_10 rfl hl (by decide) rfl (fun ls hl => ?_)
  refine lv_iload_n hx hb dX5_lineAtToken_11 rfl (lv_at hl 2 rfl) ?_
  refine lv_if_ne (tgt := 20) hx hb dX5_lineAtToken_12 (by decide) (fun cq => ?_) (fun cq => ?_)
  · have hw := hw.1 cq
    refine lv_bipush (v := 7) hx hb dX5_lineAtToken_20 (by decide) ?_
    refine lv_istore_n (lv' := [(3, .int 7), (2, .int s0), (0, .ref (ad bs o)), (1, .int a1)]) hx hb dX5_lineAtToken_22 rfl hl (by decide) rfl (fun ls hl => ?_)
    refine lv_iload_n hx hb dX5_lineAtToken_23 rfl (lv_at hl 1 rfl) ?_
    refine lv_istore (lv' := [(4, .int s0), (3, .int 7), (2, .int s0), (0, .ref (ad bs o)), (1, .int a1)]) hx hb dX5_lineAtToken_24 hl (by decide) rfl (fun ls hl => ?_)
    exact s_X5_lineAtToken_26 E hr hlk ho  hw hM hS (lv_sub hl [3, 1, 0] rfl)
  · have hw := hw.2 cq
    refine lv_bipush (v := 6) hx hb dX5_lineAtToken_15 (by decide) ?_
    refine lv_goto (tgt := 22) hx hb dX5_lineAtToken_17 (by decide) ?_
    refine lv_istore_n (lv' := [(3, .int 6), (2, .int s0), (0, .ref (ad bs o)), (1, .int a1)]) hx hb dX5_lineAtToken_22 rfl hl (by decide) rfl (fun ls hl => ?_)
    refine lv_iload_n hx hb dX5_lineAtToken_23 rfl (lv_at hl 1 rfl) ?_
    refine lv_istore (lv' := [(4, .int s0), (3, .int 6), (2, .int s0), (0, .ref (ad bs o)), (1, .int a1)]) hx hb dX5_lineAtToken_24 hl (by decide) rfl (fun ls hl => ?_)
    exact s_X5_lineAtToken_26 E hr hlk ho  hw hM hS (lv_sub hl [3, 1, 0] rfl)
def w_X5_lineAtToken (I : mI) (o : Nat) (otp : Nat) (a1 : Int32) (post : Int32 → Prop) : Prop := (¬ a1 = 0 → (w_X5_lineAtToken_10 I o otp a1 post) 7) ∧ (a1 = 0 → (w_X5_lineAtToken_10 I o otp a1 post) 0)
set_option maxRecDepth 100000 in
set_option maxHeartbeats 4000000 in
theorem c_X5_lineAtToken {l : Launch} {D : va_G} {cA : Nat → ClassId} {Z : mZ} {bs : Ad} {n : Nat} {K : mK} {R : mR} {I : mI} {L : mL} {o : Nat} {otp : Nat} {a1 : Int32} {post : Int32 → Prop} (ho : isX5 K R o otp) (hw : w_X5_lineAtToken I o otp a1 post) : Met l yX5_lineAtToken (.code yX5_lineAtToken cX5_lineAtToken 5 (some .int) :: gw) ({ frames := 5, cells := 0, slots := 0, locals := 107 } : Room) (PreM D cA Z bs (n, K, R, I, L) [.ref (ad bs o), .int a1]) (QI D cA bs (fun r u => u = (n, K, R, I, L) ∧ post r)) 0 0 (Ab bs) := by
  refine m_met (by decide) (Nat.le_of_ble_eq_true rfl) (fun p e s m below meth c ls E hr hlk hM hS hl => ?_)
  have E : Ev p s m _ c cX5_lineAtToken 5 RX5 D cA Z bs := E
  have hl : lv_has ls 5 [(0, .ref (ad bs o)), (1, .int a1)] := hl
  have hx := E.1.1
  have hb := E.1.2.1
  generalize hHe : s.heap = H at hM ⊢
  have hS : va_S (Ab bs) s.heap H [] := by rw [← hHe]; exact va_S.rf
  clear hHe
  refine lv_iload_n hx hb dX5_lineAtToken_0 rfl (lv_at hl 1 rfl) ?_
  refine lv_if_ne (tgt := 8) hx hb dX5_lineAtToken_1 (by decide) (fun cq => ?_) (fun cq => ?_)
  · have hw := hw.1 cq
    refine lv_bipush (v := 7) hx hb dX5_lineAtToken_8 (by decide) ?_
    exact s_X5_lineAtToken_10 E hr hlk ho  hw hM hS (lv_sub hl [0, 1] rfl)
  · have hw := hw.2 cq
    refine lv_iconst (v := 0) hx hb dX5_lineAtToken_4 (by decide) ?_
    refine lv_goto (tgt := 10) hx hb dX5_lineAtToken_5 (by decide) ?_
    exact s_X5_lineAtToken_10 E hr hlk ho  hw hM hS (lv_sub hl [0, 1] rfl)
theorem dX5_readLine_0 : decode cX5_readLine 0 = .ok (.aload_n 0, 1) := by decide +kernel
theorem dX5_readLine_1 : decode cX5_readLine 1 = .ok (.iload_n 1, 1) := by decide +kernel
theorem dX5_readLine_2 : decode cX5_readLine 2 = .ok (.invokevirtual 84, 3) := by decide +kernel
theorem dX5_readLine_5 : decode cX5_readLine 5 = .ok (.istore_n 2, 1) := by decide +kernel
theorem dX5_readLine_6 : decode cX5_readLine 6 = .ok (.iload_n 2, 1) := by decide +kernel
theorem dX5_readLine_7 : decode cX5_readLine 7 = .ok (.iconst (-1), 1) := by decide +kernel
theorem dX5_readLine_8 : decode cX5_readLine 8 = .ok (.if_icmp .ne 8, 3) := by decide +kernel
theorem dX5_readLine_11 : decode cX5_readLine 11 = .ok (.aload_n 0, 1) := by decide +kernel
theorem dX5_readLine_12 : decode cX5_readLine 12 = .ok (.invokevirtual 88, 3) := by decide +kernel
theorem dX5_readLine_15 : decode cX5_readLine 15 = .ok (.return_, 1) := by decide +kernel
theorem dX5_readLine_16 : decode cX5_readLine 16 = .ok (.aload_n 0, 1) := by decide +kernel
theorem dX5_readLine_17 : decode cX5_readLine 17 = .ok (.iload_n 2, 1) := by decide +kernel
theorem dX5_readLine_18 : decode cX5_readLine 18 = .ok (.invokevirtual 91, 3) := by decide +kernel
theorem dX5_readLine_21 : decode cX5_readLine 21 = .ok (.ifCond .eq 12, 3) := by decide +kernel
theorem dX5_readLine_24 : decode cX5_readLine 24 = .ok (.aload_n 0, 1) := by decide +kernel
theorem dX5_readLine_25 : decode cX5_readLine 25 = .ok (.iconst 3, 1) := by decide +kernel
theorem dX5_readLine_26 : decode cX5_readLine 26 = .ok (.aload_n 0, 1) := by decide +kernel
theorem dX5_readLine_27 : decode cX5_readLine 27 = .ok (.getfield 95, 3) := by decide +kernel
theorem dX5_readLine_30 : decode cX5_readLine 30 = .ok (.invokevirtual 80, 3) := by decide +kernel
theorem dX5_readLine_33 : decode cX5_readLine 33 = .ok (.aload_n 0, 1) := by decide +kernel
theorem dX5_readLine_34 : decode cX5_readLine 34 = .ok (.invokevirtual 64, 3) := by decide +kernel
theorem dX5_readLine_37 : decode cX5_readLine 37 = .ok (.iconst 0, 1) := by decide +kernel
theorem dX5_readLine_38 : decode cX5_readLine 38 = .ok (.istore_n 3, 1) := by decide +kernel
theorem dX5_readLine_39 : decode cX5_readLine 39 = .ok (.iload_n 3, 1) := by decide +kernel
theorem dX5_readLine_40 : decode cX5_readLine 40 = .ok (.getstatic 98, 3) := by decide +kernel
theorem dX5_readLine_43 : decode cX5_readLine 43 = .ok (.iload_n 2, 1) := by decide +kernel
theorem dX5_readLine_44 : decode cX5_readLine 44 = .ok (.iaload, 1) := by decide +kernel
theorem dX5_readLine_45 : decode cX5_readLine 45 = .ok (.if_icmp .ge 23, 3) := by decide +kernel
theorem dX5_readLine_48 : decode cX5_readLine 48 = .ok (.aload_n 0, 1) := by decide +kernel
theorem dX5_readLine_49 : decode cX5_readLine 49 = .ok (.iload_n 2, 1) := by decide +kernel
theorem dX5_readLine_50 : decode cX5_readLine 50 = .ok (.iload_n 3, 1) := by decide +kernel
theorem dX5_readLine_51 : decode cX5_readLine 51 = .ok (.invokevirtual 101, 3) := by decide +kernel
theorem dX5_readLine_54 : decode cX5_readLine 54 = .ok (.ifCond .ne 8, 3) := by decide +kernel
theorem dX5_readLine_57 : decode cX5_readLine 57 = .ok (.aload_n 0, 1) := by decide +kernel
theorem dX5_readLine_58 : decode cX5_readLine 58 = .ok (.invokevirtual 88, 3) := by decide +kernel
theorem dX5_readLine_61 : decode cX5_readLine 61 = .ok (.return_, 1) := by decide +kernel
theorem dX5_readLine_62 : decode cX5_readLine 62 = .ok (.iinc 3 1, 3) := by decide +kernel
theorem dX5_readLine_65 : decode cX5_readLine 65 = .ok (.goto (-26), 3) := by decide +kernel
theorem dX5_readLine_68 : decode cX5_readLine 68 = .ok (.iload_n 2, 1) := by decide +kernel
theorem dX5_readLine_69 : decode cX5_readLine 69 = .ok (.iconst 5, 1) := by decide +kernel
theorem dX5_readLine_70 : decode cX5_readLine 70 = .ok (.if_icmp .ne 7, 3) := by decide +kernel
theorem dX5_readLine_73 : decode cX5_readLine 73 = .ok (.aload_n 0, 1) := by decide +kernel
theorem dX5_readLine_74 : decode cX5_readLine 74 = .ok (.invokevirtual 105, 3) := by decide +kernel
theorem dX5_readLine_77 : decode cX5_readLine 77 = .ok (.aload_n 0, 1) := by decide +kernel
theorem dX5_readLine_78 : decode cX5_readLine 78 = .ok (.getfield 67, 3) := by decide +kernel
theorem dX5_readLine_81 : decode cX5_readLine 81 = .ok (.iconst 4, 1) := by decide +kernel
theorem dX5_readLine_82 : decode cX5_readLine 82 = .ok (.if_icmp .eq 8, 3) := by decide +kernel
theorem dX5_readLine_85 : decode cX5_readLine 85 = .ok (.aload_n 0, 1) := by decide +kernel
theorem dX5_readLine_86 : decode cX5_readLine 86 = .ok (.invokevirtual 88, 3) := by decide +kernel
theorem dX5_readLine_89 : decode cX5_readLine 89 = .ok (.return_, 1) := by decide +kernel
theorem dX5_readLine_90 : decode cX5_readLine 90 = .ok (.aload_n 0, 1) := by decide +kernel
theorem dX5_readLine_91 : decode cX5_readLine 91 = .ok (.invokevirtual 64, 3) := by decide +kernel
theorem dX5_readLine_94 : decode cX5_readLine 94 = .ok (.aload_n 0, 1) := by decide +kernel
theorem dX5_readLine_95 : decode cX5_readLine 95 = .ok (.getfield 46, 3) := by decide +kernel
theorem dX5_readLine_98 : decode cX5_readLine 98 = .ok (.ifCond .ne 8, 3) := by decide +kernel
theorem dX5_readLine_101 : decode cX5_readLine 101 = .ok (.aload_n 0, 1) := by decide +kernel
theorem dX5_readLine_102 : decode cX5_readLine 102 = .ok (.iload_n 2, 1) := by decide +kernel
theorem dX5_readLine_103 : decode cX5_readLine 103 = .ok (.invokevirtual 108, 3) := by decide +kernel
theorem dX5_readLine_106 : decode cX5_readLine 106 = .ok (.return_, 1) := by decide +kernel
def w_X5_readLine_39 (o : Nat) (otp : Nat) (a1 : Int32) (post : mI → Prop) (k57 : mI → Prop) (k68 : mI → Int32 → Prop) (I : mI) (v2 : Int32) (v3 : Int32) : Prop := ∀ ZZ : (mI → Int32 → Int32 → Prop), (∀ (I : mI) (v2 : Int32) (v3 : Int32), (vp_in v2 8 ∧ ((tb_slots v2.toNatClampNeg) ≤ v3 → k68 I v2) ∧ (¬ (tb_slots v2.toNatClampNeg) ≤ v3 → w_X5_readValue I o otp v2 v3 (fun b6 I7 => (b6 = true → ∀ x8, x8 = v3 + 1 → ZZ I7 v2 x8) ∧ (b6 = false → k57 I7)))) → ZZ I v2 v3) → ZZ I v2 v3
set_option maxRecDepth 100000 in
set_option maxHeartbeats 4000000 in
theorem s_X5_readLine_39 {p : Program} {l : Launch} {e : Env} {s : State} {m : MethodId} {args : Array Value} {below : List Frame} {meth : Method} {c : Code} {D : va_G} {cA : Nat → ClassId} {Z : mZ} {bs : Ad} {n : Nat} {K : mK} {R : mR} {L : mL} (E : Ev p s m args c cX5_readLine 4 RX5 D cA Z bs) (hr : meth.sig.returnType = none) (hlk : meth.locks = false) {o : Nat} {otp : Nat} {a1 : Int32} (ho : isX5 K R o otp) {post : mI → Prop} {k57 : mI → Prop} {k68 : mI → Int32 → Prop} (hk57 : ∀ (I : mI) (H : Heap) (locs : List Loc) (ls : Array Slot), k57 I → mm D cA bs (n, K, R, I, L) H → va_S (Ab bs) s.heap H locs → lv_has ls 4 [(0, .ref (ad bs o))] → W p l e ({ frames := 6, cells := 0, slots := 0, locals := 131 } : Room) s m args below meth c H locs 0 0 (MQ below (QV D cA bs (fun u => ∃ I', u = (n, K, R, I', L) ∧ post I')) args s 0 0 (Ab bs)) (F0 m 57 ls [])) (hk68 : ∀ (I : mI) (v2 : Int32) (H : Heap) (locs : List Loc) (ls : Array Slot), k68 I v2 → mm D cA bs (n, K, R, I, L) H → va_S (Ab bs) s.heap H locs → lv_has ls 4 [(0, .ref (ad bs o)), (2, .int v2)] → W p l e ({ frames := 6, cells := 0, slots := 0, locals := 131 } : Room) s m args below meth c H locs 0 0 (MQ below (QV D cA bs (fun u => ∃ I', u = (n, K, R, I', L) ∧ post I')) args s 0 0 (Ab bs)) (F0 m 68 ls [])) {I : mI} {v2 : Int32} {v3 : Int32} {H : Heap} {locs : List Loc} {ls : Array Slot} (hw : w_X5_readLine_39 o otp a1 post k57 k68 I v2 v3) (hM : mm D cA bs (n, K, R, I, L) H) (hS : va_S (Ab bs) s.heap H locs) (hl : lv_has ls 4 [(0, .ref (ad bs o)), (2, .int v2), (3, .int v3)]) : W p l e ({ frames := 6, cells := 0, slots := 0, locals := 131 } : Room) s m args below meth c H locs 0 0 (MQ below (QV D cA bs (fun u => ∃ I', u = (n, K, R, I', L) ∧ post I')) args s 0 0 (Ab bs)) (F0 m 39 ls []) := by
  have hx := E.1.1
  have hb := E.1.2.1
  refine hw (fun I v2 v3 => ∀ (H : Heap) (locs : List Loc) (ls : Array Slot), mm D cA bs (n, K, R, I, L) H → va_S (Ab bs) s.heap H locs → lv_has ls 4 [(0, .ref (ad bs o)), (2, .int v2), (3, .int v3)] → W p l e ({ frames := 6, cells := 0, slots := 0, locals := 131 } : Room) s m args below meth c H locs 0 0 (MQ below (QV D cA bs (fun u => ∃ I', u = (n, K, R, I', L) ∧ post I')) args s 0 0 (Ab bs)) (F0 m 39 ls [])) ?_ H locs ls hM hS hl
  clear hw hM hS hl
  intro I v2 v3 hw H locs ls hM hS hl
  refine lv_iload_n hx hb dX5_readLine_39 rfl (lv_at hl 2 rfl) ?_
  refine va_gets (v := .ref (Z.1 0)) hx hb E.2.2.2.1.1 hS E.1.2.2.2.1 (E.1.2.2.2.2 _ (gw_of 632 (by decide +kernel) (by decide +kernel))) (fun _ h9 => h9) dX5_readLine_40 ?_
  refine lv_iload_n hx hb dX5_readLine_43 rfl (lv_at hl 1 rfl) ?_
  obtain ⟨hv, hw⟩ := hw
  refine va_ti (f := fun k => .int (tb_slots k)) hx hb E.2.2.2.1.2 hS hv rfl dX5_readLine_44 ?_
  refine lv_icmp_ge (tgt := 68) hx hb dX5_readLine_45 (by decide) (fun cq => ?_) (fun cq => ?_)
  · have hw := hw.1 cq
    exact hk68 _ _ H locs ls  hw hM hS (lv_sub hl [0, 1] rfl)
  · have hw := hw.2 cq
    refine lv_aload_n hx hb dX5_readLine_48 rfl (lv_at hl 0 rfl) ?_
    refine lv_iload_n hx hb dX5_readLine_49 rfl (lv_at hl 1 rfl) ?_
    refine lv_iload_n hx hb dX5_readLine_50 rfl (lv_at hl 2 rfl) ?_
    refine m_ci (m_runV E hM hS cs_X5_101 ho.1.1 (by decide) rfl rfl (c_X5_readValue ho hw) rfl rfl ⟨Nat.le_of_ble_eq_true rfl, Nat.le_of_ble_eq_true rfl⟩ rfl hl.1 rfl (Nat.le_of_ble_eq_true rfl) dX5_readLine_51 ⟨Nat.le_of_ble_eq_true rfl, Nat.le_of_ble_eq_true rfl⟩) hS (fun r9 u H locs hp hM hS => ?_)
    obtain ⟨b6, rfl, I7, rfl, hw⟩ := hp
    refine lv_if_ne (tgt := 62) hx hb dX5_readLine_54 (by decide) (fun cq => ?_) (fun cq => ?_)
    · have hw := hw.1 (bI_t cq)
      obtain ⟨x8, ex8⟩ : ∃ y : Int32, y = v3 + 1 := ⟨_, rfl⟩
      have hw := hw x8 ex8
      refine lv_iinc (v := x8) (lv' := [(3, .int x8), (0, .ref (ad bs o)), (2, .int v2)]) hx hb dX5_readLine_62 hl (k := 2) rfl (by rw [ex8]; rfl) (by decide) rfl (fun ls hl => ?_)
      refine lv_goto (tgt := 39) hx hb dX5_readLine_65 (by decide) ?_
      exact hw H locs ls  hM hS (lv_sub hl [1, 2, 0] rfl)
    · have hw := hw.2 (bI_f cq)
      exact hk57 _ H locs ls  hw hM hS (lv_sub hl [0] rfl)
def w_X5_readLine_57 (o : Nat) (otp : Nat) (a1 : Int32) (post : mI → Prop) (I : mI) : Prop := w_X5_breakOff I o otp (fun I9 => post I9)
set_option maxRecDepth 100000 in
set_option maxHeartbeats 4000000 in
theorem s_X5_readLine_57 {p : Program} {l : Launch} {e : Env} {s : State} {m : MethodId} {args : Array Value} {below : List Frame} {meth : Method} {c : Code} {D : va_G} {cA : Nat → ClassId} {Z : mZ} {bs : Ad} {n : Nat} {K : mK} {R : mR} {L : mL} (E : Ev p s m args c cX5_readLine 4 RX5 D cA Z bs) (hr : meth.sig.returnType = none) (hlk : meth.locks = false) {o : Nat} {otp : Nat} {a1 : Int32} (ho : isX5 K R o otp) {post : mI → Prop} {I : mI} {H : Heap} {locs : List Loc} {ls : Array Slot} (hw : w_X5_readLine_57 o otp a1 post I) (hM : mm D cA bs (n, K, R, I, L) H) (hS : va_S (Ab bs) s.heap H locs) (hl : lv_has ls 4 [(0, .ref (ad bs o))]) : W p l e ({ frames := 6, cells := 0, slots := 0, locals := 131 } : Room) s m args below meth c H locs 0 0 (MQ below (QV D cA bs (fun u => ∃ I', u = (n, K, R, I', L) ∧ post I')) args s 0 0 (Ab bs)) (F0 m 57 ls []) := by
  have hx := E.1.1
  have hb := E.1.2.1
  refine lv_aload_n hx hb dX5_readLine_57 rfl (lv_at hl 0 rfl) ?_
  refine m_cv (m_runV E hM hS cs_X5_88 ho.1.1 (by decide) rfl rfl (c_X5_breakOff ho hw) rfl rfl ⟨Nat.le_of_ble_eq_true rfl, Nat.le_of_ble_eq_true rfl⟩ rfl hl.1 rfl (Nat.le_of_ble_eq_true rfl) dX5_readLine_58 ⟨Nat.le_of_ble_eq_true rfl, Nat.le_of_ble_eq_true rfl⟩) hS (fun u H locs hp hM hS => ?_)
  obtain ⟨I9, rfl, hw⟩ := hp
  exact m_retv hx hb hr hlk hM hS ⟨_, rfl, hw⟩ dX5_readLine_61
def w_X5_readLine_77 (o : Nat) (otp : Nat) (a1 : Int32) (post : mI → Prop) (I : mI) (v2 : Int32) : Prop := ((I o 7) = 4 → w_X5_nextToken I o otp (fun I11 => (¬ (I11 o 2) = 0 → post I11) ∧ ((I11 o 2) = 0 → w_X5_tell I11 o otp v2 (fun I12 => post I12)))) ∧ (¬ (I o 7) = 4 → w_X5_breakOff I o otp (fun I13 => post I13))
set_option maxRecDepth 100000 in
set_option maxHeartbeats 4000000 in
theorem s_X5_readLine_77 {p : Program} {l : Launch} {e : Env} {s : State} {m : MethodId} {args : Array Value} {below : List Frame} {meth : Method} {c : Code} {D : va_G} {cA : Nat → ClassId} {Z : mZ} {bs : Ad} {n : Nat} {K : mK} {R : mR} {L : mL} (E : Ev p s m args c cX5_readLine 4 RX5 D cA Z bs) (hr : meth.sig.returnType = none) (hlk : meth.locks = false) {o : Nat} {otp : Nat} {a1 : Int32} (ho : isX5 K R o otp) {post : mI → Prop} {I : mI} {v2 : Int32} {H : Heap} {locs : List Loc} {ls : Array Slot} (hw : w_X5_readLine_77 o otp a1 post I v2) (hM : mm D cA bs (n, K, R, I, L) H) (hS : va_S (Ab bs) s.heap H locs) (hl : lv_has ls 4 [(0, .ref (ad bs o)), (2, .int v2)]) : W p l e ({ frames := 6, cells := 0, slots := 0, locals := 131 } : Room) s m args below meth c H locs 0 0 (MQ below (QV D cA bs (fun u => ∃ I', u = (n, K, R, I', L) ∧ post I')) args s 0 0 (Ab bs)) (F0 m 77 ls []) := by
  have hx := E.1.1
  have hb := E.1.2.1
  refine lv_aload_n hx hb dX5_readLine_77 rfl (lv_at hl 0 rfl) ?_
  refine m_geti E hM fs_X5_67 ho.1.1 dX5_readLine_78 ?_
  refine lv_iconst (v := 4) hx hb dX5_readLine_81 (by decide) ?_
  refine lv_icmp_eq (tgt := 90) hx hb dX5_readLine_82 (by decide) (fun cq => ?_) (fun cq => ?_)
  · have hw := hw.1 cq
    refine lv_aload_n hx hb dX5_readLine_90 rfl (lv_at hl 0 rfl) ?_
    refine m_cv (m_runV E hM hS cs_X5_64 ho.1.1 (by decide) rfl rfl (c_X5_nextToken ho hw) rfl rfl ⟨Nat.le_of_ble_eq_true rfl, Nat.le_of_ble_eq_true rfl⟩ rfl hl.1 rfl (Nat.le_of_ble_eq_true rfl) dX5_readLine_91 ⟨Nat.le_of_ble_eq_true rfl, Nat.le_of_ble_eq_true rfl⟩) hS (fun u H locs hp hM hS => ?_)
    obtain ⟨I11, rfl, hw⟩ := hp
    refine lv_aload_n hx hb dX5_readLine_94 rfl (lv_at hl 0 rfl) ?_
    refine m_geti E hM fs_X5_46 ho.1.1 dX5_readLine_95 ?_
    refine lv_if_ne (tgt := 106) hx hb dX5_readLine_98 (by decide) (fun cq => ?_) (fun cq => ?_)
    · have hw := hw.1 cq
      exact m_retv hx hb hr hlk hM hS ⟨_, rfl, hw⟩ dX5_readLine_106
    · have hw := hw.2 cq
      refine lv_aload_n hx hb dX5_readLine_101 rfl (lv_at hl 0 rfl) ?_
      refine lv_iload_n hx hb dX5_readLine_102 rfl (lv_at hl 1 rfl) ?_
      refine m_cv (m_runV E hM hS cs_X5_108 ho.1.1 (by decide) rfl rfl (c_X5_tell ho hw) rfl rfl ⟨Nat.le_of_ble_eq_true rfl, Nat.le_of_ble_eq_true rfl⟩ rfl hl.1 rfl (Nat.le_of_ble_eq_true rfl) dX5_readLine_103 ⟨Nat.le_of_ble_eq_true rfl, Nat.le_of_ble_eq_true rfl⟩) hS (fun u H locs hp hM hS => ?_)
      obtain ⟨I12, rfl, hw⟩ := hp
      exact m_retv hx hb hr hlk hM hS ⟨_, rfl, hw⟩ dX5_readLine_106
  · have hw := hw.2 cq
    refine lv_aload_n hx hb dX5_readLine_85 rfl (lv_at hl 0 rfl) ?_
    refine m_cv (m_runV E hM hS cs_X5_88 ho.1.1 (by decide) rfl rfl (c_X5_breakOff ho hw) rfl rfl ⟨Nat.le_of_ble_eq_true rfl, Nat.le_of_ble_eq_true rfl⟩ rfl hl.1 rfl (Nat.le_of_ble_eq_true rfl) dX5_readLine_86 ⟨Nat.le_of_ble_eq_true rfl, Nat.le_of_ble_eq_true rfl⟩) hS (fun u H locs hp hM hS => ?_)
    obtain ⟨I13, rfl, hw⟩ := hp
    exact m_retv hx hb hr hlk hM hS ⟨_, rfl, hw⟩ dX5_readLine_89
def w_X5_readLine_68 (o : Nat) (otp : Nat) (a1 : Int32) (post : mI → Prop) (I : mI) (v2 : Int32) : Prop := (¬ v2 = 5 → (w_X5_readLine_77 o otp a1 post) I v2) ∧ (v2 = 5 → w_X5_readFurtherGoals I o otp (fun I10 => (w_X5_readLine_77 o otp a1 post) I10 v2))
set_option maxRecDepth 100000 in
set_option maxHeartbeats 4000000 in
theorem s_X5_readLine_68 {p : Program} {l : Launch} {e : Env} {s : State} {m : MethodId} {args : Array Value} {below : List Frame} {meth : Method} {c : Code} {D : va_G} {cA : Nat → ClassId} {Z : mZ} {bs : Ad} {n : Nat} {K : mK} {R : mR} {L : mL} (E : Ev p s m args c cX5_readLine 4 RX5 D cA Z bs) (hr : meth.sig.returnType = none) (hlk : meth.locks = false) {o : Nat} {otp : Nat} {a1 : Int32} (ho : isX5 K R o otp) {post : mI → Prop} {I : mI} {v2 : Int32} {H : Heap} {locs : List Loc} {ls : Array Slot} (hw : w_X5_readLine_68 o otp a1 post I v2) (hM : mm D cA bs (n, K, R, I, L) H) (hS : va_S (Ab bs) s.heap H locs) (hl : lv_has ls 4 [(0, .ref (ad bs o)), (2, .int v2)]) : W p l e ({ frames := 6, cells := 0, slots := 0, locals := 131 } : Room) s m args below meth c H locs 0 0 (MQ below (QV D cA bs (fun u => ∃ I', u = (n, K, R, I', L) ∧ post I')) args s 0 0 (Ab bs)) (F0 m 68 ls []) := by
  have hx := E.1.1
  have hb := E.1.2.1
  refine lv_iload_n hx hb dX5_readLine_68 rfl (lv_at hl 1 rfl) ?_
  refine lv_iconst (v := 5) hx hb dX5_readLine_69 (by decide) ?_
  refine lv_icmp_ne (tgt := 77) hx hb dX5_readLine_70 (by decide) (fun cq => ?_) (fun cq => ?_)
  · have hw := hw.1 cq
    exact s_X5_readLine_77 E hr hlk ho  hw hM hS (lv_sub hl [0, 1] rfl)
  · have hw := hw.2 cq
    refine lv_aload_n hx hb dX5_readLine_73 rfl (lv_at hl 0 rfl) ?_
    refine m_cv (m_runV E hM hS cs_X5_105 ho.1.1 (by decide) rfl rfl (c_X5_readFurtherGoals ho hw) rfl rfl ⟨Nat.le_of_ble_eq_true rfl, Nat.le_of_ble_eq_true rfl⟩ rfl hl.1 rfl (Nat.le_of_ble_eq_true rfl) dX5_readLine_74 ⟨Nat.le_of_ble_eq_true rfl, Nat.le_of_ble_eq_true rfl⟩) hS (fun u H locs hp hM hS => ?_)
    obtain ⟨I10, rfl, hw⟩ := hp
    exact s_X5_readLine_77 E hr hlk ho  hw hM hS (lv_sub hl [0, 1] rfl)
def w_X5_readLine_33 (o : Nat) (otp : Nat) (a1 : Int32) (post : mI → Prop) (I : mI) (v2 : Int32) : Prop := w_X5_nextToken I o otp (fun I5 => (w_X5_readLine_39 o otp a1 post (w_X5_readLine_57 o otp a1 post) (w_X5_readLine_68 o otp a1 post)) I5 v2 0)
set_option maxRecDepth 100000 in
set_option maxHeartbeats 4000000 in
theorem s_X5_readLine_33 {p : Program} {l : Launch} {e : Env} {s : State} {m : MethodId} {args : Array Value} {below : List Frame} {meth : Method} {c : Code} {D : va_G} {cA : Nat → ClassId} {Z : mZ} {bs : Ad} {n : Nat} {K : mK} {R : mR} {L : mL} (E : Ev p s m args c cX5_readLine 4 RX5 D cA Z bs) (hr : meth.sig.returnType = none) (hlk : meth.locks = false) {o : Nat} {otp : Nat} {a1 : Int32} (ho : isX5 K R o otp) {post : mI → Prop} {I : mI} {v2 : Int32} {H : Heap} {locs : List Loc} {ls : Array Slot} (hw : w_X5_readLine_33 o otp a1 post I v2) (hM : mm D cA bs (n, K, R, I, L) H) (hS : va_S (Ab bs) s.heap H locs) (hl : lv_has ls 4 [(0, .ref (ad bs o)), (2, .int v2)]) : W p l e ({ frames := 6, cells := 0, slots := 0, locals := 131 } : Room) s m args below meth c H locs 0 0 (MQ below (QV D cA bs (fun u => ∃ I', u = (n, K, R, I', L) ∧ post I')) args s 0 0 (Ab bs)) (F0 m 33 ls []) := by
  have hx := E.1.1
  have hb := E.1.2.1
  refine lv_aload_n hx hb dX5_readLine_33 rfl (lv_at hl 0 rfl) ?_
  refine m_cv (m_runV E hM hS cs_X5_64 ho.1.1 (by decide) rfl rfl (c_X5_nextToken ho hw) rfl rfl ⟨Nat.le_of_ble_eq_true rfl, Nat.le_of_ble_eq_true rfl⟩ rfl hl.1 rfl (Nat.le_of_ble_eq_true rfl) dX5_readLine_34 ⟨Nat.le_of_ble_eq_true rfl, Nat.le_of_ble_eq_true rfl⟩) hS (fun u H locs hp hM hS => ?_)
  obtain ⟨I5, rfl, hw⟩ := hp
  refine lv_iconst (v := 0) hx hb dX5_readLine_37 (by decide) ?_
  refine lv_istore_n (lv' := [(3, .int 0), (0, .ref (ad bs o)), (2, .int v2)]) hx hb dX5_readLine_38 rfl hl (by decide) rfl (fun ls hl => ?_)
  exact s_X5_readLine_39 E hr hlk ho (fun I H locs ls  hw hM hS hl => s_X5_readLine_57 E hr hlk ho  hw hM hS hl) (fun I v2 H locs ls  hw hM hS hl => s_X5_readLine_68 E hr hlk ho  hw hM hS hl)  hw hM hS (lv_sub hl [1, 2, 0] rfl)
def w_X5_readLine (I : mI) (o : Nat) (otp : Nat) (a1 : Int32) (post : mI → Prop) : Prop := w_X5_lineAtToken I o otp a1 (fun r1 => (¬ r1 = (-1) → w_X5_isFull I o otp r1 (fun b2 => (b2 = false → (w_X5_readLine_33 o otp a1 post) I r1) ∧ (b2 = true → w_X5_blame I o otp 3 (I o 8) (fun I3 => (w_X5_readLine_33 o otp a1 post) I3 r1)))) ∧ (r1 = (-1) → w_X5_breakOff I o otp (fun I4 => post I4)))
set_option maxRecDepth 100000 in
set_option maxHeartbeats 4000000 in
theorem c_X5_readLine {l : Launch} {D : va_G} {cA : Nat → ClassId} {Z : mZ} {bs : Ad} {n : Nat} {K : mK} {R : mR} {I : mI} {L : mL} {o : Nat} {otp : Nat} {a1 : Int32} {post : mI → Prop} (ho : isX5 K R o otp) (hw : w_X5_readLine I o otp a1 post) : Met l yX5_readLine (.code yX5_readLine cX5_readLine 4 none :: gw) ({ frames := 6, cells := 0, slots := 0, locals := 131 } : Room) (PreM D cA Z bs (n, K, R, I, L) [.ref (ad bs o), .int a1]) (QV D cA bs (fun u => ∃ I', u = (n, K, R, I', L) ∧ post I')) 0 0 (Ab bs) := by
  refine m_met (by decide) (Nat.le_of_ble_eq_true rfl) (fun p e s m below meth c ls E hr hlk hM hS hl => ?_)
  have E : Ev p s m _ c cX5_readLine 4 RX5 D cA Z bs := E
  have hl : lv_has ls 4 [(0, .ref (ad bs o)), (1, .int a1)] := hl
  have hx := E.1.1
  have hb := E.1.2.1
  generalize hHe : s.heap = H at hM ⊢
  have hS : va_S (Ab bs) s.heap H [] := by rw [← hHe]; exact va_S.rf
  clear hHe
  refine lv_aload_n hx hb dX5_readLine_0 rfl (lv_at hl 0 rfl) ?_
  refine lv_iload_n hx hb dX5_readLine_1 rfl (lv_at hl 1 rfl) ?_
  refine m_ci (m_runV E hM hS cs_X5_84 ho.1.1 (by decide) rfl rfl (c_X5_lineAtToken ho hw) rfl rfl ⟨Nat.le_of_ble_eq_true rfl, Nat.le_of_ble_eq_true rfl⟩ rfl hl.1 rfl (Nat.le_of_ble_eq_true rfl) dX5_readLine_2 ⟨Nat.le_of_ble_eq_true rfl, Nat.le_of_ble_eq_true rfl⟩) hS (fun r1 u H locs hp hM hS => ?_)
  obtain ⟨rfl, hw⟩ := hp
  refine lv_istore_n (lv' := [(2, .int r1), (0, .ref (ad bs o)), (1, .int a1)]) hx hb dX5_readLine_5 rfl hl (by decide) rfl (fun ls hl => ?_)
  refine lv_iload_n hx hb dX5_readLine_6 rfl (lv_at hl 0 rfl) ?_
  refine lv_iconst (v := (-1)) hx hb dX5_readLine_7 (by decide) ?_
  refine lv_icmp_ne (tgt := 16) hx hb dX5_readLine_8 (by decide) (fun cq => ?_) (fun cq => ?_)
  · have hw := hw.1 cq
    refine lv_aload_n hx hb dX5_readLine_16 rfl (lv_at hl 1 rfl) ?_
    refine lv_iload_n hx hb dX5_readLine_17 rfl (lv_at hl 0 rfl) ?_
    refine m_ci (m_runV E hM hS cs_X5_91 ho.1.1 (by decide) rfl rfl (c_X5_isFull ho hw) rfl rfl ⟨Nat.le_of_ble_eq_true rfl, Nat.le_of_ble_eq_true rfl⟩ rfl hl.1 rfl (Nat.le_of_ble_eq_true rfl) dX5_readLine_18 ⟨Nat.le_of_ble_eq_true rfl, Nat.le_of_ble_eq_true rfl⟩) hS (fun r9 u H locs hp hM hS => ?_)
    obtain ⟨b2, rfl, rfl, hw⟩ := hp
    refine lv_if_eq (tgt := 33) hx hb dX5_readLine_21 (by decide) (fun cq => ?_) (fun cq => ?_)
    · have hw := hw.1 (bI_f cq)
      exact s_X5_readLine_33 E hr hlk ho  hw hM hS (lv_sub hl [1, 0] rfl)
    · have hw := hw.2 (bI_t cq)
      refine lv_aload_n hx hb dX5_readLine_24 rfl (lv_at hl 1 rfl) ?_
      refine lv_iconst (v := 3) hx hb dX5_readLine_25 (by decide) ?_
      refine lv_aload_n hx hb dX5_readLine_26 rfl (lv_at hl 1 rfl) ?_
      refine m_geti E hM fs_X5_95 ho.1.1 dX5_readLine_27 ?_
      refine m_cv (m_runV E hM hS cs_X5_80 ho.1.1 (by decide) rfl rfl (c_X5_blame ho hw) rfl rfl ⟨Nat.le_of_ble_eq_true rfl, Nat.le_of_ble_eq_true rfl⟩ rfl hl.1 rfl (Nat.le_of_ble_eq_true rfl) dX5_readLine_30 ⟨Nat.le_of_ble_eq_true rfl, Nat.le_of_ble_eq_true rfl⟩) hS (fun u H locs hp hM hS => ?_)
      obtain ⟨I3, rfl, hw⟩ := hp
      exact s_X5_readLine_33 E hr hlk ho  hw hM hS (lv_sub hl [1, 0] rfl)
  · have hw := hw.2 cq
    refine lv_aload_n hx hb dX5_readLine_11 rfl (lv_at hl 1 rfl) ?_
    refine m_cv (m_runV E hM hS cs_X5_88 ho.1.1 (by decide) rfl rfl (c_X5_breakOff ho hw) rfl rfl ⟨Nat.le_of_ble_eq_true rfl, Nat.le_of_ble_eq_true rfl⟩ rfl hl.1 rfl (Nat.le_of_ble_eq_true rfl) dX5_readLine_12 ⟨Nat.le_of_ble_eq_true rfl, Nat.le_of_ble_eq_true rfl⟩) hS (fun u H locs hp hM hS => ?_)
    obtain ⟨I4, rfl, hw⟩ := hp
    exact m_retv hx hb hr hlk hM hS ⟨_, rfl, hw⟩ dX5_readLine_15
theorem dX5_read_0 : decode cX5_read 0 = .ok (.aload_n 0, 1) := by decide +kernel
theorem dX5_read_1 : decode cX5_read 1 = .ok (.iload_n 2, 1) := by decide +kernel
theorem dX5_read_2 : decode cX5_read 2 = .ok (.aload_n 0, 1) := by decide +kernel
theorem dX5_read_3 : decode cX5_read 3 = .ok (.getfield 29, 3) := by decide +kernel
theorem dX5_read_6 : decode cX5_read 6 = .ok (.arraylength, 1) := by decide +kernel
theorem dX5_read_7 : decode cX5_read 7 = .ok (.invokestatic 33, 3) := by decide +kernel
theorem dX5_read_10 : decode cX5_read 10 = .ok (.putfield 39, 3) := by decide +kernel
theorem dX5_read_13 : decode cX5_read 13 = .ok (.aload_n 0, 1) := by decide +kernel
theorem dX5_read_14 : decode cX5_read 14 = .ok (.iconst 0, 1) := by decide +kernel
theorem dX5_read_15 : decode cX5_read 15 = .ok (.putfield 43, 3) := by decide +kernel
theorem dX5_read_18 : decode cX5_read 18 = .ok (.aload_n 0, 1) := by decide +kernel
theorem dX5_read_19 : decode cX5_read 19 = .ok (.iconst 0, 1) := by decide +kernel
theorem dX5_read_20 : decode cX5_read 20 = .ok (.putfield 46, 3) := by decide +kernel
theorem dX5_read_23 : decode cX5_read 23 = .ok (.aload_n 0, 1) := by decide +kernel
theorem dX5_read_24 : decode cX5_read 24 = .ok (.iconst (-1), 1) := by decide +kernel
theorem dX5_read_25 : decode cX5_read 25 = .ok (.putfield 49, 3) := by decide +kernel
theorem dX5_read_28 : decode cX5_read 28 = .ok (.aload_n 0, 1) := by decide +kernel
theorem dX5_read_29 : decode cX5_read 29 = .ok (.iconst (-1), 1) := by decide +kernel
theorem dX5_read_30 : decode cX5_read 30 = .ok (.putfield 52, 3) := by decide +kernel
theorem dX5_read_33 : decode cX5_read 33 = .ok (.aload_n 0, 1) := by decide +kernel
theorem dX5_read_34 : decode cX5_read 34 = .ok (.iconst (-1), 1) := by decide +kernel
theorem dX5_read_35 : decode cX5_read 35 = .ok (.putfield 55, 3) := by decide +kernel
theorem dX5_read_38 : decode cX5_read 38 = .ok (.aload_n 0, 1) := by decide +kernel
theorem dX5_read_39 : decode cX5_read 39 = .ok (.getfield 12, 3) := by decide +kernel
theorem dX5_read_42 : decode cX5_read 42 = .ok (.invokevirtual 58, 3) := by decide +kernel
theorem dX5_read_45 : decode cX5_read 45 = .ok (.aload_n 0, 1) := by decide +kernel
theorem dX5_read_46 : decode cX5_read 46 = .ok (.getfield 21, 3) := by decide +kernel
theorem dX5_read_49 : decode cX5_read 49 = .ok (.iconst 0, 1) := by decide +kernel
theorem dX5_read_50 : decode cX5_read 50 = .ok (.putfield 61, 3) := by decide +kernel
theorem dX5_read_53 : decode cX5_read 53 = .ok (.aload_n 0, 1) := by decide +kernel
theorem dX5_read_54 : decode cX5_read 54 = .ok (.invokevirtual 64, 3) := by decide +kernel
theorem dX5_read_57 : decode cX5_read 57 = .ok (.iconst 0, 1) := by decide +kernel
theorem dX5_read_58 : decode cX5_read 58 = .ok (.istore_n 3, 1) := by decide +kernel
theorem dX5_read_59 : decode cX5_read 59 = .ok (.iload_n 3, 1) := by decide +kernel
theorem dX5_read_60 : decode cX5_read 60 = .ok (.aload_n 0, 1) := by decide +kernel
theorem dX5_read_61 : decode cX5_read 61 = .ok (.getfield 39, 3) := by decide +kernel
theorem dX5_read_64 : decode cX5_read 64 = .ok (.if_icmp .gt 29, 3) := by decide +kernel
theorem dX5_read_67 : decode cX5_read 67 = .ok (.aload_n 0, 1) := by decide +kernel
theorem dX5_read_68 : decode cX5_read 68 = .ok (.getfield 67, 3) := by decide +kernel
theorem dX5_read_71 : decode cX5_read 71 = .ok (.ifCond .eq 22, 3) := by decide +kernel
theorem dX5_read_74 : decode cX5_read 74 = .ok (.aload_n 0, 1) := by decide +kernel
theorem dX5_read_75 : decode cX5_read 75 = .ok (.getfield 46, 3) := by decide +kernel
theorem dX5_read_78 : decode cX5_read 78 = .ok (.iconst 1, 1) := by decide +kernel
theorem dX5_read_79 : decode cX5_read 79 = .ok (.if_icmp .eq 14, 3) := by decide +kernel
theorem dX5_read_82 : decode cX5_read 82 = .ok (.aload_n 0, 1) := by decide +kernel
theorem dX5_read_83 : decode cX5_read 83 = .ok (.iload_n 1, 1) := by decide +kernel
theorem dX5_read_84 : decode cX5_read 84 = .ok (.invokevirtual 70, 3) := by decide +kernel
theorem dX5_read_87 : decode cX5_read 87 = .ok (.iinc 3 1, 3) := by decide +kernel
theorem dX5_read_90 : decode cX5_read 90 = .ok (.goto (-31), 3) := by decide +kernel
theorem dX5_read_93 : decode cX5_read 93 = .ok (.aload_n 0, 1) := by decide +kernel
theorem dX5_read_94 : decode cX5_read 94 = .ok (.getfield 52, 3) := by decide +kernel
theorem dX5_read_97 : decode cX5_read 97 = .ok (.aload_n 0, 1) := by decide +kernel
theorem dX5_read_98 : decode cX5_read 98 = .ok (.getfield 12, 3) := by decide +kernel
theorem dX5_read_101 : decode cX5_read 101 = .ok (.getfield 74, 3) := by decide +kernel
theorem dX5_read_104 : decode cX5_read 104 = .ok (.if_icmp .ge 17, 3) := by decide +kernel
theorem dX5_read_107 : decode cX5_read 107 = .ok (.aload_n 0, 1) := by decide +kernel
theorem dX5_read_108 : decode cX5_read 108 = .ok (.getfield 55, 3) := by decide +kernel
theorem dX5_read_111 : decode cX5_read 111 = .ok (.aload_n 0, 1) := by decide +kernel
theorem dX5_read_112 : decode cX5_read 112 = .ok (.getfield 12, 3) := by decide +kernel
theorem dX5_read_115 : decode cX5_read 115 = .ok (.getfield 77, 3) := by decide +kernel
theorem dX5_read_118 : decode cX5_read 118 = .ok (.if_icmp .lt 7, 3) := by decide +kernel
theorem dX5_read_121 : decode cX5_read 121 = .ok (.iconst 1, 1) := by decide +kernel
theorem dX5_read_122 : decode cX5_read 122 = .ok (.goto 4, 3) := by decide +kernel
theorem dX5_read_125 : decode cX5_read 125 = .ok (.iconst 0, 1) := by decide +kernel
theorem dX5_read_126 : decode cX5_read 126 = .ok (.istore_n 3, 1) := by decide +kernel
theorem dX5_read_127 : decode cX5_read 127 = .ok (.iload_n 1, 1) := by decide +kernel
theorem dX5_read_128 : decode cX5_read 128 = .ok (.ifCond .ne 16, 3) := by decide +kernel
theorem dX5_read_131 : decode cX5_read 131 = .ok (.iload_n 3, 1) := by decide +kernel
theorem dX5_read_132 : decode cX5_read 132 = .ok (.ifCond .eq 12, 3) := by decide +kernel
theorem dX5_read_135 : decode cX5_read 135 = .ok (.aload_n 0, 1) := by decide +kernel
theorem dX5_read_136 : decode cX5_read 136 = .ok (.iconst 4, 1) := by decide +kernel
theorem dX5_read_137 : decode cX5_read 137 = .ok (.aload_n 0, 1) := by decide +kernel
theorem dX5_read_138 : decode cX5_read 138 = .ok (.getfield 39, 3) := by decide +kernel
theorem dX5_read_141 : decode cX5_read 141 = .ok (.invokevirtual 80, 3) := by decide +kernel
theorem dX5_read_144 : decode cX5_read 144 = .ok (.return_, 1) := by decide +kernel
def w_X5_read_59 (o : Nat) (otp : Nat) (a1 : Int32) (a2 : Int32) (post : mI → Prop) (k93 : mI → Prop) (I : mI) (v3 : Int32) : Prop := ∀ ZZ : (mI → Int32 → Prop), (∀ (I : mI) (v3 : Int32), (((I o 5) < v3 → k93 I) ∧ (¬ (I o 5) < v3 → ((I o 7) = 0 → k93 I) ∧ (¬ (I o 7) = 0 → ((I o 2) = 1 → k93 I) ∧ (¬ (I o 2) = 1 → w_X5_readLine I o otp a1 (fun I10 => ∀ x11, x11 = v3 + 1 → ZZ I10 x11))))) → ZZ I v3) → ZZ I v3
set_option maxRecDepth 100000 in
set_option maxHeartbeats 4000000 in
theorem s_X5_read_59 {p : Program} {l : Launch} {e : Env} {s : State} {m : MethodId} {args : Array Value} {below : List Frame} {meth : Method} {c : Code} {D : va_G} {cA : Nat → ClassId} {Z : mZ} {bs : Ad} {n : Nat} {K : mK} {R : mR} {L : mL} (E : Ev p s m args c cX5_read 4 RX5 D cA Z bs) (hr : meth.sig.returnType = none) (hlk : meth.locks = false) {o : Nat} {otp : Nat} {a1 : Int32} {a2 : Int32} (ho : isX5 K R o otp) {post : mI → Prop} {k93 : mI → Prop} (hk93 : ∀ (I : mI) (H : Heap) (locs : List Loc) (ls : Array Slot), k93 I → mm D cA bs (n, K, R, I, L) H → va_S (Ab bs) s.heap H locs → lv_has ls 4 [(0, .ref (ad bs o)), (1, .int a1)] → W p l e ({ frames := 7, cells := 0, slots := 0, locals := 154 } : Room) s m args below meth c H locs 0 0 (MQ below (QV D cA bs (fun u => ∃ I', u = (n, K, R, I', L) ∧ post I')) args s 0 0 (Ab bs)) (F0 m 93 ls [])) {I : mI} {v3 : Int32} {H : Heap} {locs : List Loc} {ls : Array Slot} (hw : w_X5_read_59 o otp a1 a2 post k93 I v3) (hM : mm D cA bs (n, K, R, I, L) H) (hS : va_S (Ab bs) s.heap H locs) (hl : lv_has ls 4 [(0, .ref (ad bs o)), (1, .int a1), (3, .int v3)]) : W p l e ({ frames := 7, cells := 0, slots := 0, locals := 154 } : Room) s m args below meth c H locs 0 0 (MQ below (QV D cA bs (fun u => ∃ I', u = (n, K, R, I', L) ∧ post I')) args s 0 0 (Ab bs)) (F0 m 59 ls []) := by
  have hx := E.1.1
  have hb := E.1.2.1
  refine hw (fun I v3 => ∀ (H : Heap) (locs : List Loc) (ls : Array Slot), mm D cA bs (n, K, R, I, L) H → va_S (Ab bs) s.heap H locs → lv_has ls 4 [(0, .ref (ad bs o)), (1, .int a1), (3, .int v3)] → W p l e ({ frames := 7, cells := 0, slots := 0, locals := 154 } : Room) s m args below meth c H locs 0 0 (MQ below (QV D cA bs (fun u => ∃ I', u = (n, K, R, I', L) ∧ post I')) args s 0 0 (Ab bs)) (F0 m 59 ls [])) ?_ H locs ls hM hS hl
  clear hw hM hS hl
  intro I v3 hw H locs ls hM hS hl
  refine lv_iload_n hx hb dX5_read_59 rfl (lv_at hl 2 rfl) ?_
  refine lv_aload_n hx hb dX5_read_60 rfl (lv_at hl 0 rfl) ?_
  refine m_geti E hM fs_X5_39 ho.1.1 dX5_read_61 ?_
  refine lv_icmp_gt (tgt := 93) hx hb dX5_read_64 (by decide) (fun cq => ?_) (fun cq => ?_)
  · have hw := hw.1 cq
    exact hk93 _ H locs ls  hw hM hS (lv_sub hl [0, 1] rfl)
  · have hw := hw.2 cq
    refine lv_aload_n hx hb dX5_read_67 rfl (lv_at hl 0 rfl) ?_
    refine m_geti E hM fs_X5_67 ho.1.1 dX5_read_68 ?_
    refine lv_if_eq (tgt := 93) hx hb dX5_read_71 (by decide) (fun cq => ?_) (fun cq => ?_)
    · have hw := hw.1 cq
      exact hk93 _ H locs ls  hw hM hS (lv_sub hl [0, 1] rfl)
    · have hw := hw.2 cq
      refine lv_aload_n hx hb dX5_read_74 rfl (lv_at hl 0 rfl) ?_
      refine m_geti E hM fs_X5_46 ho.1.1 dX5_read_75 ?_
      refine lv_iconst (v := 1) hx hb dX5_read_78 (by decide) ?_
      refine lv_icmp_eq (tgt := 93) hx hb dX5_read_79 (by decide) (fun cq => ?_) (fun cq => ?_)
      · have hw := hw.1 cq
        exact hk93 _ H locs ls  hw hM hS (lv_sub hl [0, 1] rfl)
      · have hw := hw.2 cq
        refine lv_aload_n hx hb dX5_read_82 rfl (lv_at hl 0 rfl) ?_
        refine lv_iload_n hx hb dX5_read_83 rfl (lv_at hl 1 rfl) ?_
        refine m_cv (m_runV E hM hS cs_X5_70 ho.1.1 (by decide) rfl rfl (c_X5_readLine ho hw) rfl rfl ⟨Nat.le_of_ble_eq_true rfl, Nat.le_of_ble_eq_true rfl⟩ rfl hl.1 rfl (Nat.le_of_ble_eq_true rfl) dX5_read_84 ⟨Nat.le_of_ble_eq_true rfl, Nat.le_of_ble_eq_true rfl⟩) hS (fun u H locs hp hM hS => ?_)
        obtain ⟨I10, rfl, hw⟩ := hp
        obtain ⟨x11, ex11⟩ : ∃ y : Int32, y = v3 + 1 := ⟨_, rfl⟩
        have hw := hw x11 ex11
        refine lv_iinc (v := x11) (lv' := [(3, .int x11), (0, .ref (ad bs o)), (1, .int a1)]) hx hb dX5_read_87 hl (k := 2) rfl (by rw [ex11]; rfl) (by decide) rfl (fun ls hl => ?_)
        refine lv_goto (tgt := 59) hx hb dX5_read_90 (by decide) ?_
        exact hw H locs ls  hM hS (lv_sub hl [1, 2, 0] rfl)
def w_X5_read_126 (o : Nat) (otp : Nat) (a1 : Int32) (a2 : Int32) (post : mI → Prop) (I : mI) (s0 : Int32) : Prop := (¬ a1 = 0 → post I) ∧ (a1 = 0 → (s0 = 0 → post I) ∧ (¬ s0 = 0 → w_X5_blame I o otp 4 (I o 5) (fun I12 => post I12)))
set_option maxRecDepth 100000 in
set_option maxHeartbeats 4000000 in
theorem s_X5_read_126 {p : Program} {l : Launch} {e : Env} {s : State} {m : MethodId} {args : Array Value} {below : List Frame} {meth : Method} {c : Code} {D : va_G} {cA : Nat → ClassId} {Z : mZ} {bs : Ad} {n : Nat} {K : mK} {R : mR} {L : mL} (E : Ev p s m args c cX5_read 4 RX5 D cA Z bs) (hr : meth.sig.returnType = none) (hlk : meth.locks = false) {o : Nat} {otp : Nat} {a1 : Int32} {a2 : Int32} (ho : isX5 K R o otp) {post : mI → Prop} {I : mI} {s0 : Int32} {H : Heap} {locs : List Loc} {ls : Array Slot} (hw : w_X5_read_126 o otp a1 a2 post I s0) (hM : mm D cA bs (n, K, R, I, L) H) (hS : va_S (Ab bs) s.heap H locs) (hl : lv_has ls 4 [(0, .ref (ad bs o)), (1, .int a1)]) : W p l e ({ frames := 7, cells := 0, slots := 0, locals := 154 } : Room) s m args below meth c H locs 0 0 (MQ below (QV D cA bs (fun u => ∃ I', u = (n, K, R, I', L) ∧ post I')) args s 0 0 (Ab bs)) (F0 m 126 ls [.int s0]) := by
  have hx := E.1.1
  have hb := E.1.2.1
  refine lv_istore_n (lv' := [(3, .int s0), (0, .ref (ad bs o)), (1, .int a1)]) hx hb dX5_read_126 rfl hl (by decide) rfl (fun ls hl => ?_)
  refine lv_iload_n hx hb dX5_read_127 rfl (lv_at hl 2 rfl) ?_
  refine lv_if_ne (tgt := 144) hx hb dX5_read_128 (by decide) (fun cq => ?_) (fun cq => ?_)
  · have hw := hw.1 cq
    exact m_retv hx hb hr hlk hM hS ⟨_, rfl, hw⟩ dX5_read_144
  · have hw := hw.2 cq
    refine lv_iload_n hx hb dX5_read_131 rfl (lv_at hl 0 rfl) ?_
    refine lv_if_eq (tgt := 144) hx hb dX5_read_132 (by decide) (fun cq => ?_) (fun cq => ?_)
    · have hw := hw.1 cq
      exact m_retv hx hb hr hlk hM hS ⟨_, rfl, hw⟩ dX5_read_144
    · have hw := hw.2 cq
      refine lv_aload_n hx hb dX5_read_135 rfl (lv_at hl 1 rfl) ?_
      refine lv_iconst (v := 4) hx hb dX5_read_136 (by decide) ?_
      refine lv_aload_n hx hb dX5_read_137 rfl (lv_at hl 1 rfl) ?_
      refine m_geti E hM fs_X5_39 ho.1.1 dX5_read_138 ?_
      refine m_cv (m_runV E hM hS cs_X5_80 ho.1.1 (by decide) rfl rfl (c_X5_blame ho hw) rfl rfl ⟨Nat.le_of_ble_eq_true rfl, Nat.le_of_ble_eq_true rfl⟩ rfl hl.1 rfl (Nat.le_of_ble_eq_true rfl) dX5_read_141 ⟨Nat.le_of_ble_eq_true rfl, Nat.le_of_ble_eq_true rfl⟩) hS (fun u H locs hp hM hS => ?_)
      obtain ⟨I12, rfl, hw⟩ := hp
      exact m_retv hx hb hr hlk hM hS ⟨_, rfl, hw⟩ dX5_read_144
def w_X5_read_121 (o : Nat) (otp : Nat) (a1 : Int32) (a2 : Int32) (post : mI → Prop) (I : mI) : Prop := (w_X5_read_126 o otp a1 a2 post) I 1
set_option maxRecDepth 100000 in
set_option maxHeartbeats 4000000 in
theorem s_X5_read_121 {p : Program} {l : Launch} {e : Env} {s : State} {m : MethodId} {args : Array Value} {below : List Frame} {meth : Method} {c : Code} {D : va_G} {cA : Nat → ClassId} {Z : mZ} {bs : Ad} {n : Nat} {K : mK} {R : mR} {L : mL} (E : Ev p s m args c cX5_read 4 RX5 D cA Z bs) (hr : meth.sig.returnType = none) (hlk : meth.locks = false) {o : Nat} {otp : Nat} {a1 : Int32} {a2 : Int32} (ho : isX5 K R o otp) {post : mI → Prop} {I : mI} {H : Heap} {locs : List Loc} {ls : Array Slot} (hw : w_X5_read_121 o otp a1 a2 post I) (hM : mm D cA bs (n, K, R, I, L) H) (hS : va_S (Ab bs) s.heap H locs) (hl : lv_has ls 4 [(0, .ref (ad bs o)), (1, .int a1)]) : W p l e ({ frames := 7, cells := 0, slots := 0, locals := 154 } : Room) s m args below meth c H locs 0 0 (MQ below (QV D cA bs (fun u => ∃ I', u = (n, K, R, I', L) ∧ post I')) args s 0 0 (Ab bs)) (F0 m 121 ls []) := by
  have hx := E.1.1
  have hb := E.1.2.1
  refine lv_iconst (v := 1) hx hb dX5_read_121 (by decide) ?_
  refine lv_goto (tgt := 126) hx hb dX5_read_122 (by decide) ?_
  exact s_X5_read_126 E hr hlk ho  hw hM hS (lv_sub hl [0, 1] rfl)
def w_X5_read_93 (o : Nat) (otp : Nat) (a1 : Int32) (a2 : Int32) (post : mI → Prop) (I : mI) : Prop := ((I (o + 1) 0) ≤ (I o 12) → (w_X5_read_121 o otp a1 a2 post) I) ∧ (¬ (I (o + 1) 0) ≤ (I o 12) → ((I o 13) < (I (o + 1) 3) → (w_X5_read_126 o otp a1 a2 post) I 0) ∧ (¬ (I o 13) < (I (o + 1) 3) → (w_X5_read_121 o otp a1 a2 post) I))
set_option maxRecDepth 100000 in
set_option maxHeartbeats 4000000 in
theorem s_X5_read_93 {p : Program} {l : Launch} {e : Env} {s : State} {m : MethodId} {args : Array Value} {below : List Frame} {meth : Method} {c : Code} {D : va_G} {cA : Nat → ClassId} {Z : mZ} {bs : Ad} {n : Nat} {K : mK} {R : mR} {L : mL} (E : Ev p s m args c cX5_read 4 RX5 D cA Z bs) (hr : meth.sig.returnType = none) (hlk : meth.locks = false) {o : Nat} {otp : Nat} {a1 : Int32} {a2 : Int32} (ho : isX5 K R o otp) {post : mI → Prop} {I : mI} {H : Heap} {locs : List Loc} {ls : Array Slot} (hw : w_X5_read_93 o otp a1 a2 post I) (hM : mm D cA bs (n, K, R, I, L) H) (hS : va_S (Ab bs) s.heap H locs) (hl : lv_has ls 4 [(0, .ref (ad bs o)), (1, .int a1)]) : W p l e ({ frames := 7, cells := 0, slots := 0, locals := 154 } : Room) s m args below meth c H locs 0 0 (MQ below (QV D cA bs (fun u => ∃ I', u = (n, K, R, I', L) ∧ post I')) args s 0 0 (Ab bs)) (F0 m 93 ls []) := by
  have hx := E.1.1
  have hb := E.1.2.1
  refine lv_aload_n hx hb dX5_read_93 rfl (lv_at hl 0 rfl) ?_
  refine m_geti E hM fs_X5_52 ho.1.1 dX5_read_94 ?_
  refine lv_aload_n hx hb dX5_read_97 rfl (lv_at hl 0 rfl) ?_
  refine m_getr E hM fs_X5_12 ho.1.1 ho.2.1.1 dX5_read_98 ?_
  refine m_geti E hM fs_X5_74 ho.2.1.2.1 dX5_read_101 ?_
  refine lv_icmp_ge (tgt := 121) hx hb dX5_read_104 (by decide) (fun cq => ?_) (fun cq => ?_)
  · have hw := hw.1 cq
    exact s_X5_read_121 E hr hlk ho  hw hM hS (lv_sub hl [0, 1] rfl)
  · have hw := hw.2 cq
    refine lv_aload_n hx hb dX5_read_107 rfl (lv_at hl 0 rfl) ?_
    refine m_geti E hM fs_X5_55 ho.1.1 dX5_read_108 ?_
    refine lv_aload_n hx hb dX5_read_111 rfl (lv_at hl 0 rfl) ?_
    refine m_getr E hM fs_X5_12 ho.1.1 ho.2.1.1 dX5_read_112 ?_
    refine m_geti E hM fs_X5_77 ho.2.1.2.1 dX5_read_115 ?_
    refine lv_icmp_lt (tgt := 125) hx hb dX5_read_118 (by decide) (fun cq => ?_) (fun cq => ?_)
    · have hw := hw.1 cq
      refine lv_iconst (v := 0) hx hb dX5_read_125 (by decide) ?_
      exact s_X5_read_126 E hr hlk ho  hw hM hS (lv_sub hl [0, 1] rfl)
    · have hw := hw.2 cq
      exact s_X5_read_121 E hr hlk ho  hw hM hS (lv_sub hl [0, 1] rfl)
def w_X5_read (I : mI) (o : Nat) (otp : Nat) (a1 : Int32) (a2 : Int32) (post : mI → Prop) : Prop := ∀ I1, I1 = up2 I o 5 (imin a2 (Int32.ofNat 600)) → ∀ I2, I2 = up2 I1 o 6 0 → ∀ I3, I3 = up2 I2 o 2 0 → ∀ I4, I4 = up2 I3 o 3 (-1) → ∀ I5, I5 = up2 I4 o 12 (-1) → ∀ I6, I6 = up2 I5 o 13 (-1) → w_X3_clear I6 (o + 1) (fun I7 => ∀ I8, I8 = up2 I7 (o + 15) 0 0 → w_X5_nextToken I8 o otp (fun I9 => (w_X5_read_59 o otp a1 a2 post (w_X5_read_93 o otp a1 a2 post)) I9 0))
set_option maxRecDepth 100000 in
set_option maxHeartbeats 4000000 in
theorem c_X5_read {l : Launch} {D : va_G} {cA : Nat → ClassId} {Z : mZ} {bs : Ad} {n : Nat} {K : mK} {R : mR} {I : mI} {L : mL} {o : Nat} {otp : Nat} {a1 : Int32} {a2 : Int32} {post : mI → Prop} (ho : isX5 K R o otp) (hw : w_X5_read I o otp a1 a2 post) : Met l yX5_read (.code yX5_read cX5_read 4 none :: gw) ({ frames := 7, cells := 0, slots := 0, locals := 154 } : Room) (PreM D cA Z bs (n, K, R, I, L) [.ref (ad bs o), .int a1, .int a2]) (QV D cA bs (fun u => ∃ I', u = (n, K, R, I', L) ∧ post I')) 0 0 (Ab bs) := by
  refine m_met (by decide) (Nat.le_of_ble_eq_true rfl) (fun p e s m below meth c ls E hr hlk hM hS hl => ?_)
  have E : Ev p s m _ c cX5_read 4 RX5 D cA Z bs := E
  have hl : lv_has ls 4 [(0, .ref (ad bs o)), (1, .int a1), (2, .int a2)] := hl
  have hx := E.1.1
  have hb := E.1.2.1
  generalize hHe : s.heap = H at hM ⊢
  have hS : va_S (Ab bs) s.heap H [] := by rw [← hHe]; exact va_S.rf
  clear hHe
  refine lv_aload_n hx hb dX5_read_0 rfl (lv_at hl 0 rfl) ?_
  refine lv_iload_n hx hb dX5_read_1 rfl (lv_at hl 2 rfl) ?_
  refine lv_aload_n hx hb dX5_read_2 rfl (lv_at hl 0 rfl) ?_
  refine m_getr E hM fs_X5_29 ho.1.1 ho.2.2.2.1 dX5_read_3 ?_
  refine m_alen E hM ho.2.2.2.2 (by simp) dX5_read_6 ?_
  refine m_min E ml_X5_33 hl.1 (Nat.le_of_ble_eq_true rfl) (Nat.le_of_ble_eq_true rfl) (Nat.le_of_ble_eq_true rfl) (Nat.le_of_ble_eq_true rfl) dX5_read_7 ?_
  refine m_puti E hM hS fp_X5_39 ho.1.1 rfl rfl dX5_read_10 (fun I1 H locs eI1 hM hS => ?_)
  have hw := hw I1 eI1
  refine lv_aload_n hx hb dX5_read_13 rfl (lv_at hl 0 rfl) ?_
  refine lv_iconst (v := 0) hx hb dX5_read_14 (by decide) ?_
  refine m_puti E hM hS fp_X5_43 ho.1.1 rfl rfl dX5_read_15 (fun I2 H locs eI2 hM hS => ?_)
  have hw := hw I2 eI2
  refine lv_aload_n hx hb dX5_read_18 rfl (lv_at hl 0 rfl) ?_
  refine lv_iconst (v := 0) hx hb dX5_read_19 (by decide) ?_
  refine m_puti E hM hS fp_X5_46 ho.1.1 rfl rfl dX5_read_20 (fun I3 H locs eI3 hM hS => ?_)
  have hw := hw I3 eI3
  refine lv_aload_n hx hb dX5_read_23 rfl (lv_at hl 0 rfl) ?_
  refine lv_iconst (v := (-1)) hx hb dX5_read_24 (by decide) ?_
  refine m_puti E hM hS fp_X5_49 ho.1.1 rfl rfl dX5_read_25 (fun I4 H locs eI4 hM hS => ?_)
  have hw := hw I4 eI4
  refine lv_aload_n hx hb dX5_read_28 rfl (lv_at hl 0 rfl) ?_
  refine lv_iconst (v := (-1)) hx hb dX5_read_29 (by decide) ?_
  refine m_puti E hM hS fp_X5_52 ho.1.1 rfl rfl dX5_read_30 (fun I5 H locs eI5 hM hS => ?_)
  have hw := hw I5 eI5
  refine lv_aload_n hx hb dX5_read_33 rfl (lv_at hl 0 rfl) ?_
  refine lv_iconst (v := (-1)) hx hb dX5_read_34 (by decide) ?_
  refine m_puti E hM hS fp_X5_55 ho.1.1 rfl rfl dX5_read_35 (fun I6 H locs eI6 hM hS => ?_)
  have hw := hw I6 eI6
  refine lv_aload_n hx hb dX5_read_38 rfl (lv_at hl 0 rfl) ?_
  refine m_getr E hM fs_X5_12 ho.1.1 ho.2.1.1 dX5_read_39 ?_
  refine m_cv (m_runV E hM hS cs_X5_58 ho.2.1.2.1 (by decide) rfl rfl (c_X3_clear ho.2.1.2 hw) rfl rfl ⟨Nat.le_of_ble_eq_true rfl, Nat.le_of_ble_eq_true rfl⟩ rfl hl.1 rfl (Nat.le_of_ble_eq_true rfl) dX5_read_42 ⟨Nat.le_of_ble_eq_true rfl, Nat.le_of_ble_eq_true rfl⟩) hS (fun u H locs hp hM hS => ?_)
  obtain ⟨I7, rfl, hw⟩ := hp
  refine lv_aload_n hx hb dX5_read_45 rfl (lv_at hl 0 rfl) ?_
  refine m_getr E hM fs_X5_21 ho.1.1 ho.2.2.1.1 dX5_read_46 ?_
  refine lv_iconst (v := 0) hx hb dX5_read_49 (by decide) ?_
  refine m_puti E hM hS fp_X5_61 ho.2.2.1.2.1 rfl rfl dX5_read_50 (fun I8 H locs eI8 hM hS => ?_)
  have hw := hw I8 eI8
  refine lv_aload_n hx hb dX5_read_53 rfl (lv_at hl 0 rfl) ?_
  refine m_cv (m_runV E hM hS cs_X5_64 ho.1.1 (by decide) rfl rfl (c_X5_nextToken ho hw) rfl rfl ⟨Nat.le_of_ble_eq_true rfl, Nat.le_of_ble_eq_true rfl⟩ rfl hl.1 rfl (Nat.le_of_ble_eq_true rfl) dX5_read_54 ⟨Nat.le_of_ble_eq_true rfl, Nat.le_of_ble_eq_true rfl⟩) hS (fun u H locs hp hM hS => ?_)
  obtain ⟨I9, rfl, hw⟩ := hp
  refine lv_iconst (v := 0) hx hb dX5_read_57 (by decide) ?_
  refine lv_istore_n (lv' := [(3, .int 0), (0, .ref (ad bs o)), (1, .int a1), (2, .int a2)]) hx hb dX5_read_58 rfl hl (by decide) rfl (fun ls hl => ?_)
  exact s_X5_read_59 E hr hlk ho (fun I H locs ls  hw hM hS hl => s_X5_read_93 E hr hlk ho  hw hM hS hl)  hw hM hS (lv_sub hl [1, 2, 0] rfl)
theorem dX11_text_0 : decode cX11_text 0 = .ok (.aload_n 0, 1) := by decide +kernel
theorem dX11_text_1 : decode cX11_text 1 = .ok (.getfield 12, 3) := by decide +kernel
theorem dX11_text_4 : decode cX11_text 4 = .ok (.getfield 81, 3) := by decide +kernel
theorem dX11_text_7 : decode cX11_text 7 = .ok (.istore_n 3, 1) := by decide +kernel
theorem dX11_text_8 : decode cX11_text 8 = .ok (.aload_n 0, 1) := by decide +kernel
theorem dX11_text_9 : decode cX11_text 9 = .ok (.getfield 12, 3) := by decide +kernel
theorem dX11_text_12 : decode cX11_text 12 = .ok (.iconst 0, 1) := by decide +kernel
theorem dX11_text_13 : decode cX11_text 13 = .ok (.putfield 81, 3) := by decide +kernel
theorem dX11_text_16 : decode cX11_text 16 = .ok (.aload_n 0, 1) := by decide +kernel
theorem dX11_text_17 : decode cX11_text 17 = .ok (.getfield 12, 3) := by decide +kernel
theorem dX11_text_20 : decode cX11_text 20 = .ok (.iconst 0, 1) := by decide +kernel
theorem dX11_text_21 : decode cX11_text 21 = .ok (.putfield 89, 3) := by decide +kernel
theorem dX11_text_24 : decode cX11_text 24 = .ok (.aload_n 0, 1) := by decide +kernel
theorem dX11_text_25 : decode cX11_text 25 = .ok (.getfield 12, 3) := by decide +kernel
theorem dX11_text_28 : decode cX11_text 28 = .ok (.iconst (-1), 1) := by decide +kernel
theorem dX11_text_29 : decode cX11_text 29 = .ok (.putfield 92, 3) := by decide +kernel
theorem dX11_text_32 : decode cX11_text 32 = .ok (.aload_n 0, 1) := by decide +kernel
theorem dX11_text_33 : decode cX11_text 33 = .ok (.iload_n 1, 1) := by decide +kernel
theorem dX11_text_34 : decode cX11_text 34 = .ok (.iload_n 2, 1) := by decide +kernel
theorem dX11_text_35 : decode cX11_text 35 = .ok (.invokevirtual 95, 3) := by decide +kernel
theorem dX11_text_38 : decode cX11_text 38 = .ok (.istore 4, 2) := by decide +kernel
theorem dX11_text_40 : decode cX11_text 40 = .ok (.iload 4, 2) := by decide +kernel
theorem dX11_text_42 : decode cX11_text 42 = .ok (.iconst (-1), 1) := by decide +kernel
theorem dX11_text_43 : decode cX11_text 43 = .ok (.if_icmp .ne 6, 3) := by decide +kernel
theorem dX11_text_46 : decode cX11_text 46 = .ok (.bipush (-2), 2) := by decide +kernel
theorem dX11_text_48 : decode cX11_text 48 = .ok (.ireturn, 1) := by decide +kernel
theorem dX11_text_49 : decode cX11_text 49 = .ok (.aload_n 0, 1) := by decide +kernel
theorem dX11_text_50 : decode cX11_text 50 = .ok (.getfield 29, 3) := by decide +kernel
theorem dX11_text_53 : decode cX11_text 53 = .ok (.iload_n 1, 1) := by decide +kernel
theorem dX11_text_54 : decode cX11_text 54 = .ok (.iload_n 3, 1) := by decide +kernel
theorem dX11_text_55 : decode cX11_text 55 = .ok (.invokevirtual 99, 3) := by decide +kernel
theorem dX11_text_58 : decode cX11_text 58 = .ok (.aload_n 0, 1) := by decide +kernel
theorem dX11_text_59 : decode cX11_text 59 = .ok (.getfield 12, 3) := by decide +kernel
theorem dX11_text_62 : decode cX11_text 62 = .ok (.aload_n 0, 1) := by decide +kernel
theorem dX11_text_63 : decode cX11_text 63 = .ok (.getfield 29, 3) := by decide +kernel
theorem dX11_text_66 : decode cX11_text 66 = .ok (.getfield 103, 3) := by decide +kernel
theorem dX11_text_69 : decode cX11_text 69 = .ok (.putfield 89, 3) := by decide +kernel
theorem dX11_text_72 : decode cX11_text 72 = .ok (.aload_n 0, 1) := by decide +kernel
theorem dX11_text_73 : decode cX11_text 73 = .ok (.getfield 12, 3) := by decide +kernel
theorem dX11_text_76 : decode cX11_text 76 = .ok (.aload_n 0, 1) := by decide +kernel
theorem dX11_text_77 : decode cX11_text 77 = .ok (.getfield 29, 3) := by decide +kernel
theorem dX11_text_80 : decode cX11_text 80 = .ok (.getfield 104, 3) := by decide +kernel
theorem dX11_text_83 : decode cX11_text 83 = .ok (.putfield 92, 3) := by decide +kernel
theorem dX11_text_86 : decode cX11_text 86 = .ok (.aload_n 0, 1) := by decide +kernel
theorem dX11_text_87 : decode cX11_text 87 = .ok (.getfield 29, 3) := by decide +kernel
theorem dX11_text_90 : decode cX11_text 90 = .ok (.getfield 103, 3) := by decide +kernel
theorem dX11_text_93 : decode cX11_text 93 = .ok (.ifCond .eq 5, 3) := by decide +kernel
theorem dX11_text_96 : decode cX11_text 96 = .ok (.iconst (-1), 1) := by decide +kernel
theorem dX11_text_97 : decode cX11_text 97 = .ok (.ireturn, 1) := by decide +kernel
theorem dX11_text_98 : decode cX11_text 98 = .ok (.aload_n 0, 1) := by decide +kernel
theorem dX11_text_99 : decode cX11_text 99 = .ok (.iload_n 1, 1) := by decide +kernel
theorem dX11_text_100 : decode cX11_text 100 = .ok (.iload 4, 2) := by decide +kernel
theorem dX11_text_102 : decode cX11_text 102 = .ok (.invokevirtual 105, 3) := by decide +kernel
theorem dX11_text_105 : decode cX11_text 105 = .ok (.iload 4, 2) := by decide +kernel
theorem dX11_text_107 : decode cX11_text 107 = .ok (.ireturn, 1) := by decide +kernel
def w_X11_text (I : mI) (a1 : Int32) (a2 : Int32) (post : Int32 → mI → Prop) : Prop := ∀ x1, x1 = (I 1 1) → ∀ I2, I2 = up2 I 1 1 0 → ∀ I3, I3 = up2 I2 1 2 0 → ∀ I4, I4 = up2 I3 1 3 (-1) → w_X11_placeFor I4 a1 a2 (fun r5 => (¬ r5 = (-1) → w_X5_read I4 44 2 a1 x1 (fun I6 => ∀ I7, I7 = up2 I6 1 2 (I6 44 2) → ∀ I8, I8 = up2 I7 1 3 (I7 44 3) → ((I8 44 2) = 0 → w_X11_takeText I8 a1 r5 (fun I9 => post r5 I9)) ∧ (¬ (I8 44 2) = 0 → post (-1) I8))) ∧ (r5 = (-1) → post (-2) I4))
set_option maxRecDepth 100000 in
set_option maxHeartbeats 4000000 in
theorem c_X11_text {l : Launch} {D : va_G} {cA : Nat → ClassId} {Z : mZ} {bs : Ad} {n : Nat} {K : mK} {R : mR} {I : mI} {L : mL} {a1 : Int32} {a2 : Int32} {post : Int32 → mI → Prop} (ho : isX11 K R ) (hw : w_X11_text I a1 a2 post) : Met l yX11_text (.code yX11_text cX11_text 5 (some .int) :: gw) ({ frames := 8, cells := 0, slots := 0, locals := 177 } : Room) (PreM D cA Z bs (n, K, R, I, L) [.ref (ad bs 0), .int a1, .int a2]) (QI D cA bs (fun r u => ∃ I', u = (n, K, R, I', L) ∧ post r I')) 0 0 (Ab bs) := by
  refine m_met (by decide) (Nat.le_of_ble_eq_true rfl) (fun p e s m below meth c ls E hr hlk hM hS hl => ?_)
  have E : Ev p s m _ c cX11_text 5 RX11 D cA Z bs := E
  have hl : lv_has ls 5 [(0, .ref (ad bs 0)), (1, .int a1), (2, .int a2)] := hl
  have hx := E.1.1
  have hb := E.1.2.1
  generalize hHe : s.heap = H at hM ⊢
  have hS : va_S (Ab bs) s.heap H [] := by rw [← hHe]; exact va_S.rf
  clear hHe
  refine lv_aload_n hx hb dX11_text_0 rfl (lv_at hl 0 rfl) ?_
  refine m_getr E hM fs_X11_12 ho.1 ho.2.1.1 dX11_text_1 ?_
  refine m_geti E hM fs_X11_81 ho.2.1.2.1.1 dX11_text_4 ?_
  refine lv_topi (fun x1 ex1 => ?_)
  have hw := hw x1 ex1
  refine lv_istore_n (lv' := [(3, .int x1), (0, .ref (ad bs 0)), (1, .int a1), (2, .int a2)]) hx hb dX11_text_7 rfl hl (by decide) rfl (fun ls hl => ?_)
  refine lv_aload_n hx hb dX11_text_8 rfl (lv_at hl 1 rfl) ?_
  refine m_getr E hM fs_X11_12 ho.1 ho.2.1.1 dX11_text_9 ?_
  refine lv_iconst (v := 0) hx hb dX11_text_12 (by decide) ?_
  refine m_puti E hM hS fp_X11_81 ho.2.1.2.1.1 rfl rfl dX11_text_13 (fun I2 H locs eI2 hM hS => ?_)
  have hw := hw I2 eI2
  refine lv_aload_n hx hb dX11_text_16 rfl (lv_at hl 1 rfl) ?_
  refine m_getr E hM fs_X11_12 ho.1 ho.2.1.1 dX11_text_17 ?_
  refine lv_iconst (v := 0) hx hb dX11_text_20 (by decide) ?_
  refine m_puti E hM hS fp_X11_89 ho.2.1.2.1.1 rfl rfl dX11_text_21 (fun I3 H locs eI3 hM hS => ?_)
  have hw := hw I3 eI3
  refine lv_aload_n hx hb dX11_text_24 rfl (lv_at hl 1 rfl) ?_
  refine m_getr E hM fs_X11_12 ho.1 ho.2.1.1 dX11_text_25 ?_
  refine lv_iconst (v := (-1)) hx hb dX11_text_28 (by decide) ?_
  refine m_puti E hM hS fp_X11_92 ho.2.1.2.1.1 rfl rfl dX11_text_29 (fun I4 H locs eI4 hM hS => ?_)
  have hw := hw I4 eI4
  refine lv_aload_n hx hb dX11_text_32 rfl (lv_at hl 1 rfl) ?_
  refine lv_iload_n hx hb dX11_text_33 rfl (lv_at hl 2 rfl) ?_
  refine lv_iload_n hx hb dX11_text_34 rfl (lv_at hl 3 rfl) ?_
  refine m_ci (m_runV E hM hS cs_X11_95 ho.1 (by decide) rfl rfl (c_X11_placeFor ho hw) rfl rfl ⟨Nat.le_of_ble_eq_true rfl, Nat.le_of_ble_eq_true rfl⟩ rfl hl.1 rfl (Nat.le_of_ble_eq_true rfl) dX11_text_35 ⟨Nat.le_of_ble_eq_true rfl, Nat.le_of_ble_eq_true rfl⟩) hS (fun r5 u H locs hp hM hS => ?_)
  obtain ⟨rfl, hw⟩ := hp
  refine lv_istore (lv' := [(4, .int r5), (3, .int x1), (0, .ref (ad bs 0)), (1, .int a1), (2, .int a2)]) hx hb dX11_text_38 hl (by decide) rfl (fun ls hl => ?_)
  refine lv_iload hx hb dX11_text_40 (lv_at hl 0 rfl) ?_
  refine lv_iconst (v := (-1)) hx hb dX11_text_42 (by decide) ?_
  refine lv_icmp_ne (tgt := 49) hx hb dX11_text_43 (by decide) (fun cq => ?_) (fun cq => ?_)
  · have hw := hw.1 cq
    refine lv_aload_n hx hb dX11_text_49 rfl (lv_at hl 2 rfl) ?_
    refine m_getr E hM fs_X11_29 ho.1 ho.2.2.2.1.1 dX11_text_50 ?_
    refine lv_iload_n hx hb dX11_text_53 rfl (lv_at hl 3 rfl) ?_
    refine lv_iload_n hx hb dX11_text_54 rfl (lv_at hl 1 rfl) ?_
    refine m_cv (m_runV E hM hS cs_X11_99 ho.2.2.2.1.2.1.1 (by decide) rfl rfl (c_X5_read ho.2.2.2.1.2 hw) rfl rfl ⟨Nat.le_of_ble_eq_true rfl, Nat.le_of_ble_eq_true rfl⟩ rfl hl.1 rfl (Nat.le_of_ble_eq_true rfl) dX11_text_55 ⟨Nat.le_of_ble_eq_true rfl, Nat.le_of_ble_eq_true rfl⟩) hS (fun u H locs hp hM hS => ?_)
    obtain ⟨I6, rfl, hw⟩ := hp
    refine lv_aload_n hx hb dX11_text_58 rfl (lv_at hl 2 rfl) ?_
    refine m_getr E hM fs_X11_12 ho.1 ho.2.1.1 dX11_text_59 ?_
    refine lv_aload_n hx hb dX11_text_62 rfl (lv_at hl 2 rfl) ?_
    refine m_getr E hM fs_X11_29 ho.1 ho.2.2.2.1.1 dX11_text_63 ?_
    refine m_geti E hM fs_X11_103 ho.2.2.2.1.2.1.1 dX11_text_66 ?_
    refine m_puti E hM hS fp_X11_89 ho.2.1.2.1.1 rfl rfl dX11_text_69 (fun I7 H locs eI7 hM hS => ?_)
    have hw := hw I7 eI7
    refine lv_aload_n hx hb dX11_text_72 rfl (lv_at hl 2 rfl) ?_
    refine m_getr E hM fs_X11_12 ho.1 ho.2.1.1 dX11_text_73 ?_
    refine lv_aload_n hx hb dX11_text_76 rfl (lv_at hl 2 rfl) ?_
    refine m_getr E hM fs_X11_29 ho.1 ho.2.2.2.1.1 dX11_text_77 ?_
    refine m_geti E hM fs_X11_104 ho.2.2.2.1.2.1.1 dX11_text_80 ?_
    refine m_puti E hM hS fp_X11_92 ho.2.1.2.1.1 rfl rfl dX11_text_83 (fun I8 H locs eI8 hM hS => ?_)
    have hw := hw I8 eI8
    refine lv_aload_n hx hb dX11_text_86 rfl (lv_at hl 2 rfl) ?_
    refine m_getr E hM fs_X11_29 ho.1 ho.2.2.2.1.1 dX11_text_87 ?_
    refine m_geti E hM fs_X11_103 ho.2.2.2.1.2.1.1 dX11_text_90 ?_
    refine lv_if_eq (tgt := 98) hx hb dX11_text_93 (by decide) (fun cq => ?_) (fun cq => ?_)
    · have hw := hw.1 cq
      refine lv_aload_n hx hb dX11_text_98 rfl (lv_at hl 2 rfl) ?_
      refine lv_iload_n hx hb dX11_text_99 rfl (lv_at hl 3 rfl) ?_
      refine lv_iload hx hb dX11_text_100 (lv_at hl 0 rfl) ?_
      refine m_cv (m_runV E hM hS cs_X11_105 ho.1 (by decide) rfl rfl (c_X11_takeText ho hw) rfl rfl ⟨Nat.le_of_ble_eq_true rfl, Nat.le_of_ble_eq_true rfl⟩ rfl hl.1 rfl (Nat.le_of_ble_eq_true rfl) dX11_text_102 ⟨Nat.le_of_ble_eq_true rfl, Nat.le_of_ble_eq_true rfl⟩) hS (fun u H locs hp hM hS => ?_)
      obtain ⟨I9, rfl, hw⟩ := hp
      refine lv_iload hx hb dX11_text_105 (lv_at hl 0 rfl) ?_
      exact m_reti hx hb hr hlk hM hS ⟨_, rfl, hw⟩ dX11_text_107
    · have hw := hw.2 cq
      refine lv_iconst (v := (-1)) hx hb dX11_text_96 (by decide) ?_
      exact m_reti hx hb hr hlk hM hS ⟨_, rfl, hw⟩ dX11_text_97
  · have hw := hw.2 cq
    refine lv_bipush (v := (-2)) hx hb dX11_text_46 (by decide) ?_
    exact m_reti hx hb hr hlk hM hS ⟨_, rfl, hw⟩ dX11_text_48
