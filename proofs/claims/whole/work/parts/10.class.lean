theorem dJ7_fill_53178_0 : decode cJ7_fill_53178 0 = .ok (.iconst 0, 1) := by decide +kernel
theorem dJ7_fill_53178_1 : decode cJ7_fill_53178 1 = .ok (.istore_n 2, 1) := by decide +kernel
theorem dJ7_fill_53178_2 : decode cJ7_fill_53178 2 = .ok (.aload_n 0, 1) := by decide +kernel
theorem dJ7_fill_53178_3 : decode cJ7_fill_53178 3 = .ok (.arraylength, 1) := by decide +kernel
theorem dJ7_fill_53178_4 : decode cJ7_fill_53178 4 = .ok (.istore_n 3, 1) := by decide +kernel
theorem dJ7_fill_53178_5 : decode cJ7_fill_53178 5 = .ok (.iload_n 2, 1) := by decide +kernel
theorem dJ7_fill_53178_6 : decode cJ7_fill_53178 6 = .ok (.iload_n 3, 1) := by decide +kernel
theorem dJ7_fill_53178_7 : decode cJ7_fill_53178 7 = .ok (.if_icmp .ge 13, 3) := by decide +kernel
theorem dJ7_fill_53178_10 : decode cJ7_fill_53178 10 = .ok (.aload_n 0, 1) := by decide +kernel
theorem dJ7_fill_53178_11 : decode cJ7_fill_53178 11 = .ok (.iload_n 2, 1) := by decide +kernel
theorem dJ7_fill_53178_12 : decode cJ7_fill_53178 12 = .ok (.iload_n 1, 1) := by decide +kernel
theorem dJ7_fill_53178_13 : decode cJ7_fill_53178 13 = .ok (.iastore, 1) := by decide +kernel
theorem dJ7_fill_53178_14 : decode cJ7_fill_53178 14 = .ok (.iinc 2 1, 3) := by decide +kernel
theorem dJ7_fill_53178_17 : decode cJ7_fill_53178 17 = .ok (.goto (-12), 3) := by decide +kernel
theorem dJ7_fill_53178_20 : decode cJ7_fill_53178 20 = .ok (.return_, 1) := by decide +kernel
def w_J7_fill_53178_5 (a1 : Nat) (a1n : Nat) (a2 : Int32) (post : mI → Prop) (I : mI) (v2 : Int32) (v3 : Int32) : Prop := ∀ ZZ : (mI → Int32 → Int32 → Prop), (∀ (I : mI) (v2 : Int32) (v3 : Int32), ((v3 ≤ v2 → post I) ∧ (¬ v3 ≤ v2 → vp_in v2 a1n ∧ ∀ I2, I2 = up2 I a1 v2.toNatClampNeg a2 → ∀ x3, x3 = v2 + 1 → ZZ I2 x3 v3)) → ZZ I v2 v3) → ZZ I v2 v3
set_option maxRecDepth 100000 in
set_option maxHeartbeats 4000000 in
theorem s_J7_fill_53178_5 {p : Program} {l : Launch} {e : Env} {s : State} {m : MethodId} {args : Array Value} {below : List Frame} {meth : Method} {c : Code} {D : va_G} {cA : Nat → ClassId} {Z : mZ} {bs : Ad} {n : Nat} {K : mK} {R : mR} {L : mL} (E : Ev p s m args c cJ7_fill_53178 4 RJ7 D cA Z bs) (hr : meth.sig.returnType = none) (hlk : meth.locks = false) {a1 : Nat} {a1n : Nat} {a2 : Int32} (ha1 : K a1 = (14, a1n)) {post : mI → Prop} {I : mI} {v2 : Int32} {v3 : Int32} {H : Heap} {locs : List Loc} {ls : Array Slot} (hw : w_J7_fill_53178_5 a1 a1n a2 post I v2 v3) (hM : mm D cA bs (n, K, R, I, L) H) (hS : va_S (Ab bs) s.heap H locs) (hl : lv_has ls 4 [(0, .ref (ad bs a1)), (1, .int a2), (2, .int v2), (3, .int v3)]) : W p l e ({ frames := 0, cells := 0, slots := 0, locals := 0 } : Room) s m args below meth c H locs 0 0 (MQ below (QV D cA bs (fun u => ∃ I', u = (n, K, R, I', L) ∧ post I')) args s 0 0 (Ab bs)) (F0 m 5 ls []) := by
  have hx := E.1.1
  have hb := E.1.2.1
  refine hw (fun I v2 v3 => ∀ (H : Heap) (locs : List Loc) (ls : Array Slot), mm D cA bs (n, K, R, I, L) H → va_S (Ab bs) s.heap H locs → lv_has ls 4 [(0, .ref (ad bs a1)), (1, .int a2), (2, .int v2), (3, .int v3)] → W p l e ({ frames := 0, cells := 0, slots := 0, locals := 0 } : Room) s m args below meth c H locs 0 0 (MQ below (QV D cA bs (fun u => ∃ I', u = (n, K, R, I', L) ∧ post I')) args s 0 0 (Ab bs)) (F0 m 5 ls [])) ?_ H locs ls hM hS hl
  clear hw hM hS hl
  intro I v2 v3 hw H locs ls hM hS hl
  refine lv_iload_n hx hb dJ7_fill_53178_5 rfl (lv_at hl 2 rfl) ?_
  refine lv_iload_n hx hb dJ7_fill_53178_6 rfl (lv_at hl 3 rfl) ?_
  refine lv_icmp_ge (tgt := 20) hx hb dJ7_fill_53178_7 (by decide) (fun cq => ?_) (fun cq => ?_)
  · have hw := hw.1 cq
    exact m_retv hx hb hr hlk hM hS ⟨_, rfl, hw⟩ dJ7_fill_53178_20
  · have hw := hw.2 cq
    refine lv_aload_n hx hb dJ7_fill_53178_10 rfl (lv_at hl 0 rfl) ?_
    refine lv_iload_n hx hb dJ7_fill_53178_11 rfl (lv_at hl 2 rfl) ?_
    refine lv_iload_n hx hb dJ7_fill_53178_12 rfl (lv_at hl 1 rfl) ?_
    obtain ⟨hv, hw⟩ := hw
    refine m_iast E hM hS ha1 hv dJ7_fill_53178_13 (fun I2 H locs eI2 hM hS => ?_)
    have hw := hw I2 eI2
    obtain ⟨x3, ex3⟩ : ∃ y : Int32, y = v2 + 1 := ⟨_, rfl⟩
    have hw := hw x3 ex3
    refine lv_iinc (v := x3) (lv' := [(2, .int x3), (0, .ref (ad bs a1)), (1, .int a2), (3, .int v3)]) hx hb dJ7_fill_53178_14 hl (k := 2) rfl (by rw [ex3]; rfl) (by decide) rfl (fun ls hl => ?_)
    refine lv_goto (tgt := 5) hx hb dJ7_fill_53178_17 (by decide) ?_
    exact hw H locs ls  hM hS (lv_sub hl [1, 2, 0, 3] rfl)
def w_J7_fill_53178 (I : mI) (a1 : Nat) (a1n : Nat) (a2 : Int32) (post : mI → Prop) : Prop := ∀ x1, x1 = (Int32.ofNat a1n) → (w_J7_fill_53178_5 a1 a1n a2 post) I 0 x1
set_option maxRecDepth 100000 in
set_option maxHeartbeats 4000000 in
theorem c_J7_fill_53178 {l : Launch} {D : va_G} {cA : Nat → ClassId} {Z : mZ} {bs : Ad} {n : Nat} {K : mK} {R : mR} {I : mI} {L : mL} {a1 : Nat} {a1n : Nat} {a2 : Int32} {post : mI → Prop} (ha1 : K a1 = (14, a1n)) (hw : w_J7_fill_53178 I a1 a1n a2 post) : Met l yJ7_fill_53178 (.code yJ7_fill_53178 cJ7_fill_53178 4 none :: gw) ({ frames := 0, cells := 0, slots := 0, locals := 0 } : Room) (PreM D cA Z bs (n, K, R, I, L) [.ref (ad bs a1), .int a2]) (QV D cA bs (fun u => ∃ I', u = (n, K, R, I', L) ∧ post I')) 0 0 (Ab bs) := by
  refine m_met (by decide) (Nat.le_of_ble_eq_true rfl) (fun p e s m below meth c ls E hr hlk hM hS hl => ?_)
  have E : Ev p s m _ c cJ7_fill_53178 4 RJ7 D cA Z bs := E
  have hl : lv_has ls 4 [(0, .ref (ad bs a1)), (1, .int a2)] := hl
  have hx := E.1.1
  have hb := E.1.2.1
  generalize hHe : s.heap = H at hM ⊢
  have hS : va_S (Ab bs) s.heap H [] := by rw [← hHe]; exact va_S.rf
  clear hHe
  refine lv_iconst (v := 0) hx hb dJ7_fill_53178_0 (by decide) ?_
  refine lv_istore_n (lv' := [(2, .int 0), (0, .ref (ad bs a1)), (1, .int a2)]) hx hb dJ7_fill_53178_1 rfl hl (by decide) rfl (fun ls hl => ?_)
  refine lv_aload_n hx hb dJ7_fill_53178_2 rfl (lv_at hl 1 rfl) ?_
  refine m_alen E hM ha1 (by simp) dJ7_fill_53178_3 ?_
  refine lv_topi (fun x1 ex1 => ?_)
  have hw := hw x1 ex1
  refine lv_istore_n (lv' := [(3, .int x1), (2, .int 0), (0, .ref (ad bs a1)), (1, .int a2)]) hx hb dJ7_fill_53178_4 rfl hl (by decide) rfl (fun ls hl => ?_)
  exact s_J7_fill_53178_5 E hr hlk ha1  hw hM hS (lv_sub hl [2, 3, 1, 0] rfl)
theorem dX3_hasStep_0 : decode cX3_hasStep 0 = .ok (.iload_n 1, 1) := by decide +kernel
theorem dX3_hasStep_1 : decode cX3_hasStep 1 = .ok (.ifCond .lt 15, 3) := by decide +kernel
theorem dX3_hasStep_4 : decode cX3_hasStep 4 = .ok (.iload_n 1, 1) := by decide +kernel
theorem dX3_hasStep_5 : decode cX3_hasStep 5 = .ok (.aload_n 0, 1) := by decide +kernel
theorem dX3_hasStep_6 : decode cX3_hasStep 6 = .ok (.getfield 51, 3) := by decide +kernel
theorem dX3_hasStep_9 : decode cX3_hasStep 9 = .ok (.if_icmp .ge 7, 3) := by decide +kernel
theorem dX3_hasStep_12 : decode cX3_hasStep 12 = .ok (.iconst 1, 1) := by decide +kernel
theorem dX3_hasStep_13 : decode cX3_hasStep 13 = .ok (.goto 4, 3) := by decide +kernel
theorem dX3_hasStep_16 : decode cX3_hasStep 16 = .ok (.iconst 0, 1) := by decide +kernel
theorem dX3_hasStep_17 : decode cX3_hasStep 17 = .ok (.ireturn, 1) := by decide +kernel
def w_X3_hasStep (I : mI) (o : Nat) (a1 : Int32) (post : Bool → Prop) : Prop := (a1 < 0 → post false) ∧ (¬ a1 < 0 → ((I o 0) ≤ a1 → post false) ∧ (¬ (I o 0) ≤ a1 → post true))
set_option maxRecDepth 100000 in
set_option maxHeartbeats 4000000 in
theorem c_X3_hasStep {l : Launch} {D : va_G} {cA : Nat → ClassId} {Z : mZ} {bs : Ad} {n : Nat} {K : mK} {R : mR} {I : mI} {L : mL} {o : Nat} {a1 : Int32} {post : Bool → Prop} (ho : isX3 K R o) (hw : w_X3_hasStep I o a1 post) : Met l yX3_hasStep (.code yX3_hasStep cX3_hasStep 2 (some .boolean) :: gw) ({ frames := 0, cells := 0, slots := 0, locals := 0 } : Room) (PreM D cA Z bs (n, K, R, I, L) [.ref (ad bs o), .int a1]) (QI D cA bs (fun r u => ∃ b, r = bI b ∧ u = (n, K, R, I, L) ∧ post b)) 0 0 (Ab bs) := by
  refine m_met (by decide) (Nat.le_of_ble_eq_true rfl) (fun p e s m below meth c ls E hr hlk hM hS hl => ?_)
  have E : Ev p s m _ c cX3_hasStep 2 RX3 D cA Z bs := E
  have hl : lv_has ls 2 [(0, .ref (ad bs o)), (1, .int a1)] := hl
  have hx := E.1.1
  have hb := E.1.2.1
  generalize hHe : s.heap = H at hM ⊢
  have hS : va_S (Ab bs) s.heap H [] := by rw [← hHe]; exact va_S.rf
  clear hHe
  refine lv_iload_n hx hb dX3_hasStep_0 rfl (lv_at hl 1 rfl) ?_
  refine lv_if_lt (tgt := 16) hx hb dX3_hasStep_1 (by decide) (fun cq => ?_) (fun cq => ?_)
  · have hw := hw.1 cq
    refine lv_iconst (v := 0) hx hb dX3_hasStep_16 (by decide) ?_
    exact m_retz hx hb hr hlk (Or.inl rfl) hM hS ⟨false, rfl, rfl, hw⟩ dX3_hasStep_17
  · have hw := hw.2 cq
    refine lv_iload_n hx hb dX3_hasStep_4 rfl (lv_at hl 1 rfl) ?_
    refine lv_aload_n hx hb dX3_hasStep_5 rfl (lv_at hl 0 rfl) ?_
    refine m_geti E hM fs_X3_51 ho.1 dX3_hasStep_6 ?_
    refine lv_icmp_ge (tgt := 16) hx hb dX3_hasStep_9 (by decide) (fun cq => ?_) (fun cq => ?_)
    · have hw := hw.1 cq
      refine lv_iconst (v := 0) hx hb dX3_hasStep_16 (by decide) ?_
      exact m_retz hx hb hr hlk (Or.inl rfl) hM hS ⟨false, rfl, rfl, hw⟩ dX3_hasStep_17
    · have hw := hw.2 cq
      refine lv_iconst (v := 1) hx hb dX3_hasStep_12 (by decide) ?_
      refine lv_goto (tgt := 17) hx hb dX3_hasStep_13 (by decide) ?_
      exact m_retz hx hb hr hlk (Or.inr rfl) hM hS ⟨true, rfl, rfl, hw⟩ dX3_hasStep_17
theorem dX3_goalOf_0 : decode cX3_goalOf 0 = .ok (.aload_n 0, 1) := by decide +kernel
theorem dX3_goalOf_1 : decode cX3_goalOf 1 = .ok (.getfield 39, 3) := by decide +kernel
theorem dX3_goalOf_4 : decode cX3_goalOf 4 = .ok (.iload_n 1, 1) := by decide +kernel
theorem dX3_goalOf_5 : decode cX3_goalOf 5 = .ok (.bipush 8, 2) := by decide +kernel
theorem dX3_goalOf_7 : decode cX3_goalOf 7 = .ok (.imul, 1) := by decide +kernel
theorem dX3_goalOf_8 : decode cX3_goalOf 8 = .ok (.iload_n 2, 1) := by decide +kernel
theorem dX3_goalOf_9 : decode cX3_goalOf 9 = .ok (.iadd, 1) := by decide +kernel
theorem dX3_goalOf_10 : decode cX3_goalOf 10 = .ok (.iaload, 1) := by decide +kernel
theorem dX3_goalOf_11 : decode cX3_goalOf 11 = .ok (.ireturn, 1) := by decide +kernel
def w_X3_goalOf (I : mI) (o : Nat) (a1 : Int32) (a2 : Int32) (post : Int32 → Prop) : Prop := vp_in ((a1 * 8) + a2) 48 ∧ post (I (o + 10) ((a1 * 8) + a2).toNatClampNeg)
set_option maxRecDepth 100000 in
set_option maxHeartbeats 4000000 in
theorem c_X3_goalOf {l : Launch} {D : va_G} {cA : Nat → ClassId} {Z : mZ} {bs : Ad} {n : Nat} {K : mK} {R : mR} {I : mI} {L : mL} {o : Nat} {a1 : Int32} {a2 : Int32} {post : Int32 → Prop} (ho : isX3 K R o) (hw : w_X3_goalOf I o a1 a2 post) : Met l yX3_goalOf (.code yX3_goalOf cX3_goalOf 3 (some .int) :: gw) ({ frames := 0, cells := 0, slots := 0, locals := 0 } : Room) (PreM D cA Z bs (n, K, R, I, L) [.ref (ad bs o), .int a1, .int a2]) (QI D cA bs (fun r u => u = (n, K, R, I, L) ∧ post r)) 0 0 (Ab bs) := by
  refine m_met (by decide) (Nat.le_of_ble_eq_true rfl) (fun p e s m below meth c ls E hr hlk hM hS hl => ?_)
  have E : Ev p s m _ c cX3_goalOf 3 RX3 D cA Z bs := E
  have hl : lv_has ls 3 [(0, .ref (ad bs o)), (1, .int a1), (2, .int a2)] := hl
  have hx := E.1.1
  have hb := E.1.2.1
  generalize hHe : s.heap = H at hM ⊢
  have hS : va_S (Ab bs) s.heap H [] := by rw [← hHe]; exact va_S.rf
  clear hHe
  refine lv_aload_n hx hb dX3_goalOf_0 rfl (lv_at hl 0 rfl) ?_
  refine m_getr E hM fs_X3_39 ho.1 (isO_at ho 9 rfl).1 dX3_goalOf_1 ?_
  refine lv_iload_n hx hb dX3_goalOf_4 rfl (lv_at hl 1 rfl) ?_
  refine lv_bipush (v := 8) hx hb dX3_goalOf_5 (by decide) ?_
  refine lv_imul hx hb dX3_goalOf_7 ?_
  refine lv_iload_n hx hb dX3_goalOf_8 rfl (lv_at hl 2 rfl) ?_
  refine lv_iadd hx hb dX3_goalOf_9 ?_
  obtain ⟨hv, hw⟩ := hw
  refine m_iald E hM (isO_at ho 9 rfl).2 hv dX3_goalOf_10 ?_
  exact m_reti hx hb hr hlk hM hS ⟨rfl, hw⟩ dX3_goalOf_11
theorem dX3_openGoal_0 : decode cX3_openGoal 0 = .ok (.iload_n 2, 1) := by decide +kernel
theorem dX3_openGoal_1 : decode cX3_openGoal 1 = .ok (.istore 4, 2) := by decide +kernel
theorem dX3_openGoal_3 : decode cX3_openGoal 3 = .ok (.iload 4, 2) := by decide +kernel
theorem dX3_openGoal_5 : decode cX3_openGoal 5 = .ok (.aload_n 0, 1) := by decide +kernel
theorem dX3_openGoal_6 : decode cX3_openGoal 6 = .ok (.getfield 36, 3) := by decide +kernel
theorem dX3_openGoal_9 : decode cX3_openGoal 9 = .ok (.iload_n 1, 1) := by decide +kernel
theorem dX3_openGoal_10 : decode cX3_openGoal 10 = .ok (.iaload, 1) := by decide +kernel
theorem dX3_openGoal_11 : decode cX3_openGoal 11 = .ok (.if_icmp .ge 20, 3) := by decide +kernel
theorem dX3_openGoal_14 : decode cX3_openGoal 14 = .ok (.aload_n 0, 1) := by decide +kernel
theorem dX3_openGoal_15 : decode cX3_openGoal 15 = .ok (.iload_n 1, 1) := by decide +kernel
theorem dX3_openGoal_16 : decode cX3_openGoal 16 = .ok (.iload 4, 2) := by decide +kernel
theorem dX3_openGoal_18 : decode cX3_openGoal 18 = .ok (.invokevirtual 89, 3) := by decide +kernel
theorem dX3_openGoal_21 : decode cX3_openGoal 21 = .ok (.iload_n 3, 1) := by decide +kernel
theorem dX3_openGoal_22 : decode cX3_openGoal 22 = .ok (.if_icmp .ne 9, 3) := by decide +kernel
theorem dX3_openGoal_25 : decode cX3_openGoal 25 = .ok (.iinc 4 1, 3) := by decide +kernel
theorem dX3_openGoal_28 : decode cX3_openGoal 28 = .ok (.goto (-25), 3) := by decide +kernel
theorem dX3_openGoal_31 : decode cX3_openGoal 31 = .ok (.iload 4, 2) := by decide +kernel
theorem dX3_openGoal_33 : decode cX3_openGoal 33 = .ok (.ireturn, 1) := by decide +kernel
def w_X3_openGoal_3 (I : mI) (o : Nat) (a1 : Int32) (a2 : Int32) (a3 : Int32) (post : Int32 → Prop) (v4 : Int32) : Prop := ∀ ZZ : (Int32 → Prop), (∀ (v4 : Int32), (vp_in a1 6 ∧ ((I (o + 9) a1.toNatClampNeg) ≤ v4 → post v4) ∧ (¬ (I (o + 9) a1.toNatClampNeg) ≤ v4 → w_X3_goalOf I o a1 v4 (fun r1 => (¬ r1 = a3 → post v4) ∧ (r1 = a3 → ∀ x2, x2 = v4 + 1 → ZZ x2)))) → ZZ v4) → ZZ v4
set_option maxRecDepth 100000 in
set_option maxHeartbeats 4000000 in
theorem s_X3_openGoal_3 {p : Program} {l : Launch} {e : Env} {s : State} {m : MethodId} {args : Array Value} {below : List Frame} {meth : Method} {c : Code} {D : va_G} {cA : Nat → ClassId} {Z : mZ} {bs : Ad} {n : Nat} {K : mK} {R : mR} {I : mI} {L : mL} (E : Ev p s m args c cX3_openGoal 5 RX3 D cA Z bs) (hr : meth.sig.returnType = (some .int)) (hlk : meth.locks = false) {o : Nat} {a1 : Int32} {a2 : Int32} {a3 : Int32} (ho : isX3 K R o) {post : Int32 → Prop} {v4 : Int32} {H : Heap} {locs : List Loc} {ls : Array Slot} (hw : w_X3_openGoal_3 I o a1 a2 a3 post v4) (hM : mm D cA bs (n, K, R, I, L) H) (hS : va_S (Ab bs) s.heap H locs) (hl : lv_has ls 5 [(0, .ref (ad bs o)), (1, .int a1), (3, .int a3), (4, .int v4)]) : W p l e ({ frames := 1, cells := 0, slots := 0, locals := 22 } : Room) s m args below meth c H locs 0 0 (MQ below (QI D cA bs (fun r u => u = (n, K, R, I, L) ∧ post r)) args s 0 0 (Ab bs)) (F0 m 3 ls []) := by
  have hx := E.1.1
  have hb := E.1.2.1
  refine hw (fun v4 => ∀ (H : Heap) (locs : List Loc) (ls : Array Slot), mm D cA bs (n, K, R, I, L) H → va_S (Ab bs) s.heap H locs → lv_has ls 5 [(0, .ref (ad bs o)), (1, .int a1), (3, .int a3), (4, .int v4)] → W p l e ({ frames := 1, cells := 0, slots := 0, locals := 22 } : Room) s m args below meth c H locs 0 0 (MQ below (QI D cA bs (fun r u => u = (n, K, R, I, L) ∧ post r)) args s 0 0 (Ab bs)) (F0 m 3 ls [])) ?_ H locs ls hM hS hl
  clear hw hM hS hl
  intro v4 hw H locs ls hM hS hl
  refine lv_iload hx hb dX3_openGoal_3 (lv_at hl 3 rfl) ?_
  refine lv_aload_n hx hb dX3_openGoal_5 rfl (lv_at hl 0 rfl) ?_
  refine m_getr E hM fs_X3_36 ho.1 (isO_at ho 8 rfl).1 dX3_openGoal_6 ?_
  refine lv_iload_n hx hb dX3_openGoal_9 rfl (lv_at hl 1 rfl) ?_
  obtain ⟨hv, hw⟩ := hw
  refine m_iald E hM (isO_at ho 8 rfl).2 hv dX3_openGoal_10 ?_
  refine lv_icmp_ge (tgt := 31) hx hb dX3_openGoal_11 (by decide) (fun cq => ?_) (fun cq => ?_)
  · have hw := hw.1 cq
    refine lv_iload hx hb dX3_openGoal_31 (lv_at hl 3 rfl) ?_
    exact m_reti hx hb hr hlk hM hS ⟨rfl, hw⟩ dX3_openGoal_33
  · have hw := hw.2 cq
    refine lv_aload_n hx hb dX3_openGoal_14 rfl (lv_at hl 0 rfl) ?_
    refine lv_iload_n hx hb dX3_openGoal_15 rfl (lv_at hl 1 rfl) ?_
    refine lv_iload hx hb dX3_openGoal_16 (lv_at hl 3 rfl) ?_
    refine m_ci (m_runV E hM hS cs_X3_89 ho.1 (by decide) rfl rfl (c_X3_goalOf ho hw) rfl rfl ⟨Nat.le_of_ble_eq_true rfl, Nat.le_of_ble_eq_true rfl⟩ rfl hl.1 rfl (Nat.le_of_ble_eq_true rfl) dX3_openGoal_18 ⟨Nat.le_of_ble_eq_true rfl, Nat.le_of_ble_eq_true rfl⟩) hS (fun r1 u H locs hp hM hS => ?_)
    obtain ⟨rfl, hw⟩ := hp
    refine lv_iload_n hx hb dX3_openGoal_21 rfl (lv_at hl 2 rfl) ?_
    refine lv_icmp_ne (tgt := 31) hx hb dX3_openGoal_22 (by decide) (fun cq => ?_) (fun cq => ?_)
    · have hw := hw.1 cq
      refine lv_iload hx hb dX3_openGoal_31 (lv_at hl 3 rfl) ?_
      exact m_reti hx hb hr hlk hM hS ⟨rfl, hw⟩ dX3_openGoal_33
    · have hw := hw.2 cq
      obtain ⟨x2, ex2⟩ : ∃ y : Int32, y = v4 + 1 := ⟨_, rfl⟩
      have hw := hw x2 ex2
      refine lv_iinc (v := x2) (lv' := [(4, .int x2), (0, .ref (ad bs o)), (1, .int a1), (3, .int a3)]) hx hb dX3_openGoal_25 hl (k := 3) rfl (by rw [ex2]; rfl) (by decide) rfl (fun ls hl => ?_)
      refine lv_goto (tgt := 3) hx hb dX3_openGoal_28 (by decide) ?_
      exact hw H locs ls  hM hS (lv_sub hl [1, 2, 3, 0] rfl)
def w_X3_openGoal (I : mI) (o : Nat) (a1 : Int32) (a2 : Int32) (a3 : Int32) (post : Int32 → Prop) : Prop := (w_X3_openGoal_3 I o a1 a2 a3 post) a2
set_option maxRecDepth 100000 in
set_option maxHeartbeats 4000000 in
theorem c_X3_openGoal {l : Launch} {D : va_G} {cA : Nat → ClassId} {Z : mZ} {bs : Ad} {n : Nat} {K : mK} {R : mR} {I : mI} {L : mL} {o : Nat} {a1 : Int32} {a2 : Int32} {a3 : Int32} {post : Int32 → Prop} (ho : isX3 K R o) (hw : w_X3_openGoal I o a1 a2 a3 post) : Met l yX3_openGoal (.code yX3_openGoal cX3_openGoal 5 (some .int) :: gw) ({ frames := 1, cells := 0, slots := 0, locals := 22 } : Room) (PreM D cA Z bs (n, K, R, I, L) [.ref (ad bs o), .int a1, .int a2, .int a3]) (QI D cA bs (fun r u => u = (n, K, R, I, L) ∧ post r)) 0 0 (Ab bs) := by
  refine m_met (by decide) (Nat.le_of_ble_eq_true rfl) (fun p e s m below meth c ls E hr hlk hM hS hl => ?_)
  have E : Ev p s m _ c cX3_openGoal 5 RX3 D cA Z bs := E
  have hl : lv_has ls 5 [(0, .ref (ad bs o)), (1, .int a1), (2, .int a2), (3, .int a3)] := hl
  have hx := E.1.1
  have hb := E.1.2.1
  generalize hHe : s.heap = H at hM ⊢
  have hS : va_S (Ab bs) s.heap H [] := by rw [← hHe]; exact va_S.rf
  clear hHe
  refine lv_iload_n hx hb dX3_openGoal_0 rfl (lv_at hl 2 rfl) ?_
  refine lv_istore (lv' := [(4, .int a2), (0, .ref (ad bs o)), (1, .int a1), (2, .int a2), (3, .int a3)]) hx hb dX3_openGoal_1 hl (by decide) rfl (fun ls hl => ?_)
  exact s_X3_openGoal_3 E hr hlk ho  hw hM hS (lv_sub hl [1, 2, 4, 0] rfl)
theorem dX3_nextStep_0 : decode cX3_nextStep 0 = .ok (.aload_n 0, 1) := by decide +kernel
theorem dX3_nextStep_1 : decode cX3_nextStep 1 = .ok (.iload_n 1, 1) := by decide +kernel
theorem dX3_nextStep_2 : decode cX3_nextStep 2 = .ok (.iload_n 3, 1) := by decide +kernel
theorem dX3_nextStep_3 : decode cX3_nextStep 3 = .ok (.invokevirtual 89, 3) := by decide +kernel
theorem dX3_nextStep_6 : decode cX3_nextStep 6 = .ok (.istore 4, 2) := by decide +kernel
theorem dX3_nextStep_8 : decode cX3_nextStep 8 = .ok (.iload 4, 2) := by decide +kernel
theorem dX3_nextStep_10 : decode cX3_nextStep 10 = .ok (.iload_n 2, 1) := by decide +kernel
theorem dX3_nextStep_11 : decode cX3_nextStep 11 = .ok (.if_icmp .le 19, 3) := by decide +kernel
theorem dX3_nextStep_14 : decode cX3_nextStep 14 = .ok (.iload 4, 2) := by decide +kernel
theorem dX3_nextStep_16 : decode cX3_nextStep 16 = .ok (.iload_n 2, 1) := by decide +kernel
theorem dX3_nextStep_17 : decode cX3_nextStep 17 = .ok (.aload_n 0, 1) := by decide +kernel
theorem dX3_nextStep_18 : decode cX3_nextStep 18 = .ok (.getfield 27, 3) := by decide +kernel
theorem dX3_nextStep_21 : decode cX3_nextStep 21 = .ok (.iload_n 1, 1) := by decide +kernel
theorem dX3_nextStep_22 : decode cX3_nextStep 22 = .ok (.iaload, 1) := by decide +kernel
theorem dX3_nextStep_23 : decode cX3_nextStep 23 = .ok (.iadd, 1) := by decide +kernel
theorem dX3_nextStep_24 : decode cX3_nextStep 24 = .ok (.invokestatic 92, 3) := by decide +kernel
theorem dX3_nextStep_27 : decode cX3_nextStep 27 = .ok (.goto 16, 3) := by decide +kernel
theorem dX3_nextStep_30 : decode cX3_nextStep 30 = .ok (.iload 4, 2) := by decide +kernel
theorem dX3_nextStep_32 : decode cX3_nextStep 32 = .ok (.iload_n 2, 1) := by decide +kernel
theorem dX3_nextStep_33 : decode cX3_nextStep 33 = .ok (.aload_n 0, 1) := by decide +kernel
theorem dX3_nextStep_34 : decode cX3_nextStep 34 = .ok (.getfield 27, 3) := by decide +kernel
theorem dX3_nextStep_37 : decode cX3_nextStep 37 = .ok (.iload_n 1, 1) := by decide +kernel
theorem dX3_nextStep_38 : decode cX3_nextStep 38 = .ok (.iaload, 1) := by decide +kernel
theorem dX3_nextStep_39 : decode cX3_nextStep 39 = .ok (.isub, 1) := by decide +kernel
theorem dX3_nextStep_40 : decode cX3_nextStep 40 = .ok (.invokestatic 79, 3) := by decide +kernel
theorem dX3_nextStep_43 : decode cX3_nextStep 43 = .ok (.ireturn, 1) := by decide +kernel
def w_X3_nextStep (I : mI) (o : Nat) (a1 : Int32) (a2 : Int32) (a3 : Int32) (post : Int32 → Prop) : Prop := w_X3_goalOf I o a1 a3 (fun r1 => (r1 ≤ a2 → vp_in a1 6 ∧ post (imax r1 (a2 - (I (o + 6) a1.toNatClampNeg)))) ∧ (¬ r1 ≤ a2 → vp_in a1 6 ∧ post (imin r1 (a2 + (I (o + 6) a1.toNatClampNeg)))))
set_option maxRecDepth 100000 in
set_option maxHeartbeats 4000000 in
theorem c_X3_nextStep {l : Launch} {D : va_G} {cA : Nat → ClassId} {Z : mZ} {bs : Ad} {n : Nat} {K : mK} {R : mR} {I : mI} {L : mL} {o : Nat} {a1 : Int32} {a2 : Int32} {a3 : Int32} {post : Int32 → Prop} (ho : isX3 K R o) (hw : w_X3_nextStep I o a1 a2 a3 post) : Met l yX3_nextStep (.code yX3_nextStep cX3_nextStep 5 (some .int) :: gw) ({ frames := 1, cells := 0, slots := 0, locals := 40 } : Room) (PreM D cA Z bs (n, K, R, I, L) [.ref (ad bs o), .int a1, .int a2, .int a3]) (QI D cA bs (fun r u => u = (n, K, R, I, L) ∧ post r)) 0 0 (Ab bs) := by
  refine m_met (by decide) (Nat.le_of_ble_eq_true rfl) (fun p e s m below meth c ls E hr hlk hM hS hl => ?_)
  have E : Ev p s m _ c cX3_nextStep 5 RX3 D cA Z bs := E
  have hl : lv_has ls 5 [(0, .ref (ad bs o)), (1, .int a1), (2, .int a2), (3, .int a3)] := hl
  have hx := E.1.1
  have hb := E.1.2.1
  generalize hHe : s.heap = H at hM ⊢
  have hS : va_S (Ab bs) s.heap H [] := by rw [← hHe]; exact va_S.rf
  clear hHe
  refine lv_aload_n hx hb dX3_nextStep_0 rfl (lv_at hl 0 rfl) ?_
  refine lv_iload_n hx hb dX3_nextStep_1 rfl (lv_at hl 1 rfl) ?_
  refine lv_iload_n hx hb dX3_nextStep_2 rfl (lv_at hl 3 rfl) ?_
  refine m_ci (m_runV E hM hS cs_X3_89 ho.1 (by decide) rfl rfl (c_X3_goalOf ho hw) rfl rfl ⟨Nat.le_of_ble_eq_true rfl, Nat.le_of_ble_eq_true rfl⟩ rfl hl.1 rfl (Nat.le_of_ble_eq_true rfl) dX3_nextStep_3 ⟨Nat.le_of_ble_eq_true rfl, Nat.le_of_ble_eq_true rfl⟩) hS (fun r1 u H locs hp hM hS => ?_)
  obtain ⟨rfl, hw⟩ := hp
  refine lv_istore (lv' := [(4, .int r1), (0, .ref (ad bs o)), (1, .int a1), (2, .int a2), (3, .int a3)]) hx hb dX3_nextStep_6 hl (by decide) rfl (fun ls hl => ?_)
  refine lv_iload hx hb dX3_nextStep_8 (lv_at hl 0 rfl) ?_
  refine lv_iload_n hx hb dX3_nextStep_10 rfl (lv_at hl 3 rfl) ?_
  refine lv_icmp_le (tgt := 30) hx hb dX3_nextStep_11 (by decide) (fun cq => ?_) (fun cq => ?_)
  · have hw := hw.1 cq
    refine lv_iload hx hb dX3_nextStep_30 (lv_at hl 0 rfl) ?_
    refine lv_iload_n hx hb dX3_nextStep_32 rfl (lv_at hl 3 rfl) ?_
    refine lv_aload_n hx hb dX3_nextStep_33 rfl (lv_at hl 1 rfl) ?_
    refine m_getr E hM fs_X3_27 ho.1 (isO_at ho 5 rfl).1 dX3_nextStep_34 ?_
    refine lv_iload_n hx hb dX3_nextStep_37 rfl (lv_at hl 2 rfl) ?_
    obtain ⟨hv, hw⟩ := hw
    refine m_iald E hM (isO_at ho 5 rfl).2 hv dX3_nextStep_38 ?_
    refine lv_isub hx hb dX3_nextStep_39 ?_
    refine m_max E ml_X3_79 hl.1 (Nat.le_of_ble_eq_true rfl) (Nat.le_of_ble_eq_true rfl) (Nat.le_of_ble_eq_true rfl) (Nat.le_of_ble_eq_true rfl) dX3_nextStep_40 ?_
    exact m_reti hx hb hr hlk hM hS ⟨rfl, hw⟩ dX3_nextStep_43
  · have hw := hw.2 cq
    refine lv_iload hx hb dX3_nextStep_14 (lv_at hl 0 rfl) ?_
    refine lv_iload_n hx hb dX3_nextStep_16 rfl (lv_at hl 3 rfl) ?_
    refine lv_aload_n hx hb dX3_nextStep_17 rfl (lv_at hl 1 rfl) ?_
    refine m_getr E hM fs_X3_27 ho.1 (isO_at ho 5 rfl).1 dX3_nextStep_18 ?_
    refine lv_iload_n hx hb dX3_nextStep_21 rfl (lv_at hl 2 rfl) ?_
    obtain ⟨hv, hw⟩ := hw
    refine m_iald E hM (isO_at ho 5 rfl).2 hv dX3_nextStep_22 ?_
    refine lv_iadd hx hb dX3_nextStep_23 ?_
    refine m_min E ml_X3_92 hl.1 (Nat.le_of_ble_eq_true rfl) (Nat.le_of_ble_eq_true rfl) (Nat.le_of_ble_eq_true rfl) (Nat.le_of_ble_eq_true rfl) dX3_nextStep_24 ?_
    refine lv_goto (tgt := 43) hx hb dX3_nextStep_27 (by decide) ?_
    exact m_reti hx hb hr hlk hM hS ⟨rfl, hw⟩ dX3_nextStep_43
theorem dX0_layPath_0 : decode cX0_layPath 0 = .ok (.aload_n 0, 1) := by decide +kernel
theorem dX0_layPath_1 : decode cX0_layPath 1 = .ok (.getfield 21, 3) := by decide +kernel
theorem dX0_layPath_4 : decode cX0_layPath 4 = .ok (.iconst (-1), 1) := by decide +kernel
theorem dX0_layPath_5 : decode cX0_layPath 5 = .ok (.invokestatic 44, 3) := by decide +kernel
theorem dX0_layPath_8 : decode cX0_layPath 8 = .ok (.aload_n 1, 1) := by decide +kernel
theorem dX0_layPath_9 : decode cX0_layPath 9 = .ok (.getfield 50, 3) := by decide +kernel
theorem dX0_layPath_12 : decode cX0_layPath 12 = .ok (.iload_n 2, 1) := by decide +kernel
theorem dX0_layPath_13 : decode cX0_layPath 13 = .ok (.iaload, 1) := by decide +kernel
theorem dX0_layPath_14 : decode cX0_layPath 14 = .ok (.istore_n 3, 1) := by decide +kernel
theorem dX0_layPath_15 : decode cX0_layPath 15 = .ok (.iconst 0, 1) := by decide +kernel
theorem dX0_layPath_16 : decode cX0_layPath 16 = .ok (.istore 4, 2) := by decide +kernel
theorem dX0_layPath_18 : decode cX0_layPath 18 = .ok (.aload_n 0, 1) := by decide +kernel
theorem dX0_layPath_19 : decode cX0_layPath 19 = .ok (.iconst 0, 1) := by decide +kernel
theorem dX0_layPath_20 : decode cX0_layPath 20 = .ok (.putfield 53, 3) := by decide +kernel
theorem dX0_layPath_23 : decode cX0_layPath 23 = .ok (.aload_n 1, 1) := by decide +kernel
theorem dX0_layPath_24 : decode cX0_layPath 24 = .ok (.iload_n 3, 1) := by decide +kernel
theorem dX0_layPath_25 : decode cX0_layPath 25 = .ok (.invokevirtual 57, 3) := by decide +kernel
theorem dX0_layPath_28 : decode cX0_layPath 28 = .ok (.istore 5, 2) := by decide +kernel
theorem dX0_layPath_30 : decode cX0_layPath 30 = .ok (.iload 5, 2) := by decide +kernel
theorem dX0_layPath_32 : decode cX0_layPath 32 = .ok (.ifCond .eq 106, 3) := by decide +kernel
theorem dX0_layPath_35 : decode cX0_layPath 35 = .ok (.aload_n 0, 1) := by decide +kernel
theorem dX0_layPath_36 : decode cX0_layPath 36 = .ok (.getfield 53, 3) := by decide +kernel
theorem dX0_layPath_39 : decode cX0_layPath 39 = .ok (.bipush 100, 2) := by decide +kernel
theorem dX0_layPath_41 : decode cX0_layPath 41 = .ok (.if_icmp .ge 97, 3) := by decide +kernel
theorem dX0_layPath_44 : decode cX0_layPath 44 = .ok (.aload_n 0, 1) := by decide +kernel
theorem dX0_layPath_45 : decode cX0_layPath 45 = .ok (.getfield 9, 3) := by decide +kernel
theorem dX0_layPath_48 : decode cX0_layPath 48 = .ok (.aload_n 0, 1) := by decide +kernel
theorem dX0_layPath_49 : decode cX0_layPath 49 = .ok (.getfield 53, 3) := by decide +kernel
theorem dX0_layPath_52 : decode cX0_layPath 52 = .ok (.iload_n 3, 1) := by decide +kernel
theorem dX0_layPath_53 : decode cX0_layPath 53 = .ok (.iastore, 1) := by decide +kernel
theorem dX0_layPath_54 : decode cX0_layPath 54 = .ok (.aload_n 0, 1) := by decide +kernel
theorem dX0_layPath_55 : decode cX0_layPath 55 = .ok (.getfield 15, 3) := by decide +kernel
theorem dX0_layPath_58 : decode cX0_layPath 58 = .ok (.aload_n 0, 1) := by decide +kernel
theorem dX0_layPath_59 : decode cX0_layPath 59 = .ok (.getfield 53, 3) := by decide +kernel
theorem dX0_layPath_62 : decode cX0_layPath 62 = .ok (.aload_n 0, 1) := by decide +kernel
theorem dX0_layPath_63 : decode cX0_layPath 63 = .ok (.getfield 21, 3) := by decide +kernel
theorem dX0_layPath_66 : decode cX0_layPath 66 = .ok (.iload_n 3, 1) := by decide +kernel
theorem dX0_layPath_67 : decode cX0_layPath 67 = .ok (.iaload, 1) := by decide +kernel
theorem dX0_layPath_68 : decode cX0_layPath 68 = .ok (.iastore, 1) := by decide +kernel
theorem dX0_layPath_69 : decode cX0_layPath 69 = .ok (.aload_n 0, 1) := by decide +kernel
theorem dX0_layPath_70 : decode cX0_layPath 70 = .ok (.getfield 21, 3) := by decide +kernel
theorem dX0_layPath_73 : decode cX0_layPath 73 = .ok (.iload_n 3, 1) := by decide +kernel
theorem dX0_layPath_74 : decode cX0_layPath 74 = .ok (.aload_n 0, 1) := by decide +kernel
theorem dX0_layPath_75 : decode cX0_layPath 75 = .ok (.getfield 53, 3) := by decide +kernel
theorem dX0_layPath_78 : decode cX0_layPath 78 = .ok (.iastore, 1) := by decide +kernel
theorem dX0_layPath_79 : decode cX0_layPath 79 = .ok (.aload_n 0, 1) := by decide +kernel
theorem dX0_layPath_80 : decode cX0_layPath 80 = .ok (.dup, 1) := by decide +kernel
theorem dX0_layPath_81 : decode cX0_layPath 81 = .ok (.getfield 53, 3) := by decide +kernel
theorem dX0_layPath_84 : decode cX0_layPath 84 = .ok (.iconst 1, 1) := by decide +kernel
theorem dX0_layPath_85 : decode cX0_layPath 85 = .ok (.iadd, 1) := by decide +kernel
theorem dX0_layPath_86 : decode cX0_layPath 86 = .ok (.putfield 53, 3) := by decide +kernel
theorem dX0_layPath_89 : decode cX0_layPath 89 = .ok (.aload_n 1, 1) := by decide +kernel
theorem dX0_layPath_90 : decode cX0_layPath 90 = .ok (.iload_n 2, 1) := by decide +kernel
theorem dX0_layPath_91 : decode cX0_layPath 91 = .ok (.iload 4, 2) := by decide +kernel
theorem dX0_layPath_93 : decode cX0_layPath 93 = .ok (.iload_n 3, 1) := by decide +kernel
theorem dX0_layPath_94 : decode cX0_layPath 94 = .ok (.invokevirtual 61, 3) := by decide +kernel
theorem dX0_layPath_97 : decode cX0_layPath 97 = .ok (.istore 4, 2) := by decide +kernel
theorem dX0_layPath_99 : decode cX0_layPath 99 = .ok (.iload 4, 2) := by decide +kernel
theorem dX0_layPath_101 : decode cX0_layPath 101 = .ok (.aload_n 1, 1) := by decide +kernel
theorem dX0_layPath_102 : decode cX0_layPath 102 = .ok (.getfield 65, 3) := by decide +kernel
theorem dX0_layPath_105 : decode cX0_layPath 105 = .ok (.iload_n 2, 1) := by decide +kernel
theorem dX0_layPath_106 : decode cX0_layPath 106 = .ok (.iaload, 1) := by decide +kernel
theorem dX0_layPath_107 : decode cX0_layPath 107 = .ok (.if_icmp .ge 7, 3) := by decide +kernel
theorem dX0_layPath_110 : decode cX0_layPath 110 = .ok (.iconst 1, 1) := by decide +kernel
theorem dX0_layPath_111 : decode cX0_layPath 111 = .ok (.goto 4, 3) := by decide +kernel
theorem dX0_layPath_114 : decode cX0_layPath 114 = .ok (.iconst 0, 1) := by decide +kernel
theorem dX0_layPath_115 : decode cX0_layPath 115 = .ok (.istore 5, 2) := by decide +kernel
theorem dX0_layPath_117 : decode cX0_layPath 117 = .ok (.iload 5, 2) := by decide +kernel
theorem dX0_layPath_119 : decode cX0_layPath 119 = .ok (.ifCond .eq 14, 3) := by decide +kernel
theorem dX0_layPath_122 : decode cX0_layPath 122 = .ok (.aload_n 1, 1) := by decide +kernel
theorem dX0_layPath_123 : decode cX0_layPath 123 = .ok (.iload_n 2, 1) := by decide +kernel
theorem dX0_layPath_124 : decode cX0_layPath 124 = .ok (.iload_n 3, 1) := by decide +kernel
theorem dX0_layPath_125 : decode cX0_layPath 125 = .ok (.iload 4, 2) := by decide +kernel
theorem dX0_layPath_127 : decode cX0_layPath 127 = .ok (.invokevirtual 68, 3) := by decide +kernel
theorem dX0_layPath_130 : decode cX0_layPath 130 = .ok (.goto 4, 3) := by decide +kernel
theorem dX0_layPath_133 : decode cX0_layPath 133 = .ok (.iload_n 3, 1) := by decide +kernel
theorem dX0_layPath_134 : decode cX0_layPath 134 = .ok (.istore_n 3, 1) := by decide +kernel
theorem dX0_layPath_135 : decode cX0_layPath 135 = .ok (.goto (-105), 3) := by decide +kernel
theorem dX0_layPath_138 : decode cX0_layPath 138 = .ok (.return_, 1) := by decide +kernel
def w_X0_layPath_115 (o : Nat) (a1 : Nat) (a2 : Int32) (post : mI → Prop) (k30 : mI → Int32 → Int32 → Int32 → Prop) (I : mI) (v3 : Int32) (v4 : Int32) (s0 : Int32) : Prop := (s0 = 0 → k30 I v3 v4 s0) ∧ (¬ s0 = 0 → w_X3_nextStep I a1 a2 v3 v4 (fun r10 => k30 I r10 v4 s0))
set_option maxRecDepth 100000 in
set_option maxHeartbeats 4000000 in
theorem s_X0_layPath_115 {p : Program} {l : Launch} {e : Env} {s : State} {m : MethodId} {args : Array Value} {below : List Frame} {meth : Method} {c : Code} {D : va_G} {cA : Nat → ClassId} {Z : mZ} {bs : Ad} {n : Nat} {K : mK} {R : mR} {L : mL} (E : Ev p s m args c cX0_layPath 6 RX0 D cA Z bs) (hr : meth.sig.returnType = none) (hlk : meth.locks = false) {o : Nat} {a1 : Nat} {a2 : Int32} (ho : isX0 K R o) (ha1 : isX3 K R a1) {post : mI → Prop} {k30 : mI → Int32 → Int32 → Int32 → Prop} (hk30 : ∀ (I : mI) (v3 : Int32) (v4 : Int32) (v5 : Int32) (H : Heap) (locs : List Loc) (ls : Array Slot), k30 I v3 v4 v5 → mm D cA bs (n, K, R, I, L) H → va_S (Ab bs) s.heap H locs → lv_has ls 6 [(0, .ref (ad bs o)), (1, .ref (ad bs a1)), (2, .int a2), (3, .int v3), (4, .int v4), (5, .int v5)] → W p l e ({ frames := 2, cells := 0, slots := 0, locals := 64 } : Room) s m args below meth c H locs 0 0 (MQ below (QV D cA bs (fun u => ∃ I', u = (n, K, R, I', L) ∧ post I')) args s 0 0 (Ab bs)) (F0 m 30 ls [])) {I : mI} {v3 : Int32} {v4 : Int32} {s0 : Int32} {H : Heap} {locs : List Loc} {ls : Array Slot} (hw : w_X0_layPath_115 o a1 a2 post k30 I v3 v4 s0) (hM : mm D cA bs (n, K, R, I, L) H) (hS : va_S (Ab bs) s.heap H locs) (hl : lv_has ls 6 [(0, .ref (ad bs o)), (1, .ref (ad bs a1)), (2, .int a2), (3, .int v3), (4, .int v4)]) : W p l e ({ frames := 2, cells := 0, slots := 0, locals := 64 } : Room) s m args below meth c H locs 0 0 (MQ below (QV D cA bs (fun u => ∃ I', u = (n, K, R, I', L) ∧ post I')) args s 0 0 (Ab bs)) (F0 m 115 ls [.int s0]) := by
  have hx := E.1.1
  have hb := E.1.2.1
  refine lv_istore (lv' := [(5, .int s0), (0, .ref (ad bs o)), (1, .ref (ad bs a1)), (2, .int a2), (3, .int v3), (4, .int v4)]) hx hb dX0_layPath_115 hl (by decide) rfl (fun ls hl => ?_)
  refine lv_iload hx hb dX0_layPath_117 (lv_at hl 0 rfl) ?_
  refine lv_if_eq (tgt := 133) hx hb dX0_layPath_119 (by decide) (fun cq => ?_) (fun cq => ?_)
  · have hw := hw.1 cq
    refine lv_iload_n hx hb dX0_layPath_133 rfl (lv_at hl 4 rfl) ?_
    refine lv_istore_n (lv' := [(3, .int v3), (5, .int s0), (0, .ref (ad bs o)), (1, .ref (ad bs a1)), (2, .int a2), (4, .int v4)]) hx hb dX0_layPath_134 rfl hl (by decide) rfl (fun ls hl => ?_)
    refine lv_goto (tgt := 30) hx hb dX0_layPath_135 (by decide) ?_
    exact hk30 _ _ _ _ H locs ls  hw hM hS (lv_sub hl [2, 3, 4, 0, 5, 1] rfl)
  · have hw := hw.2 cq
    refine lv_aload_n hx hb dX0_layPath_122 rfl (lv_at hl 2 rfl) ?_
    refine lv_iload_n hx hb dX0_layPath_123 rfl (lv_at hl 3 rfl) ?_
    refine lv_iload_n hx hb dX0_layPath_124 rfl (lv_at hl 4 rfl) ?_
    refine lv_iload hx hb dX0_layPath_125 (lv_at hl 5 rfl) ?_
    refine m_ci (m_runV E hM hS cs_X0_68 ha1.1 (by decide) rfl rfl (c_X3_nextStep ha1 hw) rfl rfl ⟨Nat.le_of_ble_eq_true rfl, Nat.le_of_ble_eq_true rfl⟩ rfl hl.1 rfl (Nat.le_of_ble_eq_true rfl) dX0_layPath_127 ⟨Nat.le_of_ble_eq_true rfl, Nat.le_of_ble_eq_true rfl⟩) hS (fun r10 u H locs hp hM hS => ?_)
    obtain ⟨rfl, hw⟩ := hp
    refine lv_goto (tgt := 134) hx hb dX0_layPath_130 (by decide) ?_
    refine lv_istore_n (lv' := [(3, .int r10), (5, .int s0), (0, .ref (ad bs o)), (1, .ref (ad bs a1)), (2, .int a2), (4, .int v4)]) hx hb dX0_layPath_134 rfl hl (by decide) rfl (fun ls hl => ?_)
    refine lv_goto (tgt := 30) hx hb dX0_layPath_135 (by decide) ?_
    exact hk30 _ _ _ _ H locs ls  hw hM hS (lv_sub hl [2, 3, 4, 0, 5, 1] rfl)
def w_X0_layPath_30 (o : Nat) (a1 : Nat) (a2 : Int32) (post : mI → Prop) (I : mI) (v3 : Int32) (v4 : Int32) (v5 : Int32) : Prop := ∀ ZZ : (mI → Int32 → Int32 → Int32 → Prop), (∀ (I : mI) (v3 : Int32) (v4 : Int32) (v5 : Int32), ((v5 = 0 → post I) ∧ (¬ v5 = 0 → (100 ≤ (I o 0) → post I) ∧ (¬ 100 ≤ (I o 0) → vp_in (I o 0) 100 ∧ ∀ I5, I5 = up2 I (o + 1) ((I o 0).toNatClampNeg) v3 → vp_in v3 24 ∧ vp_in (I5 o 0) 100 ∧ ∀ I6, I6 = up2 I5 (o + 2) ((I5 o 0).toNatClampNeg) (I5 (o + 4) v3.toNatClampNeg) → vp_in v3 24 ∧ ∀ I7, I7 = up2 I6 (o + 4) v3.toNatClampNeg (I6 o 0) → ∀ I8, I8 = up2 I7 o 0 ((I7 o 0) + 1) → w_X3_openGoal I8 a1 a2 v4 v3 (fun r9 => vp_in a2 6 ∧ ((I8 (a1 + 9) a2.toNatClampNeg) ≤ r9 → (w_X0_layPath_115 o a1 a2 post ZZ) I8 v3 r9 0) ∧ (¬ (I8 (a1 + 9) a2.toNatClampNeg) ≤ r9 → (w_X0_layPath_115 o a1 a2 post ZZ) I8 v3 r9 1))))) → ZZ I v3 v4 v5) → ZZ I v3 v4 v5
set_option maxRecDepth 100000 in
set_option maxHeartbeats 4000000 in
theorem s_X0_layPath_30 {p : Program} {l : Launch} {e : Env} {s : State} {m : MethodId} {args : Array Value} {below : List Frame} {meth : Method} {c : Code} {D : va_G} {cA : Nat → ClassId} {Z : mZ} {bs : Ad} {n : Nat} {K : mK} {R : mR} {L : mL} (E : Ev p s m args c cX0_layPath 6 RX0 D cA Z bs) (hr : meth.sig.returnType = none) (hlk : meth.locks = false) {o : Nat} {a1 : Nat} {a2 : Int32} (ho : isX0 K R o) (ha1 : isX3 K R a1) {post : mI → Prop} {I : mI} {v3 : Int32} {v4 : Int32} {v5 : Int32} {H : Heap} {locs : List Loc} {ls : Array Slot} (hw : w_X0_layPath_30 o a1 a2 post I v3 v4 v5) (hM : mm D cA bs (n, K, R, I, L) H) (hS : va_S (Ab bs) s.heap H locs) (hl : lv_has ls 6 [(0, .ref (ad bs o)), (1, .ref (ad bs a1)), (2, .int a2), (3, .int v3), (4, .int v4), (5, .int v5)]) : W p l e ({ frames := 2, cells := 0, slots := 0, locals := 64 } : Room) s m args below meth c H locs 0 0 (MQ below (QV D cA bs (fun u => ∃ I', u = (n, K, R, I', L) ∧ post I')) args s 0 0 (Ab bs)) (F0 m 30 ls []) := by
  have hx := E.1.1
  have hb := E.1.2.1
  refine hw (fun I v3 v4 v5 => ∀ (H : Heap) (locs : List Loc) (ls : Array Slot), mm D cA bs (n, K, R, I, L) H → va_S (Ab bs) s.heap H locs → lv_has ls 6 [(0, .ref (ad bs o)), (1, .ref (ad bs a1)), (2, .int a2), (3, .int v3), (4, .int v4), (5, .int v5)] → W p l e ({ frames := 2, cells := 0, slots := 0, locals := 64 } : Room) s m args below meth c H locs 0 0 (MQ below (QV D cA bs (fun u => ∃ I', u = (n, K, R, I', L) ∧ post I')) args s 0 0 (Ab bs)) (F0 m 30 ls [])) ?_ H locs ls hM hS hl
  clear hw hM hS hl
  intro I v3 v4 v5 hw H locs ls hM hS hl
  refine lv_iload hx hb dX0_layPath_30 (lv_at hl 5 rfl) ?_
  refine lv_if_eq (tgt := 138) hx hb dX0_layPath_32 (by decide) (fun cq => ?_) (fun cq => ?_)
  · have hw := hw.1 cq
    exact m_retv hx hb hr hlk hM hS ⟨_, rfl, hw⟩ dX0_layPath_138
  · have hw := hw.2 cq
    refine lv_aload_n hx hb dX0_layPath_35 rfl (lv_at hl 0 rfl) ?_
    refine m_geti E hM fs_X0_53 ho.1 dX0_layPath_36 ?_
    refine lv_bipush (v := 100) hx hb dX0_layPath_39 (by decide) ?_
    refine lv_icmp_ge (tgt := 138) hx hb dX0_layPath_41 (by decide) (fun cq => ?_) (fun cq => ?_)
    · have hw := hw.1 cq
      exact m_retv hx hb hr hlk hM hS ⟨_, rfl, hw⟩ dX0_layPath_138
    · have hw := hw.2 cq
      refine lv_aload_n hx hb dX0_layPath_44 rfl (lv_at hl 0 rfl) ?_
      refine m_getr E hM fs_X0_9 ho.1 (isO_at ho 0 rfl).1 dX0_layPath_45 ?_
      refine lv_aload_n hx hb dX0_layPath_48 rfl (lv_at hl 0 rfl) ?_
      refine m_geti E hM fs_X0_53 ho.1 dX0_layPath_49 ?_
      refine lv_iload_n hx hb dX0_layPath_52 rfl (lv_at hl 3 rfl) ?_
      obtain ⟨hv, hw⟩ := hw
      refine m_iast E hM hS (isO_at ho 0 rfl).2 hv dX0_layPath_53 (fun I5 H locs eI5 hM hS => ?_)
      have hw := hw I5 eI5
      refine lv_aload_n hx hb dX0_layPath_54 rfl (lv_at hl 0 rfl) ?_
      refine m_getr E hM fs_X0_15 ho.1 (isO_at ho 1 rfl).1 dX0_layPath_55 ?_
      refine lv_aload_n hx hb dX0_layPath_58 rfl (lv_at hl 0 rfl) ?_
      refine m_geti E hM fs_X0_53 ho.1 dX0_layPath_59 ?_
      refine lv_aload_n hx hb dX0_layPath_62 rfl (lv_at hl 0 rfl) ?_
      refine m_getr E hM fs_X0_21 ho.1 (isO_at ho 3 rfl).1 dX0_layPath_63 ?_
      refine lv_iload_n hx hb dX0_layPath_66 rfl (lv_at hl 3 rfl) ?_
      obtain ⟨hv, hw⟩ := hw
      refine m_iald E hM (isO_at ho 3 rfl).2 hv dX0_layPath_67 ?_
      obtain ⟨hv, hw⟩ := hw
      refine m_iast E hM hS (isO_at ho 1 rfl).2 hv dX0_layPath_68 (fun I6 H locs eI6 hM hS => ?_)
      have hw := hw I6 eI6
      refine lv_aload_n hx hb dX0_layPath_69 rfl (lv_at hl 0 rfl) ?_
      refine m_getr E hM fs_X0_21 ho.1 (isO_at ho 3 rfl).1 dX0_layPath_70 ?_
      refine lv_iload_n hx hb dX0_layPath_73 rfl (lv_at hl 3 rfl) ?_
      refine lv_aload_n hx hb dX0_layPath_74 rfl (lv_at hl 0 rfl) ?_
      refine m_geti E hM fs_X0_53 ho.1 dX0_layPath_75 ?_
      obtain ⟨hv, hw⟩ := hw
      refine m_iast E hM hS (isO_at ho 3 rfl).2 hv dX0_layPath_78 (fun I7 H locs eI7 hM hS => ?_)
      have hw := hw I7 eI7
      refine lv_aload_n hx hb dX0_layPath_79 rfl (lv_at hl 0 rfl) ?_
      refine lv_dup hx hb dX0_layPath_80 rfl ?_
      refine m_geti E hM fs_X0_53 ho.1 dX0_layPath_81 ?_
      refine lv_iconst (v := 1) hx hb dX0_layPath_84 (by decide) ?_
      refine lv_iadd hx hb dX0_layPath_85 ?_
      refine m_puti E hM hS fp_X0_53 ho.1 rfl rfl dX0_layPath_86 (fun I8 H locs eI8 hM hS => ?_)
      have hw := hw I8 eI8
      refine lv_aload_n hx hb dX0_layPath_89 rfl (lv_at hl 1 rfl) ?_
      refine lv_iload_n hx hb dX0_layPath_90 rfl (lv_at hl 2 rfl) ?_
      refine lv_iload hx hb dX0_layPath_91 (lv_at hl 4 rfl) ?_
      refine lv_iload_n hx hb dX0_layPath_93 rfl (lv_at hl 3 rfl) ?_
      refine m_ci (m_runV E hM hS cs_X0_61 ha1.1 (by decide) rfl rfl (c_X3_openGoal ha1 hw) rfl rfl ⟨Nat.le_of_ble_eq_true rfl, Nat.le_of_ble_eq_true rfl⟩ rfl hl.1 rfl (Nat.le_of_ble_eq_true rfl) dX0_layPath_94 ⟨Nat.le_of_ble_eq_true rfl, Nat.le_of_ble_eq_true rfl⟩) hS (fun r9 u H locs hp hM hS => ?_)
      obtain ⟨rfl, hw⟩ := hp
      refine lv_istore (lv' := [(4, .int r9), (0, .ref (ad bs o)), (1, .ref (ad bs a1)), (2, .int a2), (3, .int v3), (5, .int v5)]) hx hb dX0_layPath_97 hl (by decide) rfl (fun ls hl => ?_)
      refine lv_iload hx hb dX0_layPath_99 (lv_at hl 0 rfl) ?_
      refine lv_aload_n hx hb dX0_layPath_101 rfl (lv_at hl 2 rfl) ?_
      refine m_getr E hM fs_X0_65 ha1.1 (isO_at ha1 8 rfl).1 dX0_layPath_102 ?_
      refine lv_iload_n hx hb dX0_layPath_105 rfl (lv_at hl 3 rfl) ?_
      obtain ⟨hv, hw⟩ := hw
      refine m_iald E hM (isO_at ha1 8 rfl).2 hv dX0_layPath_106 ?_
      refine lv_icmp_ge (tgt := 114) hx hb dX0_layPath_107 (by decide) (fun cq => ?_) (fun cq => ?_)
      · have hw := hw.1 cq
        refine lv_iconst (v := 0) hx hb dX0_layPath_114 (by decide) ?_
        exact s_X0_layPath_115 E hr hlk ho ha1 (fun I v3 v4 v5 H locs ls  hw hM hS hl => hw H locs ls  hM hS hl)  hw hM hS (lv_sub hl [1, 2, 3, 4, 0] rfl)
      · have hw := hw.2 cq
        refine lv_iconst (v := 1) hx hb dX0_layPath_110 (by decide) ?_
        refine lv_goto (tgt := 115) hx hb dX0_layPath_111 (by decide) ?_
        exact s_X0_layPath_115 E hr hlk ho ha1 (fun I v3 v4 v5 H locs ls  hw hM hS hl => hw H locs ls  hM hS hl)  hw hM hS (lv_sub hl [1, 2, 3, 4, 0] rfl)
def w_X0_layPath (I : mI) (o : Nat) (a1 : Nat) (a2 : Int32) (post : mI → Prop) : Prop := w_J7_fill_53178 I (o + 4) 24 (-1) (fun I1 => vp_in a2 6 ∧ ∀ x2, x2 = (I1 (a1 + 8) a2.toNatClampNeg) → ∀ I3, I3 = up2 I1 o 0 0 → w_X3_hasStep I3 a1 x2 (fun b4 => (w_X0_layPath_30 o a1 a2 post) I3 x2 0 (bI b4)))
set_option maxRecDepth 100000 in
set_option maxHeartbeats 4000000 in
theorem c_X0_layPath {l : Launch} {D : va_G} {cA : Nat → ClassId} {Z : mZ} {bs : Ad} {n : Nat} {K : mK} {R : mR} {I : mI} {L : mL} {o : Nat} {a1 : Nat} {a2 : Int32} {post : mI → Prop} (ho : isX0 K R o) (ha1 : isX3 K R a1) (hw : w_X0_layPath I o a1 a2 post) : Met l yX0_layPath (.code yX0_layPath cX0_layPath 6 none :: gw) ({ frames := 2, cells := 0, slots := 0, locals := 64 } : Room) (PreM D cA Z bs (n, K, R, I, L) [.ref (ad bs o), .ref (ad bs a1), .int a2]) (QV D cA bs (fun u => ∃ I', u = (n, K, R, I', L) ∧ post I')) 0 0 (Ab bs) := by
  refine m_met (by decide) (Nat.le_of_ble_eq_true rfl) (fun p e s m below meth c ls E hr hlk hM hS hl => ?_)
  have E : Ev p s m _ c cX0_layPath 6 RX0 D cA Z bs := E
  have hl : lv_has ls 6 [(0, .ref (ad bs o)), (1, .ref (ad bs a1)), (2, .int a2)] := hl
  have hx := E.1.1
  have hb := E.1.2.1
  generalize hHe : s.heap = H at hM ⊢
  have hS : va_S (Ab bs) s.heap H [] := by rw [← hHe]; exact va_S.rf
  clear hHe
  refine lv_aload_n hx hb dX0_layPath_0 rfl (lv_at hl 0 rfl) ?_
  refine m_getr E hM fs_X0_21 ho.1 (isO_at ho 3 rfl).1 dX0_layPath_1 ?_
  refine lv_iconst (v := (-1)) hx hb dX0_layPath_4 (by decide) ?_
  refine m_cv (m_runS E hM hS cs_X0_44 (c_J7_fill_53178 ((isO_at ho 3 rfl).2) hw) rfl rfl ⟨Nat.le_of_ble_eq_true rfl, Nat.le_of_ble_eq_true rfl⟩ rfl hl.1 rfl (Nat.le_of_ble_eq_true rfl) dX0_layPath_5 ⟨Nat.le_of_ble_eq_true rfl, Nat.le_of_ble_eq_true rfl⟩) hS (fun u H locs hp hM hS => ?_)
  obtain ⟨I1, rfl, hw⟩ := hp
  refine lv_aload_n hx hb dX0_layPath_8 rfl (lv_at hl 1 rfl) ?_
  refine m_getr E hM fs_X0_50 ha1.1 (isO_at ha1 7 rfl).1 dX0_layPath_9 ?_
  refine lv_iload_n hx hb dX0_layPath_12 rfl (lv_at hl 2 rfl) ?_
  obtain ⟨hv, hw⟩ := hw
  refine m_iald E hM (isO_at ha1 7 rfl).2 hv dX0_layPath_13 ?_
  refine lv_topi (fun x2 ex2 => ?_)
  have hw := hw x2 ex2
  refine lv_istore_n (lv' := [(3, .int x2), (0, .ref (ad bs o)), (1, .ref (ad bs a1)), (2, .int a2)]) hx hb dX0_layPath_14 rfl hl (by decide) rfl (fun ls hl => ?_)
  refine lv_iconst (v := 0) hx hb dX0_layPath_15 (by decide) ?_
  refine lv_istore (lv' := [(4, .int 0), (3, .int x2), (0, .ref (ad bs o)), (1, .ref (ad bs a1)), (2, .int a2)]) hx hb dX0_layPath_16 hl (by decide) rfl (fun ls hl => ?_)
  refine lv_aload_n hx hb dX0_layPath_18 rfl (lv_at hl 2 rfl) ?_
  refine lv_iconst (v := 0) hx hb dX0_layPath_19 (by decide) ?_
  refine m_puti E hM hS fp_X0_53 ho.1 rfl rfl dX0_layPath_20 (fun I3 H locs eI3 hM hS => ?_)
  have hw := hw I3 eI3
  refine lv_aload_n hx hb dX0_layPath_23 rfl (lv_at hl 3 rfl) ?_
  refine lv_iload_n hx hb dX0_layPath_24 rfl (lv_at hl 1 rfl) ?_
  refine m_ci (m_runV E hM hS cs_X0_57 ha1.1 (by decide) rfl rfl (c_X3_hasStep ha1 hw) rfl rfl ⟨Nat.le_of_ble_eq_true rfl, Nat.le_of_ble_eq_true rfl⟩ rfl hl.1 rfl (Nat.le_of_ble_eq_true rfl) dX0_layPath_25 ⟨Nat.le_of_ble_eq_true rfl, Nat.le_of_ble_eq_true rfl⟩) hS (fun r9 u H locs hp hM hS => ?_)
  obtain ⟨b4, rfl, rfl, hw⟩ := hp
  refine lv_istore (lv' := [(5, .int (bI b4)), (4, .int 0), (3, .int x2), (0, .ref (ad bs o)), (1, .ref (ad bs a1)), (2, .int a2)]) hx hb dX0_layPath_28 hl (by decide) rfl (fun ls hl => ?_)
  exact s_X0_layPath_30 E hr hlk ho ha1  hw hM hS (lv_sub hl [3, 4, 5, 2, 1, 0] rfl)
theorem dX3_shoeAt_0 : decode cX3_shoeAt 0 = .ok (.iconst (-1), 1) := by decide +kernel
theorem dX3_shoeAt_1 : decode cX3_shoeAt 1 = .ok (.istore_n 3, 1) := by decide +kernel
theorem dX3_shoeAt_2 : decode cX3_shoeAt 2 = .ok (.aload_n 0, 1) := by decide +kernel
theorem dX3_shoeAt_3 : decode cX3_shoeAt 3 = .ok (.getfield 21, 3) := by decide +kernel
theorem dX3_shoeAt_6 : decode cX3_shoeAt 6 = .ok (.iload_n 1, 1) := by decide +kernel
theorem dX3_shoeAt_7 : decode cX3_shoeAt 7 = .ok (.iaload, 1) := by decide +kernel
theorem dX3_shoeAt_8 : decode cX3_shoeAt 8 = .ok (.istore 4, 2) := by decide +kernel
theorem dX3_shoeAt_10 : decode cX3_shoeAt 10 = .ok (.iconst 0, 1) := by decide +kernel
theorem dX3_shoeAt_11 : decode cX3_shoeAt 11 = .ok (.istore 5, 2) := by decide +kernel
theorem dX3_shoeAt_13 : decode cX3_shoeAt 13 = .ok (.iload 5, 2) := by decide +kernel
theorem dX3_shoeAt_15 : decode cX3_shoeAt 15 = .ok (.aload_n 0, 1) := by decide +kernel
theorem dX3_shoeAt_16 : decode cX3_shoeAt 16 = .ok (.getfield 64, 3) := by decide +kernel
theorem dX3_shoeAt_19 : decode cX3_shoeAt 19 = .ok (.if_icmp .ge 59, 3) := by decide +kernel
theorem dX3_shoeAt_22 : decode cX3_shoeAt 22 = .ok (.aload_n 0, 1) := by decide +kernel
theorem dX3_shoeAt_23 : decode cX3_shoeAt 23 = .ok (.getfield 42, 3) := by decide +kernel
theorem dX3_shoeAt_26 : decode cX3_shoeAt 26 = .ok (.iload 5, 2) := by decide +kernel
theorem dX3_shoeAt_28 : decode cX3_shoeAt 28 = .ok (.iaload, 1) := by decide +kernel
theorem dX3_shoeAt_29 : decode cX3_shoeAt 29 = .ok (.iload_n 1, 1) := by decide +kernel
theorem dX3_shoeAt_30 : decode cX3_shoeAt 30 = .ok (.if_icmp .ne 42, 3) := by decide +kernel
theorem dX3_shoeAt_33 : decode cX3_shoeAt 33 = .ok (.aload_n 0, 1) := by decide +kernel
theorem dX3_shoeAt_34 : decode cX3_shoeAt 34 = .ok (.getfield 45, 3) := by decide +kernel
theorem dX3_shoeAt_37 : decode cX3_shoeAt 37 = .ok (.iload 5, 2) := by decide +kernel
theorem dX3_shoeAt_39 : decode cX3_shoeAt 39 = .ok (.iaload, 1) := by decide +kernel
theorem dX3_shoeAt_40 : decode cX3_shoeAt 40 = .ok (.iload_n 2, 1) := by decide +kernel
theorem dX3_shoeAt_41 : decode cX3_shoeAt 41 = .ok (.if_icmp .gt 31, 3) := by decide +kernel
theorem dX3_shoeAt_44 : decode cX3_shoeAt 44 = .ok (.aload_n 0, 1) := by decide +kernel
theorem dX3_shoeAt_45 : decode cX3_shoeAt 45 = .ok (.getfield 45, 3) := by decide +kernel
theorem dX3_shoeAt_48 : decode cX3_shoeAt 48 = .ok (.iload 5, 2) := by decide +kernel
theorem dX3_shoeAt_50 : decode cX3_shoeAt 50 = .ok (.iaload, 1) := by decide +kernel
theorem dX3_shoeAt_51 : decode cX3_shoeAt 51 = .ok (.iload_n 3, 1) := by decide +kernel
theorem dX3_shoeAt_52 : decode cX3_shoeAt 52 = .ok (.if_icmp .lt 20, 3) := by decide +kernel
theorem dX3_shoeAt_55 : decode cX3_shoeAt 55 = .ok (.aload_n 0, 1) := by decide +kernel
theorem dX3_shoeAt_56 : decode cX3_shoeAt 56 = .ok (.getfield 45, 3) := by decide +kernel
theorem dX3_shoeAt_59 : decode cX3_shoeAt 59 = .ok (.iload 5, 2) := by decide +kernel
theorem dX3_shoeAt_61 : decode cX3_shoeAt 61 = .ok (.iaload, 1) := by decide +kernel
theorem dX3_shoeAt_62 : decode cX3_shoeAt 62 = .ok (.istore_n 3, 1) := by decide +kernel
theorem dX3_shoeAt_63 : decode cX3_shoeAt 63 = .ok (.aload_n 0, 1) := by decide +kernel
theorem dX3_shoeAt_64 : decode cX3_shoeAt 64 = .ok (.getfield 48, 3) := by decide +kernel
theorem dX3_shoeAt_67 : decode cX3_shoeAt 67 = .ok (.iload 5, 2) := by decide +kernel
theorem dX3_shoeAt_69 : decode cX3_shoeAt 69 = .ok (.iaload, 1) := by decide +kernel
theorem dX3_shoeAt_70 : decode cX3_shoeAt 70 = .ok (.istore 4, 2) := by decide +kernel
theorem dX3_shoeAt_72 : decode cX3_shoeAt 72 = .ok (.iinc 5 1, 3) := by decide +kernel
theorem dX3_shoeAt_75 : decode cX3_shoeAt 75 = .ok (.goto (-62), 3) := by decide +kernel
theorem dX3_shoeAt_78 : decode cX3_shoeAt 78 = .ok (.iload 4, 2) := by decide +kernel
theorem dX3_shoeAt_80 : decode cX3_shoeAt 80 = .ok (.ireturn, 1) := by decide +kernel
def w_X3_shoeAt_13 (I : mI) (o : Nat) (a1 : Int32) (a2 : Int32) (post : Int32 → Prop) (v3 : Int32) (v4 : Int32) (v5 : Int32) : Prop := ∀ ZZ : (Int32 → Int32 → Int32 → Prop), (∀ (v3 : Int32) (v4 : Int32) (v5 : Int32), (((I o 4) ≤ v5 → post v4) ∧ (¬ (I o 4) ≤ v5 → vp_in v5 8 ∧ (¬ (I (o + 11) v5.toNatClampNeg) = a1 → ∀ x2, x2 = v5 + 1 → ZZ v3 v4 x2) ∧ ((I (o + 11) v5.toNatClampNeg) = a1 → vp_in v5 8 ∧ (a2 < (I (o + 12) v5.toNatClampNeg) → ∀ x3, x3 = v5 + 1 → ZZ v3 v4 x3) ∧ (¬ a2 < (I (o + 12) v5.toNatClampNeg) → vp_in v5 8 ∧ ((I (o + 12) v5.toNatClampNeg) < v3 → ∀ x4, x4 = v5 + 1 → ZZ v3 v4 x4) ∧ (¬ (I (o + 12) v5.toNatClampNeg) < v3 → vp_in v5 8 ∧ ∀ x5, x5 = (I (o + 12) v5.toNatClampNeg) → vp_in v5 8 ∧ ∀ x6, x6 = (I (o + 13) v5.toNatClampNeg) → ∀ x7, x7 = v5 + 1 → ZZ x5 x6 x7))))) → ZZ v3 v4 v5) → ZZ v3 v4 v5
set_option maxRecDepth 100000 in
set_option maxHeartbeats 4000000 in
theorem s_X3_shoeAt_13 {p : Program} {l : Launch} {e : Env} {s : State} {m : MethodId} {args : Array Value} {below : List Frame} {meth : Method} {c : Code} {D : va_G} {cA : Nat → ClassId} {Z : mZ} {bs : Ad} {n : Nat} {K : mK} {R : mR} {I : mI} {L : mL} (E : Ev p s m args c cX3_shoeAt 6 RX3 D cA Z bs) (hr : meth.sig.returnType = (some .int)) (hlk : meth.locks = false) {o : Nat} {a1 : Int32} {a2 : Int32} (ho : isX3 K R o) {post : Int32 → Prop} {v3 : Int32} {v4 : Int32} {v5 : Int32} {H : Heap} {locs : List Loc} {ls : Array Slot} (hw : w_X3_shoeAt_13 I o a1 a2 post v3 v4 v5) (hM : mm D cA bs (n, K, R, I, L) H) (hS : va_S (Ab bs) s.heap H locs) (hl : lv_has ls 6 [(0, .ref (ad bs o)), (1, .int a1), (2, .int a2), (3, .int v3), (4, .int v4), (5, .int v5)]) : W p l e ({ frames := 0, cells := 0, slots := 0, locals := 0 } : Room) s m args below meth c H locs 0 0 (MQ below (QI D cA bs (fun r u => u = (n, K, R, I, L) ∧ post r)) args s 0 0 (Ab bs)) (F0 m 13 ls []) := by
  have hx := E.1.1
  have hb := E.1.2.1
  refine hw (fun v3 v4 v5 => ∀ (H : Heap) (locs : List Loc) (ls : Array Slot), mm D cA bs (n, K, R, I, L) H → va_S (Ab bs) s.heap H locs → lv_has ls 6 [(0, .ref (ad bs o)), (1, .int a1), (2, .int a2), (3, .int v3), (4, .int v4), (5, .int v5)] → W p l e ({ frames := 0, cells := 0, slots := 0, locals := 0 } : Room) s m args below meth c H locs 0 0 (MQ below (QI D cA bs (fun r u => u = (n, K, R, I, L) ∧ post r)) args s 0 0 (Ab bs)) (F0 m 13 ls [])) ?_ H locs ls hM hS hl
  clear hw hM hS hl
  intro v3 v4 v5 hw H locs ls hM hS hl
  refine lv_iload hx hb dX3_shoeAt_13 (lv_at hl 5 rfl) ?_
  refine lv_aload_n hx hb dX3_shoeAt_15 rfl (lv_at hl 0 rfl) ?_
  refine m_geti E hM fs_X3_64 ho.1 dX3_shoeAt_16 ?_
  refine lv_icmp_ge (tgt := 78) hx hb dX3_shoeAt_19 (by decide) (fun cq => ?_) (fun cq => ?_)
  · have hw := hw.1 cq
    refine lv_iload hx hb dX3_shoeAt_78 (lv_at hl 4 rfl) ?_
    exact m_reti hx hb hr hlk hM hS ⟨rfl, hw⟩ dX3_shoeAt_80
  · have hw := hw.2 cq
    refine lv_aload_n hx hb dX3_shoeAt_22 rfl (lv_at hl 0 rfl) ?_
    refine m_getr E hM fs_X3_42 ho.1 (isO_at ho 10 rfl).1 dX3_shoeAt_23 ?_
    refine lv_iload hx hb dX3_shoeAt_26 (lv_at hl 5 rfl) ?_
    obtain ⟨hv, hw⟩ := hw
    refine m_iald E hM (isO_at ho 10 rfl).2 hv dX3_shoeAt_28 ?_
    refine lv_iload_n hx hb dX3_shoeAt_29 rfl (lv_at hl 1 rfl) ?_
    refine lv_icmp_ne (tgt := 72) hx hb dX3_shoeAt_30 (by decide) (fun cq => ?_) (fun cq => ?_)
    · have hw := hw.1 cq
      obtain ⟨x2, ex2⟩ : ∃ y : Int32, y = v5 + 1 := ⟨_, rfl⟩
      have hw := hw x2 ex2
      refine lv_iinc (v := x2) (lv' := [(5, .int x2), (0, .ref (ad bs o)), (1, .int a1), (2, .int a2), (3, .int v3), (4, .int v4)]) hx hb dX3_shoeAt_72 hl (k := 5) rfl (by rw [ex2]; rfl) (by decide) rfl (fun ls hl => ?_)
      refine lv_goto (tgt := 13) hx hb dX3_shoeAt_75 (by decide) ?_
      exact hw H locs ls  hM hS (lv_sub hl [1, 2, 3, 4, 5, 0] rfl)
    · have hw := hw.2 cq
      refine lv_aload_n hx hb dX3_shoeAt_33 rfl (lv_at hl 0 rfl) ?_
      refine m_getr E hM fs_X3_45 ho.1 (isO_at ho 11 rfl).1 dX3_shoeAt_34 ?_
      refine lv_iload hx hb dX3_shoeAt_37 (lv_at hl 5 rfl) ?_
      obtain ⟨hv, hw⟩ := hw
      refine m_iald E hM (isO_at ho 11 rfl).2 hv dX3_shoeAt_39 ?_
      refine lv_iload_n hx hb dX3_shoeAt_40 rfl (lv_at hl 2 rfl) ?_
      refine lv_icmp_gt (tgt := 72) hx hb dX3_shoeAt_41 (by decide) (fun cq => ?_) (fun cq => ?_)
      · have hw := hw.1 cq
        obtain ⟨x3, ex3⟩ : ∃ y : Int32, y = v5 + 1 := ⟨_, rfl⟩
        have hw := hw x3 ex3
        refine lv_iinc (v := x3) (lv' := [(5, .int x3), (0, .ref (ad bs o)), (1, .int a1), (2, .int a2), (3, .int v3), (4, .int v4)]) hx hb dX3_shoeAt_72 hl (k := 5) rfl (by rw [ex3]; rfl) (by decide) rfl (fun ls hl => ?_)
        refine lv_goto (tgt := 13) hx hb dX3_shoeAt_75 (by decide) ?_
        exact hw H locs ls  hM hS (lv_sub hl [1, 2, 3, 4, 5, 0] rfl)
      · have hw := hw.2 cq
        refine lv_aload_n hx hb dX3_shoeAt_44 rfl (lv_at hl 0 rfl) ?_
        refine m_getr E hM fs_X3_45 ho.1 (isO_at ho 11 rfl).1 dX3_shoeAt_45 ?_
        refine lv_iload hx hb dX3_shoeAt_48 (lv_at hl 5 rfl) ?_
        obtain ⟨hv, hw⟩ := hw
        refine m_iald E hM (isO_at ho 11 rfl).2 hv dX3_shoeAt_50 ?_
        refine lv_iload_n hx hb dX3_shoeAt_51 rfl (lv_at hl 3 rfl) ?_
        refine lv_icmp_lt (tgt := 72) hx hb dX3_shoeAt_52 (by decide) (fun cq => ?_) (fun cq => ?_)
        · have hw := hw.1 cq
          obtain ⟨x4, ex4⟩ : ∃ y : Int32, y = v5 + 1 := ⟨_, rfl⟩
          have hw := hw x4 ex4
          refine lv_iinc (v := x4) (lv' := [(5, .int x4), (0, .ref (ad bs o)), (1, .int a1), (2, .int a2), (3, .int v3), (4, .int v4)]) hx hb dX3_shoeAt_72 hl (k := 5) rfl (by rw [ex4]; rfl) (by decide) rfl (fun ls hl => ?_)
          refine lv_goto (tgt := 13) hx hb dX3_shoeAt_75 (by decide) ?_
          exact hw H locs ls  hM hS (lv_sub hl [1, 2, 3, 4, 5, 0] rfl)
        · have hw := hw.2 cq
          refine lv_aload_n hx hb dX3_shoeAt_55 rfl (lv_at hl 0 rfl) ?_
          refine m_getr E hM fs_X3_45 ho.1 (isO_at ho 11 rfl).1 dX3_shoeAt_56 ?_
          refine lv_iload hx hb dX3_shoeAt_59 (lv_at hl 5 rfl) ?_
          obtain ⟨hv, hw⟩ := hw
          refine m_iald E hM (isO_at ho 11 rfl).2 hv dX3_shoeAt_61 ?_
          refine lv_topi (fun x5 ex5 => ?_)
          have hw := hw x5 ex5
          refine lv_istore_n (lv' := [(3, .int x5), (0, .ref (ad bs o)), (1, .int a1), (2, .int a2), (4, .int v4), (5, .int v5)]) hx hb dX3_shoeAt_62 rfl hl (by decide) rfl (fun ls hl => ?_)
          refine lv_aload_n hx hb dX3_shoeAt_63 rfl (lv_at hl 1 rfl) ?_
          refine m_getr E hM fs_X3_48 ho.1 (isO_at ho 12 rfl).1 dX3_shoeAt_64 ?_
          refine lv_iload hx hb dX3_shoeAt_67 (lv_at hl 5 rfl) ?_
          obtain ⟨hv, hw⟩ := hw
          refine m_iald E hM (isO_at ho 12 rfl).2 hv dX3_shoeAt_69 ?_
          refine lv_topi (fun x6 ex6 => ?_)
          have hw := hw x6 ex6
          refine lv_istore (lv' := [(4, .int x6), (3, .int x5), (0, .ref (ad bs o)), (1, .int a1), (2, .int a2), (5, .int v5)]) hx hb dX3_shoeAt_70 hl (by decide) rfl (fun ls hl => ?_)
          obtain ⟨x7, ex7⟩ : ∃ y : Int32, y = v5 + 1 := ⟨_, rfl⟩
          have hw := hw x7 ex7
          refine lv_iinc (v := x7) (lv' := [(5, .int x7), (4, .int x6), (3, .int x5), (0, .ref (ad bs o)), (1, .int a1), (2, .int a2)]) hx hb dX3_shoeAt_72 hl (k := 5) rfl (by rw [ex7]; rfl) (by decide) rfl (fun ls hl => ?_)
          refine lv_goto (tgt := 13) hx hb dX3_shoeAt_75 (by decide) ?_
          exact hw H locs ls  hM hS (lv_sub hl [3, 4, 5, 2, 1, 0] rfl)
def w_X3_shoeAt (I : mI) (o : Nat) (a1 : Int32) (a2 : Int32) (post : Int32 → Prop) : Prop := vp_in a1 6 ∧ ∀ x1, x1 = (I (o + 4) a1.toNatClampNeg) → (w_X3_shoeAt_13 I o a1 a2 post) (-1) x1 0
set_option maxRecDepth 100000 in
set_option maxHeartbeats 4000000 in
theorem c_X3_shoeAt {l : Launch} {D : va_G} {cA : Nat → ClassId} {Z : mZ} {bs : Ad} {n : Nat} {K : mK} {R : mR} {I : mI} {L : mL} {o : Nat} {a1 : Int32} {a2 : Int32} {post : Int32 → Prop} (ho : isX3 K R o) (hw : w_X3_shoeAt I o a1 a2 post) : Met l yX3_shoeAt (.code yX3_shoeAt cX3_shoeAt 6 (some .int) :: gw) ({ frames := 0, cells := 0, slots := 0, locals := 0 } : Room) (PreM D cA Z bs (n, K, R, I, L) [.ref (ad bs o), .int a1, .int a2]) (QI D cA bs (fun r u => u = (n, K, R, I, L) ∧ post r)) 0 0 (Ab bs) := by
  refine m_met (by decide) (Nat.le_of_ble_eq_true rfl) (fun p e s m below meth c ls E hr hlk hM hS hl => ?_)
  have E : Ev p s m _ c cX3_shoeAt 6 RX3 D cA Z bs := E
  have hl : lv_has ls 6 [(0, .ref (ad bs o)), (1, .int a1), (2, .int a2)] := hl
  have hx := E.1.1
  have hb := E.1.2.1
  generalize hHe : s.heap = H at hM ⊢
  have hS : va_S (Ab bs) s.heap H [] := by rw [← hHe]; exact va_S.rf
  clear hHe
  refine lv_iconst (v := (-1)) hx hb dX3_shoeAt_0 (by decide) ?_
  refine lv_istore_n (lv' := [(3, .int (-1)), (0, .ref (ad bs o)), (1, .int a1), (2, .int a2)]) hx hb dX3_shoeAt_1 rfl hl (by decide) rfl (fun ls hl => ?_)
  refine lv_aload_n hx hb dX3_shoeAt_2 rfl (lv_at hl 1 rfl) ?_
  refine m_getr E hM fs_X3_21 ho.1 (isO_at ho 3 rfl).1 dX3_shoeAt_3 ?_
  refine lv_iload_n hx hb dX3_shoeAt_6 rfl (lv_at hl 2 rfl) ?_
  obtain ⟨hv, hw⟩ := hw
  refine m_iald E hM (isO_at ho 3 rfl).2 hv dX3_shoeAt_7 ?_
  refine lv_topi (fun x1 ex1 => ?_)
  have hw := hw x1 ex1
  refine lv_istore (lv' := [(4, .int x1), (3, .int (-1)), (0, .ref (ad bs o)), (1, .int a1), (2, .int a2)]) hx hb dX3_shoeAt_8 hl (by decide) rfl (fun ls hl => ?_)
  refine lv_iconst (v := 0) hx hb dX3_shoeAt_10 (by decide) ?_
  refine lv_istore (lv' := [(5, .int 0), (4, .int x1), (3, .int (-1)), (0, .ref (ad bs o)), (1, .int a1), (2, .int a2)]) hx hb dX3_shoeAt_11 hl (by decide) rfl (fun ls hl => ?_)
  exact s_X3_shoeAt_13 E hr hlk ho  hw hM hS (lv_sub hl [3, 4, 5, 2, 1, 0] rfl)
theorem dX3_loudOf_0 : decode cX3_loudOf 0 = .ok (.iconst 0, 1) := by decide +kernel
theorem dX3_loudOf_1 : decode cX3_loudOf 1 = .ok (.aload_n 0, 1) := by decide +kernel
theorem dX3_loudOf_2 : decode cX3_loudOf 2 = .ok (.getfield 24, 3) := by decide +kernel
theorem dX3_loudOf_5 : decode cX3_loudOf 5 = .ok (.iload_n 1, 1) := by decide +kernel
theorem dX3_loudOf_6 : decode cX3_loudOf 6 = .ok (.iaload, 1) := by decide +kernel
theorem dX3_loudOf_7 : decode cX3_loudOf 7 = .ok (.iload_n 3, 1) := by decide +kernel
theorem dX3_loudOf_8 : decode cX3_loudOf 8 = .ok (.iadd, 1) := by decide +kernel
theorem dX3_loudOf_9 : decode cX3_loudOf 9 = .ok (.aload_n 0, 1) := by decide +kernel
theorem dX3_loudOf_10 : decode cX3_loudOf 10 = .ok (.getfield 9, 3) := by decide +kernel
theorem dX3_loudOf_13 : decode cX3_loudOf 13 = .ok (.iload_n 2, 1) := by decide +kernel
theorem dX3_loudOf_14 : decode cX3_loudOf 14 = .ok (.iaload, 1) := by decide +kernel
theorem dX3_loudOf_15 : decode cX3_loudOf 15 = .ok (.isub, 1) := by decide +kernel
theorem dX3_loudOf_16 : decode cX3_loudOf 16 = .ok (.invokestatic 79, 3) := by decide +kernel
theorem dX3_loudOf_19 : decode cX3_loudOf 19 = .ok (.ireturn, 1) := by decide +kernel
def w_X3_loudOf (I : mI) (o : Nat) (a1 : Int32) (a2 : Int32) (a3 : Int32) (post : Int32 → Prop) : Prop := vp_in a1 6 ∧ vp_in a2 24 ∧ post (imax 0 (((I (o + 5) a1.toNatClampNeg) + a3) - (I (o + 1) a2.toNatClampNeg)))
set_option maxRecDepth 100000 in
set_option maxHeartbeats 4000000 in
theorem c_X3_loudOf {l : Launch} {D : va_G} {cA : Nat → ClassId} {Z : mZ} {bs : Ad} {n : Nat} {K : mK} {R : mR} {I : mI} {L : mL} {o : Nat} {a1 : Int32} {a2 : Int32} {a3 : Int32} {post : Int32 → Prop} (ho : isX3 K R o) (hw : w_X3_loudOf I o a1 a2 a3 post) : Met l yX3_loudOf (.code yX3_loudOf cX3_loudOf 4 (some .int) :: gw) ({ frames := 1, cells := 0, slots := 0, locals := 40 } : Room) (PreM D cA Z bs (n, K, R, I, L) [.ref (ad bs o), .int a1, .int a2, .int a3]) (QI D cA bs (fun r u => u = (n, K, R, I, L) ∧ post r)) 0 0 (Ab bs) := by
  refine m_met (by decide) (Nat.le_of_ble_eq_true rfl) (fun p e s m below meth c ls E hr hlk hM hS hl => ?_)
  have E : Ev p s m _ c cX3_loudOf 4 RX3 D cA Z bs := E
  have hl : lv_has ls 4 [(0, .ref (ad bs o)), (1, .int a1), (2, .int a2), (3, .int a3)] := hl
  have hx := E.1.1
  have hb := E.1.2.1
  generalize hHe : s.heap = H at hM ⊢
  have hS : va_S (Ab bs) s.heap H [] := by rw [← hHe]; exact va_S.rf
  clear hHe
  refine lv_iconst (v := 0) hx hb dX3_loudOf_0 (by decide) ?_
  refine lv_aload_n hx hb dX3_loudOf_1 rfl (lv_at hl 0 rfl) ?_
  refine m_getr E hM fs_X3_24 ho.1 (isO_at ho 4 rfl).1 dX3_loudOf_2 ?_
  refine lv_iload_n hx hb dX3_loudOf_5 rfl (lv_at hl 1 rfl) ?_
  obtain ⟨hv, hw⟩ := hw
  refine m_iald E hM (isO_at ho 4 rfl).2 hv dX3_loudOf_6 ?_
  refine lv_iload_n hx hb dX3_loudOf_7 rfl (lv_at hl 3 rfl) ?_
  refine lv_iadd hx hb dX3_loudOf_8 ?_
  refine lv_aload_n hx hb dX3_loudOf_9 rfl (lv_at hl 0 rfl) ?_
  refine m_getr E hM fs_X3_9 ho.1 (isO_at ho 0 rfl).1 dX3_loudOf_10 ?_
  refine lv_iload_n hx hb dX3_loudOf_13 rfl (lv_at hl 2 rfl) ?_
  obtain ⟨hv, hw⟩ := hw
  refine m_iald E hM (isO_at ho 0 rfl).2 hv dX3_loudOf_14 ?_
  refine lv_isub hx hb dX3_loudOf_15 ?_
  refine m_max E ml_X3_79 hl.1 (Nat.le_of_ble_eq_true rfl) (Nat.le_of_ble_eq_true rfl) (Nat.le_of_ble_eq_true rfl) (Nat.le_of_ble_eq_true rfl) dX3_loudOf_16 ?_
  exact m_reti hx hb hr hlk hM hS ⟨rfl, hw⟩ dX3_loudOf_19
theorem dX2_hearers_0 : decode cX2_hearers 0 = .ok (.iload_n 1, 1) := by decide +kernel
theorem dX2_hearers_1 : decode cX2_hearers 1 = .ok (.ifCond .lt 19, 3) := by decide +kernel
theorem dX2_hearers_4 : decode cX2_hearers 4 = .ok (.iload_n 1, 1) := by decide +kernel
theorem dX2_hearers_5 : decode cX2_hearers 5 = .ok (.bipush 24, 2) := by decide +kernel
theorem dX2_hearers_7 : decode cX2_hearers 7 = .ok (.if_icmp .ge 13, 3) := by decide +kernel
theorem dX2_hearers_10 : decode cX2_hearers 10 = .ok (.iload_n 2, 1) := by decide +kernel
theorem dX2_hearers_11 : decode cX2_hearers 11 = .ok (.ifCond .lt 9, 3) := by decide +kernel
theorem dX2_hearers_14 : decode cX2_hearers 14 = .ok (.iload_n 2, 1) := by decide +kernel
theorem dX2_hearers_15 : decode cX2_hearers 15 = .ok (.bipush 18, 2) := by decide +kernel
theorem dX2_hearers_17 : decode cX2_hearers 17 = .ok (.if_icmp .le 5, 3) := by decide +kernel
theorem dX2_hearers_20 : decode cX2_hearers 20 = .ok (.iconst 0, 1) := by decide +kernel
theorem dX2_hearers_21 : decode cX2_hearers 21 = .ok (.ireturn, 1) := by decide +kernel
theorem dX2_hearers_22 : decode cX2_hearers 22 = .ok (.aload_n 0, 1) := by decide +kernel
theorem dX2_hearers_23 : decode cX2_hearers 23 = .ok (.getfield 45, 3) := by decide +kernel
theorem dX2_hearers_26 : decode cX2_hearers 26 = .ok (.iload_n 1, 1) := by decide +kernel
theorem dX2_hearers_27 : decode cX2_hearers 27 = .ok (.bipush 19, 2) := by decide +kernel
theorem dX2_hearers_29 : decode cX2_hearers 29 = .ok (.imul, 1) := by decide +kernel
theorem dX2_hearers_30 : decode cX2_hearers 30 = .ok (.iload_n 2, 1) := by decide +kernel
theorem dX2_hearers_31 : decode cX2_hearers 31 = .ok (.iadd, 1) := by decide +kernel
theorem dX2_hearers_32 : decode cX2_hearers 32 = .ok (.iaload, 1) := by decide +kernel
theorem dX2_hearers_33 : decode cX2_hearers 33 = .ok (.ireturn, 1) := by decide +kernel
def w_X2_hearers (I : mI) (o : Nat) (oh : Nat) (a1 : Int32) (a2 : Int32) (post : Int32 → Prop) : Prop := (a1 < 0 → post 0) ∧ (¬ a1 < 0 → (24 ≤ a1 → post 0) ∧ (¬ 24 ≤ a1 → (a2 < 0 → post 0) ∧ (¬ a2 < 0 → (a2 ≤ 18 → vp_in ((a1 * 19) + a2) 456 ∧ post (I (o + 12) ((a1 * 19) + a2).toNatClampNeg)) ∧ (¬ a2 ≤ 18 → post 0))))
set_option maxRecDepth 100000 in
set_option maxHeartbeats 4000000 in
theorem c_X2_hearers {l : Launch} {D : va_G} {cA : Nat → ClassId} {Z : mZ} {bs : Ad} {n : Nat} {K : mK} {R : mR} {I : mI} {L : mL} {o : Nat} {oh : Nat} {a1 : Int32} {a2 : Int32} {post : Int32 → Prop} (ho : isX2 K R o oh) (hw : w_X2_hearers I o oh a1 a2 post) : Met l yX2_hearers (.code yX2_hearers cX2_hearers 3 (some .int) :: gw) ({ frames := 0, cells := 0, slots := 0, locals := 0 } : Room) (PreM D cA Z bs (n, K, R, I, L) [.ref (ad bs o), .int a1, .int a2]) (QI D cA bs (fun r u => u = (n, K, R, I, L) ∧ post r)) 0 0 (Ab bs) := by
  refine m_met (by decide) (Nat.le_of_ble_eq_true rfl) (fun p e s m below meth c ls E hr hlk hM hS hl => ?_)
  have E : Ev p s m _ c cX2_hearers 3 RX2 D cA Z bs := E
  have hl : lv_has ls 3 [(0, .ref (ad bs o)), (1, .int a1), (2, .int a2)] := hl
  have hx := E.1.1
  have hb := E.1.2.1
  generalize hHe : s.heap = H at hM ⊢
  have hS : va_S (Ab bs) s.heap H [] := by rw [← hHe]; exact va_S.rf
  clear hHe
  refine lv_iload_n hx hb dX2_hearers_0 rfl (lv_at hl 1 rfl) ?_
  refine lv_if_lt (tgt := 20) hx hb dX2_hearers_1 (by decide) (fun cq => ?_) (fun cq => ?_)
  · have hw := hw.1 cq
    refine lv_iconst (v := 0) hx hb dX2_hearers_20 (by decide) ?_
    exact m_reti hx hb hr hlk hM hS ⟨rfl, hw⟩ dX2_hearers_21
  · have hw := hw.2 cq
    refine lv_iload_n hx hb dX2_hearers_4 rfl (lv_at hl 1 rfl) ?_
    refine lv_bipush (v := 24) hx hb dX2_hearers_5 (by decide) ?_
    refine lv_icmp_ge (tgt := 20) hx hb dX2_hearers_7 (by decide) (fun cq => ?_) (fun cq => ?_)
    · have hw := hw.1 cq
      refine lv_iconst (v := 0) hx hb dX2_hearers_20 (by decide) ?_
      exact m_reti hx hb hr hlk hM hS ⟨rfl, hw⟩ dX2_hearers_21
    · have hw := hw.2 cq
      refine lv_iload_n hx hb dX2_hearers_10 rfl (lv_at hl 2 rfl) ?_
      refine lv_if_lt (tgt := 20) hx hb dX2_hearers_11 (by decide) (fun cq => ?_) (fun cq => ?_)
      · have hw := hw.1 cq
        refine lv_iconst (v := 0) hx hb dX2_hearers_20 (by decide) ?_
        exact m_reti hx hb hr hlk hM hS ⟨rfl, hw⟩ dX2_hearers_21
      · have hw := hw.2 cq
        refine lv_iload_n hx hb dX2_hearers_14 rfl (lv_at hl 2 rfl) ?_
        refine lv_bipush (v := 18) hx hb dX2_hearers_15 (by decide) ?_
        refine lv_icmp_le (tgt := 22) hx hb dX2_hearers_17 (by decide) (fun cq => ?_) (fun cq => ?_)
        · have hw := hw.1 cq
          refine lv_aload_n hx hb dX2_hearers_22 rfl (lv_at hl 0 rfl) ?_
          refine m_getr E hM fs_X2_45 ho.1.1 (isO_at ho.1 11 rfl).1 dX2_hearers_23 ?_
          refine lv_iload_n hx hb dX2_hearers_26 rfl (lv_at hl 1 rfl) ?_
          refine lv_bipush (v := 19) hx hb dX2_hearers_27 (by decide) ?_
          refine lv_imul hx hb dX2_hearers_29 ?_
          refine lv_iload_n hx hb dX2_hearers_30 rfl (lv_at hl 2 rfl) ?_
          refine lv_iadd hx hb dX2_hearers_31 ?_
          obtain ⟨hv, hw⟩ := hw
          refine m_iald E hM (isO_at ho.1 11 rfl).2 hv dX2_hearers_32 ?_
          exact m_reti hx hb hr hlk hM hS ⟨rfl, hw⟩ dX2_hearers_33
        · have hw := hw.2 cq
          refine lv_iconst (v := 0) hx hb dX2_hearers_20 (by decide) ?_
          exact m_reti hx hb hr hlk hM hS ⟨rfl, hw⟩ dX2_hearers_21
theorem dX11_pick_0 : decode cX11_pick 0 = .ok (.iload_n 1, 1) := by decide +kernel
theorem dX11_pick_1 : decode cX11_pick 1 = .ok (.ifCond .lt 20, 3) := by decide +kernel
theorem dX11_pick_4 : decode cX11_pick 4 = .ok (.iload_n 1, 1) := by decide +kernel
theorem dX11_pick_5 : decode cX11_pick 5 = .ok (.iload_n 2, 1) := by decide +kernel
theorem dX11_pick_6 : decode cX11_pick 6 = .ok (.if_icmp .ge 15, 3) := by decide +kernel
theorem dX11_pick_9 : decode cX11_pick 9 = .ok (.iload_n 1, 1) := by decide +kernel
theorem dX11_pick_10 : decode cX11_pick 10 = .ok (.aload_n 0, 1) := by decide +kernel
theorem dX11_pick_11 : decode cX11_pick 11 = .ok (.arraylength, 1) := by decide +kernel
theorem dX11_pick_12 : decode cX11_pick 12 = .ok (.if_icmp .ge 9, 3) := by decide +kernel
theorem dX11_pick_15 : decode cX11_pick 15 = .ok (.aload_n 0, 1) := by decide +kernel
theorem dX11_pick_16 : decode cX11_pick 16 = .ok (.iload_n 1, 1) := by decide +kernel
theorem dX11_pick_17 : decode cX11_pick 17 = .ok (.iaload, 1) := by decide +kernel
theorem dX11_pick_18 : decode cX11_pick 18 = .ok (.goto 4, 3) := by decide +kernel
theorem dX11_pick_21 : decode cX11_pick 21 = .ok (.iload_n 3, 1) := by decide +kernel
theorem dX11_pick_22 : decode cX11_pick 22 = .ok (.ireturn, 1) := by decide +kernel
def w_X11_pick (I : mI) (a1 : Nat) (a1n : Nat) (a2 : Int32) (a3 : Int32) (a4 : Int32) (post : Int32 → Prop) : Prop := (a2 < 0 → post a4) ∧ (¬ a2 < 0 → (a3 ≤ a2 → post a4) ∧ (¬ a3 ≤ a2 → ((Int32.ofNat a1n) ≤ a2 → post a4) ∧ (¬ (Int32.ofNat a1n) ≤ a2 → vp_in a2 a1n ∧ post (I a1 a2.toNatClampNeg))))
set_option maxRecDepth 100000 in
set_option maxHeartbeats 4000000 in
theorem c_X11_pick {l : Launch} {D : va_G} {cA : Nat → ClassId} {Z : mZ} {bs : Ad} {n : Nat} {K : mK} {R : mR} {I : mI} {L : mL} {a1 : Nat} {a1n : Nat} {a2 : Int32} {a3 : Int32} {a4 : Int32} {post : Int32 → Prop} (ha1 : K a1 = (14, a1n)) (hw : w_X11_pick I a1 a1n a2 a3 a4 post) : Met l yX11_pick (.code yX11_pick cX11_pick 4 (some .int) :: gw) ({ frames := 0, cells := 0, slots := 0, locals := 0 } : Room) (PreM D cA Z bs (n, K, R, I, L) [.ref (ad bs a1), .int a2, .int a3, .int a4]) (QI D cA bs (fun r u => u = (n, K, R, I, L) ∧ post r)) 0 0 (Ab bs) := by
  refine m_met (by decide) (Nat.le_of_ble_eq_true rfl) (fun p e s m below meth c ls E hr hlk hM hS hl => ?_)
  have E : Ev p s m _ c cX11_pick 4 RX11 D cA Z bs := E
  have hl : lv_has ls 4 [(0, .ref (ad bs a1)), (1, .int a2), (2, .int a3), (3, .int a4)] := hl
  have hx := E.1.1
  have hb := E.1.2.1
  generalize hHe : s.heap = H at hM ⊢
  have hS : va_S (Ab bs) s.heap H [] := by rw [← hHe]; exact va_S.rf
  clear hHe
  refine lv_iload_n hx hb dX11_pick_0 rfl (lv_at hl 1 rfl) ?_
  refine lv_if_lt (tgt := 21) hx hb dX11_pick_1 (by decide) (fun cq => ?_) (fun cq => ?_)
  · have hw := hw.1 cq
    refine lv_iload_n hx hb dX11_pick_21 rfl (lv_at hl 3 rfl) ?_
    exact m_reti hx hb hr hlk hM hS ⟨rfl, hw⟩ dX11_pick_22
  · have hw := hw.2 cq
    refine lv_iload_n hx hb dX11_pick_4 rfl (lv_at hl 1 rfl) ?_
    refine lv_iload_n hx hb dX11_pick_5 rfl (lv_at hl 2 rfl) ?_
    refine lv_icmp_ge (tgt := 21) hx hb dX11_pick_6 (by decide) (fun cq => ?_) (fun cq => ?_)
    · have hw := hw.1 cq
      refine lv_iload_n hx hb dX11_pick_21 rfl (lv_at hl 3 rfl) ?_
      exact m_reti hx hb hr hlk hM hS ⟨rfl, hw⟩ dX11_pick_22
    · have hw := hw.2 cq
      refine lv_iload_n hx hb dX11_pick_9 rfl (lv_at hl 1 rfl) ?_
      refine lv_aload_n hx hb dX11_pick_10 rfl (lv_at hl 0 rfl) ?_
      refine m_alen E hM ha1 (by simp) dX11_pick_11 ?_
      refine lv_icmp_ge (tgt := 21) hx hb dX11_pick_12 (by decide) (fun cq => ?_) (fun cq => ?_)
      · have hw := hw.1 cq
        refine lv_iload_n hx hb dX11_pick_21 rfl (lv_at hl 3 rfl) ?_
        exact m_reti hx hb hr hlk hM hS ⟨rfl, hw⟩ dX11_pick_22
      · have hw := hw.2 cq
        refine lv_aload_n hx hb dX11_pick_15 rfl (lv_at hl 0 rfl) ?_
        refine lv_iload_n hx hb dX11_pick_16 rfl (lv_at hl 1 rfl) ?_
        obtain ⟨hv, hw⟩ := hw
        refine m_iald E hM ha1 hv dX11_pick_17 ?_
        refine lv_goto (tgt := 22) hx hb dX11_pick_18 (by decide) ?_
        exact m_reti hx hb hr hlk hM hS ⟨rfl, hw⟩ dX11_pick_22
theorem dX4_latestOn_0 : decode cX4_latestOn 0 = .ok (.iload_n 2, 1) := by decide +kernel
theorem dX4_latestOn_1 : decode cX4_latestOn 1 = .ok (.aload_n 0, 1) := by decide +kernel
theorem dX4_latestOn_2 : decode cX4_latestOn 2 = .ok (.getfield 21, 3) := by decide +kernel
theorem dX4_latestOn_5 : decode cX4_latestOn 5 = .ok (.isub, 1) := by decide +kernel
theorem dX4_latestOn_6 : decode cX4_latestOn 6 = .ok (.istore_n 3, 1) := by decide +kernel
theorem dX4_latestOn_7 : decode cX4_latestOn 7 = .ok (.iload_n 3, 1) := by decide +kernel
theorem dX4_latestOn_8 : decode cX4_latestOn 8 = .ok (.ifCond .lt 33, 3) := by decide +kernel
theorem dX4_latestOn_11 : decode cX4_latestOn 11 = .ok (.iload_n 3, 1) := by decide +kernel
theorem dX4_latestOn_12 : decode cX4_latestOn 12 = .ok (.aload_n 0, 1) := by decide +kernel
theorem dX4_latestOn_13 : decode cX4_latestOn 13 = .ok (.getfield 31, 3) := by decide +kernel
theorem dX4_latestOn_16 : decode cX4_latestOn 16 = .ok (.if_icmp .ge 25, 3) := by decide +kernel
theorem dX4_latestOn_19 : decode cX4_latestOn 19 = .ok (.aload_n 0, 1) := by decide +kernel
theorem dX4_latestOn_20 : decode cX4_latestOn 20 = .ok (.getfield 9, 3) := by decide +kernel
theorem dX4_latestOn_23 : decode cX4_latestOn 23 = .ok (.iload_n 3, 1) := by decide +kernel
theorem dX4_latestOn_24 : decode cX4_latestOn 24 = .ok (.bipush 24, 2) := by decide +kernel
theorem dX4_latestOn_26 : decode cX4_latestOn 26 = .ok (.imul, 1) := by decide +kernel
theorem dX4_latestOn_27 : decode cX4_latestOn 27 = .ok (.iload_n 1, 1) := by decide +kernel
theorem dX4_latestOn_28 : decode cX4_latestOn 28 = .ok (.iadd, 1) := by decide +kernel
theorem dX4_latestOn_29 : decode cX4_latestOn 29 = .ok (.aload_n 0, 1) := by decide +kernel
theorem dX4_latestOn_30 : decode cX4_latestOn 30 = .ok (.getfield 9, 3) := by decide +kernel
theorem dX4_latestOn_33 : decode cX4_latestOn 33 = .ok (.arraylength, 1) := by decide +kernel
theorem dX4_latestOn_34 : decode cX4_latestOn 34 = .ok (.iconst (-1), 1) := by decide +kernel
theorem dX4_latestOn_35 : decode cX4_latestOn 35 = .ok (.invokestatic 68, 3) := by decide +kernel
theorem dX4_latestOn_38 : decode cX4_latestOn 38 = .ok (.goto 4, 3) := by decide +kernel
theorem dX4_latestOn_41 : decode cX4_latestOn 41 = .ok (.iconst (-1), 1) := by decide +kernel
theorem dX4_latestOn_42 : decode cX4_latestOn 42 = .ok (.ireturn, 1) := by decide +kernel
def w_X4_latestOn (I : mI) (o : Nat) (a1 : Int32) (a2 : Int32) (post : Int32 → Prop) : Prop := ∀ x1, x1 = (a2 - (I o 0)) → (x1 < 0 → post (-1)) ∧ (¬ x1 < 0 → ((I o 1) ≤ x1 → post (-1)) ∧ (¬ (I o 1) ≤ x1 → w_X11_pick I (o + 1) 2400 ((x1 * 24) + a1) (Int32.ofNat 2400) (-1) (fun r2 => post r2)))
set_option maxRecDepth 100000 in
set_option maxHeartbeats 4000000 in
theorem c_X4_latestOn {l : Launch} {D : va_G} {cA : Nat → ClassId} {Z : mZ} {bs : Ad} {n : Nat} {K : mK} {R : mR} {I : mI} {L : mL} {o : Nat} {a1 : Int32} {a2 : Int32} {post : Int32 → Prop} (ho : isX4 K R o) (hw : w_X4_latestOn I o a1 a2 post) : Met l yX4_latestOn (.code yX4_latestOn cX4_latestOn 4 (some .int) :: gw) ({ frames := 1, cells := 0, slots := 0, locals := 23 } : Room) (PreM D cA Z bs (n, K, R, I, L) [.ref (ad bs o), .int a1, .int a2]) (QI D cA bs (fun r u => u = (n, K, R, I, L) ∧ post r)) 0 0 (Ab bs) := by
  refine m_met (by decide) (Nat.le_of_ble_eq_true rfl) (fun p e s m below meth c ls E hr hlk hM hS hl => ?_)
  have E : Ev p s m _ c cX4_latestOn 4 RX4 D cA Z bs := E
  have hl : lv_has ls 4 [(0, .ref (ad bs o)), (1, .int a1), (2, .int a2)] := hl
  have hx := E.1.1
  have hb := E.1.2.1
  generalize hHe : s.heap = H at hM ⊢
  have hS : va_S (Ab bs) s.heap H [] := by rw [← hHe]; exact va_S.rf
  clear hHe
  refine lv_iload_n hx hb dX4_latestOn_0 rfl (lv_at hl 2 rfl) ?_
  refine lv_aload_n hx hb dX4_latestOn_1 rfl (lv_at hl 0 rfl) ?_
  refine m_geti E hM fs_X4_21 ho.1 dX4_latestOn_2 ?_
  refine lv_isub hx hb dX4_latestOn_5 ?_
  refine lv_topi (fun x1 ex1 => ?_)
  have hw := hw x1 ex1
  refine lv_istore_n (lv' := [(3, .int x1), (0, .ref (ad bs o)), (1, .int a1), (2, .int a2)]) hx hb dX4_latestOn_6 rfl hl (by decide) rfl (fun ls hl => ?_)
  refine lv_iload_n hx hb dX4_latestOn_7 rfl (lv_at hl 0 rfl) ?_
  refine lv_if_lt (tgt := 41) hx hb dX4_latestOn_8 (by decide) (fun cq => ?_) (fun cq => ?_)
  · have hw := hw.1 cq
    refine lv_iconst (v := (-1)) hx hb dX4_latestOn_41 (by decide) ?_
    exact m_reti hx hb hr hlk hM hS ⟨rfl, hw⟩ dX4_latestOn_42
  · have hw := hw.2 cq
    refine lv_iload_n hx hb dX4_latestOn_11 rfl (lv_at hl 0 rfl) ?_
    refine lv_aload_n hx hb dX4_latestOn_12 rfl (lv_at hl 1 rfl) ?_
    refine m_geti E hM fs_X4_31 ho.1 dX4_latestOn_13 ?_
    refine lv_icmp_ge (tgt := 41) hx hb dX4_latestOn_16 (by decide) (fun cq => ?_) (fun cq => ?_)
    · have hw := hw.1 cq
      refine lv_iconst (v := (-1)) hx hb dX4_latestOn_41 (by decide) ?_
      exact m_reti hx hb hr hlk hM hS ⟨rfl, hw⟩ dX4_latestOn_42
    · have hw := hw.2 cq
      refine lv_aload_n hx hb dX4_latestOn_19 rfl (lv_at hl 1 rfl) ?_
      refine m_getr E hM fs_X4_9 ho.1 (isO_at ho 0 rfl).1 dX4_latestOn_20 ?_
      refine lv_iload_n hx hb dX4_latestOn_23 rfl (lv_at hl 0 rfl) ?_
      refine lv_bipush (v := 24) hx hb dX4_latestOn_24 (by decide) ?_
      refine lv_imul hx hb dX4_latestOn_26 ?_
      refine lv_iload_n hx hb dX4_latestOn_27 rfl (lv_at hl 2 rfl) ?_
      refine lv_iadd hx hb dX4_latestOn_28 ?_
      refine lv_aload_n hx hb dX4_latestOn_29 rfl (lv_at hl 1 rfl) ?_
      refine m_getr E hM fs_X4_9 ho.1 (isO_at ho 0 rfl).1 dX4_latestOn_30 ?_
      refine m_alen E hM (isO_at ho 0 rfl).2 (by simp) dX4_latestOn_33 ?_
      refine lv_iconst (v := (-1)) hx hb dX4_latestOn_34 (by decide) ?_
      refine m_ci (m_runSN E hM hS cs_X4_68 (c_X11_pick ((isO_at ho 0 rfl).2) hw) rfl rfl ⟨Nat.le_of_ble_eq_true rfl, Nat.le_of_ble_eq_true rfl⟩ rfl hl.1 rfl (Nat.le_of_ble_eq_true rfl) dX4_latestOn_35 ⟨Nat.le_of_ble_eq_true rfl, Nat.le_of_ble_eq_true rfl⟩) hS (fun r2 u H locs hp hM hS => ?_)
      obtain ⟨rfl, hw⟩ := hp
      refine lv_goto (tgt := 42) hx hb dX4_latestOn_38 (by decide) ?_
      exact m_reti hx hb hr hlk hM hS ⟨rfl, hw⟩ dX4_latestOn_42
theorem dX0_echoLoud_0 : decode cX0_echoLoud 0 = .ok (.aload_n 0, 1) := by decide +kernel
theorem dX0_echoLoud_1 : decode cX0_echoLoud 1 = .ok (.getfield 9, 3) := by decide +kernel
theorem dX0_echoLoud_4 : decode cX0_echoLoud 4 = .ok (.iload 5, 2) := by decide +kernel
theorem dX0_echoLoud_6 : decode cX0_echoLoud 6 = .ok (.iaload, 1) := by decide +kernel
theorem dX0_echoLoud_7 : decode cX0_echoLoud 7 = .ok (.istore 6, 2) := by decide +kernel
theorem dX0_echoLoud_9 : decode cX0_echoLoud 9 = .ok (.aload_n 2, 1) := by decide +kernel
theorem dX0_echoLoud_10 : decode cX0_echoLoud 10 = .ok (.iload 6, 2) := by decide +kernel
theorem dX0_echoLoud_12 : decode cX0_echoLoud 12 = .ok (.iload 4, 2) := by decide +kernel
theorem dX0_echoLoud_14 : decode cX0_echoLoud 14 = .ok (.iload 5, 2) := by decide +kernel
theorem dX0_echoLoud_16 : decode cX0_echoLoud 16 = .ok (.iadd, 1) := by decide +kernel
theorem dX0_echoLoud_17 : decode cX0_echoLoud 17 = .ok (.invokevirtual 87, 3) := by decide +kernel
theorem dX0_echoLoud_20 : decode cX0_echoLoud 20 = .ok (.istore 7, 2) := by decide +kernel
theorem dX0_echoLoud_22 : decode cX0_echoLoud 22 = .ok (.aload_n 0, 1) := by decide +kernel
theorem dX0_echoLoud_23 : decode cX0_echoLoud 23 = .ok (.getfield 15, 3) := by decide +kernel
theorem dX0_echoLoud_26 : decode cX0_echoLoud 26 = .ok (.iload 5, 2) := by decide +kernel
theorem dX0_echoLoud_28 : decode cX0_echoLoud 28 = .ok (.iaload, 1) := by decide +kernel
theorem dX0_echoLoud_29 : decode cX0_echoLoud 29 = .ok (.iconst (-1), 1) := by decide +kernel
theorem dX0_echoLoud_30 : decode cX0_echoLoud 30 = .ok (.if_icmp .ne 7, 3) := by decide +kernel
theorem dX0_echoLoud_33 : decode cX0_echoLoud 33 = .ok (.iconst (-1), 1) := by decide +kernel
theorem dX0_echoLoud_34 : decode cX0_echoLoud 34 = .ok (.goto 13, 3) := by decide +kernel
theorem dX0_echoLoud_37 : decode cX0_echoLoud 37 = .ok (.iload 4, 2) := by decide +kernel
theorem dX0_echoLoud_39 : decode cX0_echoLoud 39 = .ok (.aload_n 0, 1) := by decide +kernel
theorem dX0_echoLoud_40 : decode cX0_echoLoud 40 = .ok (.getfield 15, 3) := by decide +kernel
theorem dX0_echoLoud_43 : decode cX0_echoLoud 43 = .ok (.iload 5, 2) := by decide +kernel
theorem dX0_echoLoud_45 : decode cX0_echoLoud 45 = .ok (.iaload, 1) := by decide +kernel
theorem dX0_echoLoud_46 : decode cX0_echoLoud 46 = .ok (.iadd, 1) := by decide +kernel
theorem dX0_echoLoud_47 : decode cX0_echoLoud 47 = .ok (.istore 8, 2) := by decide +kernel
theorem dX0_echoLoud_49 : decode cX0_echoLoud 49 = .ok (.iload 7, 2) := by decide +kernel
theorem dX0_echoLoud_51 : decode cX0_echoLoud 51 = .ok (.iconst (-1), 1) := by decide +kernel
theorem dX0_echoLoud_52 : decode cX0_echoLoud 52 = .ok (.if_icmp .ne 11, 3) := by decide +kernel
theorem dX0_echoLoud_55 : decode cX0_echoLoud 55 = .ok (.iload 8, 2) := by decide +kernel
theorem dX0_echoLoud_57 : decode cX0_echoLoud 57 = .ok (.iconst (-1), 1) := by decide +kernel
theorem dX0_echoLoud_58 : decode cX0_echoLoud 58 = .ok (.if_icmp .ne 5, 3) := by decide +kernel
theorem dX0_echoLoud_61 : decode cX0_echoLoud 61 = .ok (.iconst 0, 1) := by decide +kernel
theorem dX0_echoLoud_62 : decode cX0_echoLoud 62 = .ok (.ireturn, 1) := by decide +kernel
theorem dX0_echoLoud_63 : decode cX0_echoLoud 63 = .ok (.iload 7, 2) := by decide +kernel
theorem dX0_echoLoud_65 : decode cX0_echoLoud 65 = .ok (.iconst (-1), 1) := by decide +kernel
theorem dX0_echoLoud_66 : decode cX0_echoLoud 66 = .ok (.if_icmp .eq 48, 3) := by decide +kernel
theorem dX0_echoLoud_69 : decode cX0_echoLoud 69 = .ok (.iload 8, 2) := by decide +kernel
theorem dX0_echoLoud_71 : decode cX0_echoLoud 71 = .ok (.iconst (-1), 1) := by decide +kernel
theorem dX0_echoLoud_72 : decode cX0_echoLoud 72 = .ok (.if_icmp .eq 38, 3) := by decide +kernel
theorem dX0_echoLoud_75 : decode cX0_echoLoud 75 = .ok (.aload_n 1, 1) := by decide +kernel
theorem dX0_echoLoud_76 : decode cX0_echoLoud 76 = .ok (.getfield 92, 3) := by decide +kernel
theorem dX0_echoLoud_79 : decode cX0_echoLoud 79 = .ok (.iload 7, 2) := by decide +kernel
theorem dX0_echoLoud_81 : decode cX0_echoLoud 81 = .ok (.iaload, 1) := by decide +kernel
theorem dX0_echoLoud_82 : decode cX0_echoLoud 82 = .ok (.iload 8, 2) := by decide +kernel
theorem dX0_echoLoud_84 : decode cX0_echoLoud 84 = .ok (.if_icmp .gt 26, 3) := by decide +kernel
theorem dX0_echoLoud_87 : decode cX0_echoLoud 87 = .ok (.aload_n 1, 1) := by decide +kernel
theorem dX0_echoLoud_88 : decode cX0_echoLoud 88 = .ok (.getfield 92, 3) := by decide +kernel
theorem dX0_echoLoud_91 : decode cX0_echoLoud 91 = .ok (.iload 7, 2) := by decide +kernel
theorem dX0_echoLoud_93 : decode cX0_echoLoud 93 = .ok (.iaload, 1) := by decide +kernel
theorem dX0_echoLoud_94 : decode cX0_echoLoud 94 = .ok (.iload 8, 2) := by decide +kernel
theorem dX0_echoLoud_96 : decode cX0_echoLoud 96 = .ok (.if_icmp .ne 18, 3) := by decide +kernel
theorem dX0_echoLoud_99 : decode cX0_echoLoud 99 = .ok (.aload_n 1, 1) := by decide +kernel
theorem dX0_echoLoud_100 : decode cX0_echoLoud 100 = .ok (.getfield 95, 3) := by decide +kernel
theorem dX0_echoLoud_103 : decode cX0_echoLoud 103 = .ok (.iload 7, 2) := by decide +kernel
theorem dX0_echoLoud_105 : decode cX0_echoLoud 105 = .ok (.iaload, 1) := by decide +kernel
theorem dX0_echoLoud_106 : decode cX0_echoLoud 106 = .ok (.iload_n 3, 1) := by decide +kernel
theorem dX0_echoLoud_107 : decode cX0_echoLoud 107 = .ok (.if_icmp .le 7, 3) := by decide +kernel
theorem dX0_echoLoud_110 : decode cX0_echoLoud 110 = .ok (.iconst 1, 1) := by decide +kernel
theorem dX0_echoLoud_111 : decode cX0_echoLoud 111 = .ok (.goto 4, 3) := by decide +kernel
theorem dX0_echoLoud_114 : decode cX0_echoLoud 114 = .ok (.iconst 0, 1) := by decide +kernel
theorem dX0_echoLoud_115 : decode cX0_echoLoud 115 = .ok (.istore 9, 2) := by decide +kernel
theorem dX0_echoLoud_117 : decode cX0_echoLoud 117 = .ok (.iload 9, 2) := by decide +kernel
theorem dX0_echoLoud_119 : decode cX0_echoLoud 119 = .ok (.ifCond .eq 13, 3) := by decide +kernel
theorem dX0_echoLoud_122 : decode cX0_echoLoud 122 = .ok (.aload_n 1, 1) := by decide +kernel
theorem dX0_echoLoud_123 : decode cX0_echoLoud 123 = .ok (.getfield 92, 3) := by decide +kernel
theorem dX0_echoLoud_126 : decode cX0_echoLoud 126 = .ok (.iload 7, 2) := by decide +kernel
theorem dX0_echoLoud_128 : decode cX0_echoLoud 128 = .ok (.iaload, 1) := by decide +kernel
theorem dX0_echoLoud_129 : decode cX0_echoLoud 129 = .ok (.goto 5, 3) := by decide +kernel
theorem dX0_echoLoud_132 : decode cX0_echoLoud 132 = .ok (.iload 8, 2) := by decide +kernel
theorem dX0_echoLoud_134 : decode cX0_echoLoud 134 = .ok (.istore 10, 2) := by decide +kernel
theorem dX0_echoLoud_136 : decode cX0_echoLoud 136 = .ok (.iload 4, 2) := by decide +kernel
theorem dX0_echoLoud_138 : decode cX0_echoLoud 138 = .ok (.iload 5, 2) := by decide +kernel
theorem dX0_echoLoud_140 : decode cX0_echoLoud 140 = .ok (.iadd, 1) := by decide +kernel
theorem dX0_echoLoud_141 : decode cX0_echoLoud 141 = .ok (.iload 10, 2) := by decide +kernel
theorem dX0_echoLoud_143 : decode cX0_echoLoud 143 = .ok (.isub, 1) := by decide +kernel
theorem dX0_echoLoud_144 : decode cX0_echoLoud 144 = .ok (.aload_n 1, 1) := by decide +kernel
theorem dX0_echoLoud_145 : decode cX0_echoLoud 145 = .ok (.getfield 24, 3) := by decide +kernel
theorem dX0_echoLoud_148 : decode cX0_echoLoud 148 = .ok (.getfield 98, 3) := by decide +kernel
theorem dX0_echoLoud_151 : decode cX0_echoLoud 151 = .ok (.if_icmp .le 5, 3) := by decide +kernel
theorem dX0_echoLoud_154 : decode cX0_echoLoud 154 = .ok (.iconst 0, 1) := by decide +kernel
theorem dX0_echoLoud_155 : decode cX0_echoLoud 155 = .ok (.ireturn, 1) := by decide +kernel
theorem dX0_echoLoud_156 : decode cX0_echoLoud 156 = .ok (.iload 9, 2) := by decide +kernel
theorem dX0_echoLoud_158 : decode cX0_echoLoud 158 = .ok (.ifCond .eq 13, 3) := by decide +kernel
theorem dX0_echoLoud_161 : decode cX0_echoLoud 161 = .ok (.aload_n 1, 1) := by decide +kernel
theorem dX0_echoLoud_162 : decode cX0_echoLoud 162 = .ok (.getfield 101, 3) := by decide +kernel
theorem dX0_echoLoud_165 : decode cX0_echoLoud 165 = .ok (.iload 7, 2) := by decide +kernel
theorem dX0_echoLoud_167 : decode cX0_echoLoud 167 = .ok (.iaload, 1) := by decide +kernel
theorem dX0_echoLoud_168 : decode cX0_echoLoud 168 = .ok (.goto 20, 3) := by decide +kernel
theorem dX0_echoLoud_171 : decode cX0_echoLoud 171 = .ok (.aload_n 1, 1) := by decide +kernel
theorem dX0_echoLoud_172 : decode cX0_echoLoud 172 = .ok (.getfield 24, 3) := by decide +kernel
theorem dX0_echoLoud_175 : decode cX0_echoLoud 175 = .ok (.iload_n 3, 1) := by decide +kernel
theorem dX0_echoLoud_176 : decode cX0_echoLoud 176 = .ok (.iload 6, 2) := by decide +kernel
theorem dX0_echoLoud_178 : decode cX0_echoLoud 178 = .ok (.aload_n 0, 1) := by decide +kernel
theorem dX0_echoLoud_179 : decode cX0_echoLoud 179 = .ok (.getfield 18, 3) := by decide +kernel
theorem dX0_echoLoud_182 : decode cX0_echoLoud 182 = .ok (.iload 8, 2) := by decide +kernel
theorem dX0_echoLoud_184 : decode cX0_echoLoud 184 = .ok (.iaload, 1) := by decide +kernel
theorem dX0_echoLoud_185 : decode cX0_echoLoud 185 = .ok (.invokevirtual 71, 3) := by decide +kernel
theorem dX0_echoLoud_188 : decode cX0_echoLoud 188 = .ok (.iconst 2, 1) := by decide +kernel
theorem dX0_echoLoud_189 : decode cX0_echoLoud 189 = .ok (.idiv, 1) := by decide +kernel
theorem dX0_echoLoud_190 : decode cX0_echoLoud 190 = .ok (.ireturn, 1) := by decide +kernel
def w_X0_echoLoud_134 (I : mI) (o : Nat) (a1 : Nat) (a1h : Nat) (a2 : Nat) (a3 : Int32) (a4 : Int32) (a5 : Int32) (post : Int32 → Prop) (v6 : Int32) (v7 : Int32) (v8 : Int32) (v9 : Int32) (s0 : Int32) : Prop := (((a4 + a5) - s0) ≤ (I a1h 1) → (v9 = 0 → vp_in v8 100 ∧ w_X3_loudOf I a1h a3 v6 (I (o + 3) v8.toNatClampNeg) (fun r3 => post (r3 / 2))) ∧ (¬ v9 = 0 → vp_in v7 600 ∧ post ((I (a1 + 5) v7.toNatClampNeg) / 2))) ∧ (¬ ((a4 + a5) - s0) ≤ (I a1h 1) → post 0)
set_option maxRecDepth 100000 in
set_option maxHeartbeats 4000000 in
theorem s_X0_echoLoud_134 {p : Program} {l : Launch} {e : Env} {s : State} {m : MethodId} {args : Array Value} {below : List Frame} {meth : Method} {c : Code} {D : va_G} {cA : Nat → ClassId} {Z : mZ} {bs : Ad} {n : Nat} {K : mK} {R : mR} {I : mI} {L : mL} (E : Ev p s m args c cX0_echoLoud 11 RX0 D cA Z bs) (hr : meth.sig.returnType = (some .int)) (hlk : meth.locks = false) {o : Nat} {a1 : Nat} {a1h : Nat} {a2 : Nat} {a3 : Int32} {a4 : Int32} {a5 : Int32} (ho : isX0 K R o) (ha1 : isX2 K R a1 a1h) (ha2 : isX4 K R a2) {post : Int32 → Prop} {v6 : Int32} {v7 : Int32} {v8 : Int32} {v9 : Int32} {s0 : Int32} {H : Heap} {locs : List Loc} {ls : Array Slot} (hw : w_X0_echoLoud_134 I o a1 a1h a2 a3 a4 a5 post v6 v7 v8 v9 s0) (hM : mm D cA bs (n, K, R, I, L) H) (hS : va_S (Ab bs) s.heap H locs) (hl : lv_has ls 11 [(0, .ref (ad bs o)), (1, .ref (ad bs a1)), (3, .int a3), (4, .int a4), (5, .int a5), (6, .int v6), (7, .int v7), (8, .int v8), (9, .int v9)]) : W p l e ({ frames := 2, cells := 0, slots := 0, locals := 63 } : Room) s m args below meth c H locs 0 0 (MQ below (QI D cA bs (fun r u => u = (n, K, R, I, L) ∧ post r)) args s 0 0 (Ab bs)) (F0 m 134 ls [.int s0]) := by
  have hx := E.1.1
  have hb := E.1.2.1
  refine lv_istore (lv' := [(10, .int s0), (0, .ref (ad bs o)), (1, .ref (ad bs a1)), (3, .int a3), (4, .int a4), (5, .int a5), (6, .int v6), (7, .int v7), (8, .int v8), (9, .int v9)]) hx hb dX0_echoLoud_134 hl (by decide) rfl (fun ls hl => ?_)
  refine lv_iload hx hb dX0_echoLoud_136 (lv_at hl 4 rfl) ?_
  refine lv_iload hx hb dX0_echoLoud_138 (lv_at hl 5 rfl) ?_
  refine lv_iadd hx hb dX0_echoLoud_140 ?_
  refine lv_iload hx hb dX0_echoLoud_141 (lv_at hl 0 rfl) ?_
  refine lv_isub hx hb dX0_echoLoud_143 ?_
  refine lv_aload_n hx hb dX0_echoLoud_144 rfl (lv_at hl 2 rfl) ?_
  refine m_getr E hM fs_X0_24 ha1.1.1 ha1.2.1 dX0_echoLoud_145 ?_
  refine m_geti E hM fs_X0_98 ha1.2.2.1 dX0_echoLoud_148 ?_
  refine lv_icmp_le (tgt := 156) hx hb dX0_echoLoud_151 (by decide) (fun cq => ?_) (fun cq => ?_)
  · have hw := hw.1 cq
    refine lv_iload hx hb dX0_echoLoud_156 (lv_at hl 9 rfl) ?_
    refine lv_if_eq (tgt := 171) hx hb dX0_echoLoud_158 (by decide) (fun cq => ?_) (fun cq => ?_)
    · have hw := hw.1 cq
      refine lv_aload_n hx hb dX0_echoLoud_171 rfl (lv_at hl 2 rfl) ?_
      refine m_getr E hM fs_X0_24 ha1.1.1 ha1.2.1 dX0_echoLoud_172 ?_
      refine lv_iload_n hx hb dX0_echoLoud_175 rfl (lv_at hl 3 rfl) ?_
      refine lv_iload hx hb dX0_echoLoud_176 (lv_at hl 6 rfl) ?_
      refine lv_aload_n hx hb dX0_echoLoud_178 rfl (lv_at hl 1 rfl) ?_
      refine m_getr E hM fs_X0_18 ho.1 (isO_at ho 2 rfl).1 dX0_echoLoud_179 ?_
      refine lv_iload hx hb dX0_echoLoud_182 (lv_at hl 8 rfl) ?_
      obtain ⟨hv, hw⟩ := hw
      refine m_iald E hM (isO_at ho 2 rfl).2 hv dX0_echoLoud_184 ?_
      refine m_ci (m_runV E hM hS cs_X0_71 ha1.2.2.1 (by decide) rfl rfl (c_X3_loudOf ha1.2.2 hw) rfl rfl ⟨Nat.le_of_ble_eq_true rfl, Nat.le_of_ble_eq_true rfl⟩ rfl hl.1 rfl (Nat.le_of_ble_eq_true rfl) dX0_echoLoud_185 ⟨Nat.le_of_ble_eq_true rfl, Nat.le_of_ble_eq_true rfl⟩) hS (fun r3 u H locs hp hM hS => ?_)
      obtain ⟨rfl, hw⟩ := hp
      refine lv_iconst (v := 2) hx hb dX0_echoLoud_188 (by decide) ?_
      refine lv_idiv hx hb dX0_echoLoud_189 (by decide) ?_
      exact m_reti hx hb hr hlk hM hS ⟨rfl, hw⟩ dX0_echoLoud_190
    · have hw := hw.2 cq
      refine lv_aload_n hx hb dX0_echoLoud_161 rfl (lv_at hl 2 rfl) ?_
      refine m_getr E hM fs_X0_101 ha1.1.1 (isO_at ha1.1 4 rfl).1 dX0_echoLoud_162 ?_
      refine lv_iload hx hb dX0_echoLoud_165 (lv_at hl 7 rfl) ?_
      obtain ⟨hv, hw⟩ := hw
      refine m_iald E hM (isO_at ha1.1 4 rfl).2 hv dX0_echoLoud_167 ?_
      refine lv_goto (tgt := 188) hx hb dX0_echoLoud_168 (by decide) ?_
      refine lv_iconst (v := 2) hx hb dX0_echoLoud_188 (by decide) ?_
      refine lv_idiv hx hb dX0_echoLoud_189 (by decide) ?_
      exact m_reti hx hb hr hlk hM hS ⟨rfl, hw⟩ dX0_echoLoud_190
  · have hw := hw.2 cq
    refine lv_iconst (v := 0) hx hb dX0_echoLoud_154 (by decide) ?_
    exact m_reti hx hb hr hlk hM hS ⟨rfl, hw⟩ dX0_echoLoud_155
def w_X0_echoLoud_115 (I : mI) (o : Nat) (a1 : Nat) (a1h : Nat) (a2 : Nat) (a3 : Int32) (a4 : Int32) (a5 : Int32) (post : Int32 → Prop) (v6 : Int32) (v7 : Int32) (v8 : Int32) (s0 : Int32) : Prop := (s0 = 0 → (w_X0_echoLoud_134 I o a1 a1h a2 a3 a4 a5 post) v6 v7 v8 s0 v8) ∧ (¬ s0 = 0 → vp_in v7 600 ∧ (w_X0_echoLoud_134 I o a1 a1h a2 a3 a4 a5 post) v6 v7 v8 s0 (I (a1 + 3) v7.toNatClampNeg))
set_option maxRecDepth 100000 in
set_option maxHeartbeats 4000000 in
theorem s_X0_echoLoud_115 {p : Program} {l : Launch} {e : Env} {s : State} {m : MethodId} {args : Array Value} {below : List Frame} {meth : Method} {c : Code} {D : va_G} {cA : Nat → ClassId} {Z : mZ} {bs : Ad} {n : Nat} {K : mK} {R : mR} {I : mI} {L : mL} (E : Ev p s m args c cX0_echoLoud 11 RX0 D cA Z bs) (hr : meth.sig.returnType = (some .int)) (hlk : meth.locks = false) {o : Nat} {a1 : Nat} {a1h : Nat} {a2 : Nat} {a3 : Int32} {a4 : Int32} {a5 : Int32} (ho : isX0 K R o) (ha1 : isX2 K R a1 a1h) (ha2 : isX4 K R a2) {post : Int32 → Prop} {v6 : Int32} {v7 : Int32} {v8 : Int32} {s0 : Int32} {H : Heap} {locs : List Loc} {ls : Array Slot} (hw : w_X0_echoLoud_115 I o a1 a1h a2 a3 a4 a5 post v6 v7 v8 s0) (hM : mm D cA bs (n, K, R, I, L) H) (hS : va_S (Ab bs) s.heap H locs) (hl : lv_has ls 11 [(0, .ref (ad bs o)), (1, .ref (ad bs a1)), (3, .int a3), (4, .int a4), (5, .int a5), (6, .int v6), (7, .int v7), (8, .int v8)]) : W p l e ({ frames := 2, cells := 0, slots := 0, locals := 63 } : Room) s m args below meth c H locs 0 0 (MQ below (QI D cA bs (fun r u => u = (n, K, R, I, L) ∧ post r)) args s 0 0 (Ab bs)) (F0 m 115 ls [.int s0]) := by
  have hx := E.1.1
  have hb := E.1.2.1
  refine lv_istore (lv' := [(9, .int s0), (0, .ref (ad bs o)), (1, .ref (ad bs a1)), (3, .int a3), (4, .int a4), (5, .int a5), (6, .int v6), (7, .int v7), (8, .int v8)]) hx hb dX0_echoLoud_115 hl (by decide) rfl (fun ls hl => ?_)
  refine lv_iload hx hb dX0_echoLoud_117 (lv_at hl 0 rfl) ?_
  refine lv_if_eq (tgt := 132) hx hb dX0_echoLoud_119 (by decide) (fun cq => ?_) (fun cq => ?_)
  · have hw := hw.1 cq
    refine lv_iload hx hb dX0_echoLoud_132 (lv_at hl 8 rfl) ?_
    exact s_X0_echoLoud_134 E hr hlk ho ha1 ha2  hw hM hS (lv_sub hl [1, 2, 3, 4, 5, 6, 7, 8, 0] rfl)
  · have hw := hw.2 cq
    refine lv_aload_n hx hb dX0_echoLoud_122 rfl (lv_at hl 2 rfl) ?_
    refine m_getr E hM fs_X0_92 ha1.1.1 (isO_at ha1.1 2 rfl).1 dX0_echoLoud_123 ?_
    refine lv_iload hx hb dX0_echoLoud_126 (lv_at hl 7 rfl) ?_
    obtain ⟨hv, hw⟩ := hw
    refine m_iald E hM (isO_at ha1.1 2 rfl).2 hv dX0_echoLoud_128 ?_
    refine lv_goto (tgt := 134) hx hb dX0_echoLoud_129 (by decide) ?_
    exact s_X0_echoLoud_134 E hr hlk ho ha1 ha2  hw hM hS (lv_sub hl [1, 2, 3, 4, 5, 6, 7, 8, 0] rfl)
def w_X0_echoLoud_114 (I : mI) (o : Nat) (a1 : Nat) (a1h : Nat) (a2 : Nat) (a3 : Int32) (a4 : Int32) (a5 : Int32) (post : Int32 → Prop) (v6 : Int32) (v7 : Int32) (v8 : Int32) : Prop := (w_X0_echoLoud_115 I o a1 a1h a2 a3 a4 a5 post) v6 v7 v8 0
set_option maxRecDepth 100000 in
set_option maxHeartbeats 4000000 in
theorem s_X0_echoLoud_114 {p : Program} {l : Launch} {e : Env} {s : State} {m : MethodId} {args : Array Value} {below : List Frame} {meth : Method} {c : Code} {D : va_G} {cA : Nat → ClassId} {Z : mZ} {bs : Ad} {n : Nat} {K : mK} {R : mR} {I : mI} {L : mL} (E : Ev p s m args c cX0_echoLoud 11 RX0 D cA Z bs) (hr : meth.sig.returnType = (some .int)) (hlk : meth.locks = false) {o : Nat} {a1 : Nat} {a1h : Nat} {a2 : Nat} {a3 : Int32} {a4 : Int32} {a5 : Int32} (ho : isX0 K R o) (ha1 : isX2 K R a1 a1h) (ha2 : isX4 K R a2) {post : Int32 → Prop} {v6 : Int32} {v7 : Int32} {v8 : Int32} {H : Heap} {locs : List Loc} {ls : Array Slot} (hw : w_X0_echoLoud_114 I o a1 a1h a2 a3 a4 a5 post v6 v7 v8) (hM : mm D cA bs (n, K, R, I, L) H) (hS : va_S (Ab bs) s.heap H locs) (hl : lv_has ls 11 [(0, .ref (ad bs o)), (1, .ref (ad bs a1)), (3, .int a3), (4, .int a4), (5, .int a5), (6, .int v6), (7, .int v7), (8, .int v8)]) : W p l e ({ frames := 2, cells := 0, slots := 0, locals := 63 } : Room) s m args below meth c H locs 0 0 (MQ below (QI D cA bs (fun r u => u = (n, K, R, I, L) ∧ post r)) args s 0 0 (Ab bs)) (F0 m 114 ls []) := by
  have hx := E.1.1
  have hb := E.1.2.1
  refine lv_iconst (v := 0) hx hb dX0_echoLoud_114 (by decide) ?_
  exact s_X0_echoLoud_115 E hr hlk ho ha1 ha2  hw hM hS (lv_sub hl [0, 1, 2, 3, 4, 5, 6, 7] rfl)
def w_X0_echoLoud_110 (I : mI) (o : Nat) (a1 : Nat) (a1h : Nat) (a2 : Nat) (a3 : Int32) (a4 : Int32) (a5 : Int32) (post : Int32 → Prop) (v6 : Int32) (v7 : Int32) (v8 : Int32) : Prop := (w_X0_echoLoud_115 I o a1 a1h a2 a3 a4 a5 post) v6 v7 v8 1
set_option maxRecDepth 100000 in
set_option maxHeartbeats 4000000 in
theorem s_X0_echoLoud_110 {p : Program} {l : Launch} {e : Env} {s : State} {m : MethodId} {args : Array Value} {below : List Frame} {meth : Method} {c : Code} {D : va_G} {cA : Nat → ClassId} {Z : mZ} {bs : Ad} {n : Nat} {K : mK} {R : mR} {I : mI} {L : mL} (E : Ev p s m args c cX0_echoLoud 11 RX0 D cA Z bs) (hr : meth.sig.returnType = (some .int)) (hlk : meth.locks = false) {o : Nat} {a1 : Nat} {a1h : Nat} {a2 : Nat} {a3 : Int32} {a4 : Int32} {a5 : Int32} (ho : isX0 K R o) (ha1 : isX2 K R a1 a1h) (ha2 : isX4 K R a2) {post : Int32 → Prop} {v6 : Int32} {v7 : Int32} {v8 : Int32} {H : Heap} {locs : List Loc} {ls : Array Slot} (hw : w_X0_echoLoud_110 I o a1 a1h a2 a3 a4 a5 post v6 v7 v8) (hM : mm D cA bs (n, K, R, I, L) H) (hS : va_S (Ab bs) s.heap H locs) (hl : lv_has ls 11 [(0, .ref (ad bs o)), (1, .ref (ad bs a1)), (3, .int a3), (4, .int a4), (5, .int a5), (6, .int v6), (7, .int v7), (8, .int v8)]) : W p l e ({ frames := 2, cells := 0, slots := 0, locals := 63 } : Room) s m args below meth c H locs 0 0 (MQ below (QI D cA bs (fun r u => u = (n, K, R, I, L) ∧ post r)) args s 0 0 (Ab bs)) (F0 m 110 ls []) := by
  have hx := E.1.1
  have hb := E.1.2.1
  refine lv_iconst (v := 1) hx hb dX0_echoLoud_110 (by decide) ?_
  refine lv_goto (tgt := 115) hx hb dX0_echoLoud_111 (by decide) ?_
  exact s_X0_echoLoud_115 E hr hlk ho ha1 ha2  hw hM hS (lv_sub hl [0, 1, 2, 3, 4, 5, 6, 7] rfl)
def w_X0_echoLoud_63 (I : mI) (o : Nat) (a1 : Nat) (a1h : Nat) (a2 : Nat) (a3 : Int32) (a4 : Int32) (a5 : Int32) (post : Int32 → Prop) (v6 : Int32) (v7 : Int32) (v8 : Int32) : Prop := (v7 = (-1) → (w_X0_echoLoud_114 I o a1 a1h a2 a3 a4 a5 post) v6 v7 v8) ∧ (¬ v7 = (-1) → (v8 = (-1) → (w_X0_echoLoud_110 I o a1 a1h a2 a3 a4 a5 post) v6 v7 v8) ∧ (¬ v8 = (-1) → vp_in v7 600 ∧ (v8 < (I (a1 + 3) v7.toNatClampNeg) → (w_X0_echoLoud_110 I o a1 a1h a2 a3 a4 a5 post) v6 v7 v8) ∧ (¬ v8 < (I (a1 + 3) v7.toNatClampNeg) → vp_in v7 600 ∧ (¬ (I (a1 + 3) v7.toNatClampNeg) = v8 → (w_X0_echoLoud_114 I o a1 a1h a2 a3 a4 a5 post) v6 v7 v8) ∧ ((I (a1 + 3) v7.toNatClampNeg) = v8 → vp_in v7 600 ∧ ((I (a1 + 1) v7.toNatClampNeg) ≤ a3 → (w_X0_echoLoud_114 I o a1 a1h a2 a3 a4 a5 post) v6 v7 v8) ∧ (¬ (I (a1 + 1) v7.toNatClampNeg) ≤ a3 → (w_X0_echoLoud_110 I o a1 a1h a2 a3 a4 a5 post) v6 v7 v8)))))
set_option maxRecDepth 100000 in
set_option maxHeartbeats 4000000 in
theorem s_X0_echoLoud_63 {p : Program} {l : Launch} {e : Env} {s : State} {m : MethodId} {args : Array Value} {below : List Frame} {meth : Method} {c : Code} {D : va_G} {cA : Nat → ClassId} {Z : mZ} {bs : Ad} {n : Nat} {K : mK} {R : mR} {I : mI} {L : mL} (E : Ev p s m args c cX0_echoLoud 11 RX0 D cA Z bs) (hr : meth.sig.returnType = (some .int)) (hlk : meth.locks = false) {o : Nat} {a1 : Nat} {a1h : Nat} {a2 : Nat} {a3 : Int32} {a4 : Int32} {a5 : Int32} (ho : isX0 K R o) (ha1 : isX2 K R a1 a1h) (ha2 : isX4 K R a2) {post : Int32 → Prop} {v6 : Int32} {v7 : Int32} {v8 : Int32} {H : Heap} {locs : List Loc} {ls : Array Slot} (hw : w_X0_echoLoud_63 I o a1 a1h a2 a3 a4 a5 post v6 v7 v8) (hM : mm D cA bs (n, K, R, I, L) H) (hS : va_S (Ab bs) s.heap H locs) (hl : lv_has ls 11 [(0, .ref (ad bs o)), (1, .ref (ad bs a1)), (3, .int a3), (4, .int a4), (5, .int a5), (6, .int v6), (7, .int v7), (8, .int v8)]) : W p l e ({ frames := 2, cells := 0, slots := 0, locals := 63 } : Room) s m args below meth c H locs 0 0 (MQ below (QI D cA bs (fun r u => u = (n, K, R, I, L) ∧ post r)) args s 0 0 (Ab bs)) (F0 m 63 ls []) := by
  have hx := E.1.1
  have hb := E.1.2.1
  refine lv_iload hx hb dX0_echoLoud_63 (lv_at hl 6 rfl) ?_
  refine lv_iconst (v := (-1)) hx hb dX0_echoLoud_65 (by decide) ?_
  refine lv_icmp_eq (tgt := 114) hx hb dX0_echoLoud_66 (by decide) (fun cq => ?_) (fun cq => ?_)
  · have hw := hw.1 cq
    exact s_X0_echoLoud_114 E hr hlk ho ha1 ha2  hw hM hS (lv_sub hl [0, 1, 2, 3, 4, 5, 6, 7] rfl)
  · have hw := hw.2 cq
    refine lv_iload hx hb dX0_echoLoud_69 (lv_at hl 7 rfl) ?_
    refine lv_iconst (v := (-1)) hx hb dX0_echoLoud_71 (by decide) ?_
    refine lv_icmp_eq (tgt := 110) hx hb dX0_echoLoud_72 (by decide) (fun cq => ?_) (fun cq => ?_)
    · have hw := hw.1 cq
      exact s_X0_echoLoud_110 E hr hlk ho ha1 ha2  hw hM hS (lv_sub hl [0, 1, 2, 3, 4, 5, 6, 7] rfl)
    · have hw := hw.2 cq
      refine lv_aload_n hx hb dX0_echoLoud_75 rfl (lv_at hl 1 rfl) ?_
      refine m_getr E hM fs_X0_92 ha1.1.1 (isO_at ha1.1 2 rfl).1 dX0_echoLoud_76 ?_
      refine lv_iload hx hb dX0_echoLoud_79 (lv_at hl 6 rfl) ?_
      obtain ⟨hv, hw⟩ := hw
      refine m_iald E hM (isO_at ha1.1 2 rfl).2 hv dX0_echoLoud_81 ?_
      refine lv_iload hx hb dX0_echoLoud_82 (lv_at hl 7 rfl) ?_
      refine lv_icmp_gt (tgt := 110) hx hb dX0_echoLoud_84 (by decide) (fun cq => ?_) (fun cq => ?_)
      · have hw := hw.1 cq
        exact s_X0_echoLoud_110 E hr hlk ho ha1 ha2  hw hM hS (lv_sub hl [0, 1, 2, 3, 4, 5, 6, 7] rfl)
      · have hw := hw.2 cq
        refine lv_aload_n hx hb dX0_echoLoud_87 rfl (lv_at hl 1 rfl) ?_
        refine m_getr E hM fs_X0_92 ha1.1.1 (isO_at ha1.1 2 rfl).1 dX0_echoLoud_88 ?_
        refine lv_iload hx hb dX0_echoLoud_91 (lv_at hl 6 rfl) ?_
        obtain ⟨hv, hw⟩ := hw
        refine m_iald E hM (isO_at ha1.1 2 rfl).2 hv dX0_echoLoud_93 ?_
        refine lv_iload hx hb dX0_echoLoud_94 (lv_at hl 7 rfl) ?_
        refine lv_icmp_ne (tgt := 114) hx hb dX0_echoLoud_96 (by decide) (fun cq => ?_) (fun cq => ?_)
        · have hw := hw.1 cq
          exact s_X0_echoLoud_114 E hr hlk ho ha1 ha2  hw hM hS (lv_sub hl [0, 1, 2, 3, 4, 5, 6, 7] rfl)
        · have hw := hw.2 cq
          refine lv_aload_n hx hb dX0_echoLoud_99 rfl (lv_at hl 1 rfl) ?_
          refine m_getr E hM fs_X0_95 ha1.1.1 (isO_at ha1.1 0 rfl).1 dX0_echoLoud_100 ?_
          refine lv_iload hx hb dX0_echoLoud_103 (lv_at hl 6 rfl) ?_
          obtain ⟨hv, hw⟩ := hw
          refine m_iald E hM (isO_at ha1.1 0 rfl).2 hv dX0_echoLoud_105 ?_
          refine lv_iload_n hx hb dX0_echoLoud_106 rfl (lv_at hl 2 rfl) ?_
          refine lv_icmp_le (tgt := 114) hx hb dX0_echoLoud_107 (by decide) (fun cq => ?_) (fun cq => ?_)
          · have hw := hw.1 cq
            exact s_X0_echoLoud_114 E hr hlk ho ha1 ha2  hw hM hS (lv_sub hl [0, 1, 2, 3, 4, 5, 6, 7] rfl)
          · have hw := hw.2 cq
            exact s_X0_echoLoud_110 E hr hlk ho ha1 ha2  hw hM hS (lv_sub hl [0, 1, 2, 3, 4, 5, 6, 7] rfl)
def w_X0_echoLoud_47 (I : mI) (o : Nat) (a1 : Nat) (a1h : Nat) (a2 : Nat) (a3 : Int32) (a4 : Int32) (a5 : Int32) (post : Int32 → Prop) (v6 : Int32) (v7 : Int32) (s0 : Int32) : Prop := (¬ v7 = (-1) → (w_X0_echoLoud_63 I o a1 a1h a2 a3 a4 a5 post) v6 v7 s0) ∧ (v7 = (-1) → (¬ s0 = (-1) → (w_X0_echoLoud_63 I o a1 a1h a2 a3 a4 a5 post) v6 v7 s0) ∧ (s0 = (-1) → post 0))
set_option maxRecDepth 100000 in
set_option maxHeartbeats 4000000 in
theorem s_X0_echoLoud_47 {p : Program} {l : Launch} {e : Env} {s : State} {m : MethodId} {args : Array Value} {below : List Frame} {meth : Method} {c : Code} {D : va_G} {cA : Nat → ClassId} {Z : mZ} {bs : Ad} {n : Nat} {K : mK} {R : mR} {I : mI} {L : mL} (E : Ev p s m args c cX0_echoLoud 11 RX0 D cA Z bs) (hr : meth.sig.returnType = (some .int)) (hlk : meth.locks = false) {o : Nat} {a1 : Nat} {a1h : Nat} {a2 : Nat} {a3 : Int32} {a4 : Int32} {a5 : Int32} (ho : isX0 K R o) (ha1 : isX2 K R a1 a1h) (ha2 : isX4 K R a2) {post : Int32 → Prop} {v6 : Int32} {v7 : Int32} {s0 : Int32} {H : Heap} {locs : List Loc} {ls : Array Slot} (hw : w_X0_echoLoud_47 I o a1 a1h a2 a3 a4 a5 post v6 v7 s0) (hM : mm D cA bs (n, K, R, I, L) H) (hS : va_S (Ab bs) s.heap H locs) (hl : lv_has ls 11 [(0, .ref (ad bs o)), (1, .ref (ad bs a1)), (3, .int a3), (4, .int a4), (5, .int a5), (6, .int v6), (7, .int v7)]) : W p l e ({ frames := 2, cells := 0, slots := 0, locals := 63 } : Room) s m args below meth c H locs 0 0 (MQ below (QI D cA bs (fun r u => u = (n, K, R, I, L) ∧ post r)) args s 0 0 (Ab bs)) (F0 m 47 ls [.int s0]) := by
  have hx := E.1.1
  have hb := E.1.2.1
  refine lv_istore (lv' := [(8, .int s0), (0, .ref (ad bs o)), (1, .ref (ad bs a1)), (3, .int a3), (4, .int a4), (5, .int a5), (6, .int v6), (7, .int v7)]) hx hb dX0_echoLoud_47 hl (by decide) rfl (fun ls hl => ?_)
  refine lv_iload hx hb dX0_echoLoud_49 (lv_at hl 7 rfl) ?_
  refine lv_iconst (v := (-1)) hx hb dX0_echoLoud_51 (by decide) ?_
  refine lv_icmp_ne (tgt := 63) hx hb dX0_echoLoud_52 (by decide) (fun cq => ?_) (fun cq => ?_)
  · have hw := hw.1 cq
    exact s_X0_echoLoud_63 E hr hlk ho ha1 ha2  hw hM hS (lv_sub hl [1, 2, 3, 4, 5, 6, 7, 0] rfl)
  · have hw := hw.2 cq
    refine lv_iload hx hb dX0_echoLoud_55 (lv_at hl 0 rfl) ?_
    refine lv_iconst (v := (-1)) hx hb dX0_echoLoud_57 (by decide) ?_
    refine lv_icmp_ne (tgt := 63) hx hb dX0_echoLoud_58 (by decide) (fun cq => ?_) (fun cq => ?_)
    · have hw := hw.1 cq
      exact s_X0_echoLoud_63 E hr hlk ho ha1 ha2  hw hM hS (lv_sub hl [1, 2, 3, 4, 5, 6, 7, 0] rfl)
    · have hw := hw.2 cq
      refine lv_iconst (v := 0) hx hb dX0_echoLoud_61 (by decide) ?_
      exact m_reti hx hb hr hlk hM hS ⟨rfl, hw⟩ dX0_echoLoud_62
def w_X0_echoLoud (I : mI) (o : Nat) (a1 : Nat) (a1h : Nat) (a2 : Nat) (a3 : Int32) (a4 : Int32) (a5 : Int32) (post : Int32 → Prop) : Prop := vp_in a5 100 ∧ ∀ x1, x1 = (I (o + 1) a5.toNatClampNeg) → w_X4_latestOn I a2 x1 (a4 + a5) (fun r2 => vp_in a5 100 ∧ (¬ (I (o + 2) a5.toNatClampNeg) = (-1) → vp_in a5 100 ∧ (w_X0_echoLoud_47 I o a1 a1h a2 a3 a4 a5 post) x1 r2 (a4 + (I (o + 2) a5.toNatClampNeg))) ∧ ((I (o + 2) a5.toNatClampNeg) = (-1) → (w_X0_echoLoud_47 I o a1 a1h a2 a3 a4 a5 post) x1 r2 (-1)))
set_option maxRecDepth 100000 in
set_option maxHeartbeats 4000000 in
theorem c_X0_echoLoud {l : Launch} {D : va_G} {cA : Nat → ClassId} {Z : mZ} {bs : Ad} {n : Nat} {K : mK} {R : mR} {I : mI} {L : mL} {o : Nat} {a1 : Nat} {a1h : Nat} {a2 : Nat} {a3 : Int32} {a4 : Int32} {a5 : Int32} {post : Int32 → Prop} (ho : isX0 K R o) (ha1 : isX2 K R a1 a1h) (ha2 : isX4 K R a2) (hw : w_X0_echoLoud I o a1 a1h a2 a3 a4 a5 post) : Met l yX0_echoLoud (.code yX0_echoLoud cX0_echoLoud 11 (some .int) :: gw) ({ frames := 2, cells := 0, slots := 0, locals := 63 } : Room) (PreM D cA Z bs (n, K, R, I, L) [.ref (ad bs o), .ref (ad bs a1), .ref (ad bs a2), .int a3, .int a4, .int a5]) (QI D cA bs (fun r u => u = (n, K, R, I, L) ∧ post r)) 0 0 (Ab bs) := by
  refine m_met (by decide) (Nat.le_of_ble_eq_true rfl) (fun p e s m below meth c ls E hr hlk hM hS hl => ?_)
  have E : Ev p s m _ c cX0_echoLoud 11 RX0 D cA Z bs := E
  have hl : lv_has ls 11 [(0, .ref (ad bs o)), (1, .ref (ad bs a1)), (2, .ref (ad bs a2)), (3, .int a3), (4, .int a4), (5, .int a5)] := hl
  have hx := E.1.1
  have hb := E.1.2.1
  generalize hHe : s.heap = H at hM ⊢
  have hS : va_S (Ab bs) s.heap H [] := by rw [← hHe]; exact va_S.rf
  clear hHe
  refine lv_aload_n hx hb dX0_echoLoud_0 rfl (lv_at hl 0 rfl) ?_
  refine m_getr E hM fs_X0_9 ho.1 (isO_at ho 0 rfl).1 dX0_echoLoud_1 ?_
  refine lv_iload hx hb dX0_echoLoud_4 (lv_at hl 5 rfl) ?_
  obtain ⟨hv, hw⟩ := hw
  refine m_iald E hM (isO_at ho 0 rfl).2 hv dX0_echoLoud_6 ?_
  refine lv_topi (fun x1 ex1 => ?_)
  have hw := hw x1 ex1
  refine lv_istore (lv' := [(6, .int x1), (0, .ref (ad bs o)), (1, .ref (ad bs a1)), (2, .ref (ad bs a2)), (3, .int a3), (4, .int a4), (5, .int a5)]) hx hb dX0_echoLoud_7 hl (by decide) rfl (fun ls hl => ?_)
  refine lv_aload_n hx hb dX0_echoLoud_9 rfl (lv_at hl 3 rfl) ?_
  refine lv_iload hx hb dX0_echoLoud_10 (lv_at hl 0 rfl) ?_
  refine lv_iload hx hb dX0_echoLoud_12 (lv_at hl 5 rfl) ?_
  refine lv_iload hx hb dX0_echoLoud_14 (lv_at hl 6 rfl) ?_
  refine lv_iadd hx hb dX0_echoLoud_16 ?_
  refine m_ci (m_runV E hM hS cs_X0_87 ha2.1 (by decide) rfl rfl (c_X4_latestOn ha2 hw) rfl rfl ⟨Nat.le_of_ble_eq_true rfl, Nat.le_of_ble_eq_true rfl⟩ rfl hl.1 rfl (Nat.le_of_ble_eq_true rfl) dX0_echoLoud_17 ⟨Nat.le_of_ble_eq_true rfl, Nat.le_of_ble_eq_true rfl⟩) hS (fun r2 u H locs hp hM hS => ?_)
  obtain ⟨rfl, hw⟩ := hp
  refine lv_istore (lv' := [(7, .int r2), (6, .int x1), (0, .ref (ad bs o)), (1, .ref (ad bs a1)), (2, .ref (ad bs a2)), (3, .int a3), (4, .int a4), (5, .int a5)]) hx hb dX0_echoLoud_20 hl (by decide) rfl (fun ls hl => ?_)
  refine lv_aload_n hx hb dX0_echoLoud_22 rfl (lv_at hl 2 rfl) ?_
  refine m_getr E hM fs_X0_15 ho.1 (isO_at ho 1 rfl).1 dX0_echoLoud_23 ?_
  refine lv_iload hx hb dX0_echoLoud_26 (lv_at hl 7 rfl) ?_
  obtain ⟨hv, hw⟩ := hw
  refine m_iald E hM (isO_at ho 1 rfl).2 hv dX0_echoLoud_28 ?_
  refine lv_iconst (v := (-1)) hx hb dX0_echoLoud_29 (by decide) ?_
  refine lv_icmp_ne (tgt := 37) hx hb dX0_echoLoud_30 (by decide) (fun cq => ?_) (fun cq => ?_)
  · have hw := hw.1 cq
    refine lv_iload hx hb dX0_echoLoud_37 (lv_at hl 6 rfl) ?_
    refine lv_aload_n hx hb dX0_echoLoud_39 rfl (lv_at hl 2 rfl) ?_
    refine m_getr E hM fs_X0_15 ho.1 (isO_at ho 1 rfl).1 dX0_echoLoud_40 ?_
    refine lv_iload hx hb dX0_echoLoud_43 (lv_at hl 7 rfl) ?_
    obtain ⟨hv, hw⟩ := hw
    refine m_iald E hM (isO_at ho 1 rfl).2 hv dX0_echoLoud_45 ?_
    refine lv_iadd hx hb dX0_echoLoud_46 ?_
    exact s_X0_echoLoud_47 E hr hlk ho ha1 ha2  hw hM hS (lv_sub hl [2, 3, 5, 6, 7, 1, 0] rfl)
  · have hw := hw.2 cq
    refine lv_iconst (v := (-1)) hx hb dX0_echoLoud_33 (by decide) ?_
    refine lv_goto (tgt := 47) hx hb dX0_echoLoud_34 (by decide) ?_
    exact s_X0_echoLoud_47 E hr hlk ho ha1 ha2  hw hM hS (lv_sub hl [2, 3, 5, 6, 7, 1, 0] rfl)
theorem dJ6_bitCount_0f7a4_0 : decode cJ6_bitCount_0f7a4 0 = .ok (.iload_n 0, 1) := by decide +kernel
theorem dJ6_bitCount_0f7a4_1 : decode cJ6_bitCount_0f7a4 1 = .ok (.iload_n 0, 1) := by decide +kernel
theorem dJ6_bitCount_0f7a4_2 : decode cJ6_bitCount_0f7a4 2 = .ok (.iconst 1, 1) := by decide +kernel
theorem dJ6_bitCount_0f7a4_3 : decode cJ6_bitCount_0f7a4 3 = .ok (.iushr, 1) := by decide +kernel
theorem dJ6_bitCount_0f7a4_4 : decode cJ6_bitCount_0f7a4 4 = .ok (.ldc_w 265, 3) := by decide +kernel
theorem dJ6_bitCount_0f7a4_7 : decode cJ6_bitCount_0f7a4 7 = .ok (.iand, 1) := by decide +kernel
theorem dJ6_bitCount_0f7a4_8 : decode cJ6_bitCount_0f7a4 8 = .ok (.isub, 1) := by decide +kernel
theorem dJ6_bitCount_0f7a4_9 : decode cJ6_bitCount_0f7a4 9 = .ok (.istore_n 0, 1) := by decide +kernel
theorem dJ6_bitCount_0f7a4_10 : decode cJ6_bitCount_0f7a4 10 = .ok (.iload_n 0, 1) := by decide +kernel
theorem dJ6_bitCount_0f7a4_11 : decode cJ6_bitCount_0f7a4 11 = .ok (.ldc_w 266, 3) := by decide +kernel
theorem dJ6_bitCount_0f7a4_14 : decode cJ6_bitCount_0f7a4 14 = .ok (.iand, 1) := by decide +kernel
theorem dJ6_bitCount_0f7a4_15 : decode cJ6_bitCount_0f7a4 15 = .ok (.iload_n 0, 1) := by decide +kernel
theorem dJ6_bitCount_0f7a4_16 : decode cJ6_bitCount_0f7a4 16 = .ok (.iconst 2, 1) := by decide +kernel
theorem dJ6_bitCount_0f7a4_17 : decode cJ6_bitCount_0f7a4 17 = .ok (.iushr, 1) := by decide +kernel
theorem dJ6_bitCount_0f7a4_18 : decode cJ6_bitCount_0f7a4 18 = .ok (.ldc_w 266, 3) := by decide +kernel
theorem dJ6_bitCount_0f7a4_21 : decode cJ6_bitCount_0f7a4 21 = .ok (.iand, 1) := by decide +kernel
theorem dJ6_bitCount_0f7a4_22 : decode cJ6_bitCount_0f7a4 22 = .ok (.iadd, 1) := by decide +kernel
theorem dJ6_bitCount_0f7a4_23 : decode cJ6_bitCount_0f7a4 23 = .ok (.istore_n 0, 1) := by decide +kernel
theorem dJ6_bitCount_0f7a4_24 : decode cJ6_bitCount_0f7a4 24 = .ok (.iload_n 0, 1) := by decide +kernel
theorem dJ6_bitCount_0f7a4_25 : decode cJ6_bitCount_0f7a4 25 = .ok (.iload_n 0, 1) := by decide +kernel
theorem dJ6_bitCount_0f7a4_26 : decode cJ6_bitCount_0f7a4 26 = .ok (.iconst 4, 1) := by decide +kernel
theorem dJ6_bitCount_0f7a4_27 : decode cJ6_bitCount_0f7a4 27 = .ok (.iushr, 1) := by decide +kernel
theorem dJ6_bitCount_0f7a4_28 : decode cJ6_bitCount_0f7a4 28 = .ok (.iadd, 1) := by decide +kernel
theorem dJ6_bitCount_0f7a4_29 : decode cJ6_bitCount_0f7a4 29 = .ok (.ldc_w 267, 3) := by decide +kernel
theorem dJ6_bitCount_0f7a4_32 : decode cJ6_bitCount_0f7a4 32 = .ok (.iand, 1) := by decide +kernel
theorem dJ6_bitCount_0f7a4_33 : decode cJ6_bitCount_0f7a4 33 = .ok (.istore_n 0, 1) := by decide +kernel
theorem dJ6_bitCount_0f7a4_34 : decode cJ6_bitCount_0f7a4 34 = .ok (.iload_n 0, 1) := by decide +kernel
theorem dJ6_bitCount_0f7a4_35 : decode cJ6_bitCount_0f7a4 35 = .ok (.iload_n 0, 1) := by decide +kernel
theorem dJ6_bitCount_0f7a4_36 : decode cJ6_bitCount_0f7a4 36 = .ok (.bipush 8, 2) := by decide +kernel
theorem dJ6_bitCount_0f7a4_38 : decode cJ6_bitCount_0f7a4 38 = .ok (.iushr, 1) := by decide +kernel
theorem dJ6_bitCount_0f7a4_39 : decode cJ6_bitCount_0f7a4 39 = .ok (.iadd, 1) := by decide +kernel
theorem dJ6_bitCount_0f7a4_40 : decode cJ6_bitCount_0f7a4 40 = .ok (.istore_n 0, 1) := by decide +kernel
theorem dJ6_bitCount_0f7a4_41 : decode cJ6_bitCount_0f7a4 41 = .ok (.iload_n 0, 1) := by decide +kernel
theorem dJ6_bitCount_0f7a4_42 : decode cJ6_bitCount_0f7a4 42 = .ok (.iload_n 0, 1) := by decide +kernel
theorem dJ6_bitCount_0f7a4_43 : decode cJ6_bitCount_0f7a4 43 = .ok (.bipush 16, 2) := by decide +kernel
theorem dJ6_bitCount_0f7a4_45 : decode cJ6_bitCount_0f7a4 45 = .ok (.iushr, 1) := by decide +kernel
theorem dJ6_bitCount_0f7a4_46 : decode cJ6_bitCount_0f7a4 46 = .ok (.iadd, 1) := by decide +kernel
theorem dJ6_bitCount_0f7a4_47 : decode cJ6_bitCount_0f7a4 47 = .ok (.istore_n 0, 1) := by decide +kernel
theorem dJ6_bitCount_0f7a4_48 : decode cJ6_bitCount_0f7a4 48 = .ok (.iload_n 0, 1) := by decide +kernel
theorem dJ6_bitCount_0f7a4_49 : decode cJ6_bitCount_0f7a4 49 = .ok (.bipush 63, 2) := by decide +kernel
theorem dJ6_bitCount_0f7a4_51 : decode cJ6_bitCount_0f7a4 51 = .ok (.iand, 1) := by decide +kernel
theorem dJ6_bitCount_0f7a4_52 : decode cJ6_bitCount_0f7a4 52 = .ok (.ireturn, 1) := by decide +kernel
def w_J6_bitCount_0f7a4 (a1 : Int32) (post : Int32 → Prop) : Prop := ∀ x1, x1 = (a1 - ((iushr a1 1) &&& 1431655765)) → ∀ x2, x2 = ((x1 &&& 858993459) + ((iushr x1 2) &&& 858993459)) → ∀ x3, x3 = ((x2 + (iushr x2 4)) &&& 252645135) → ∀ x4, x4 = (x3 + (iushr x3 8)) → ∀ x5, x5 = (x4 + (iushr x4 16)) → post (x5 &&& 63)
set_option maxRecDepth 100000 in
set_option maxHeartbeats 4000000 in
theorem c_J6_bitCount_0f7a4 {l : Launch} {D : va_G} {cA : Nat → ClassId} {Z : mZ} {bs : Ad} {n : Nat} {K : mK} {R : mR} {I : mI} {L : mL} {a1 : Int32} {post : Int32 → Prop}  (hw : w_J6_bitCount_0f7a4 a1 post) : Met l yJ6_bitCount_0f7a4 (.code yJ6_bitCount_0f7a4 cJ6_bitCount_0f7a4 1 (some .int) :: gw) ({ frames := 0, cells := 0, slots := 0, locals := 0 } : Room) (PreM D cA Z bs (n, K, R, I, L) [.int a1]) (QI D cA bs (fun r u => u = (n, K, R, I, L) ∧ post r)) 0 0 (Ab bs) := by
  refine m_met (by decide) (Nat.le_of_ble_eq_true rfl) (fun p e s m below meth c ls E hr hlk hM hS hl => ?_)
  have E : Ev p s m _ c cJ6_bitCount_0f7a4 1 RJ6 D cA Z bs := E
  have hl : lv_has ls 1 [(0, .int a1)] := hl
  have hx := E.1.1
  have hb := E.1.2.1
  generalize hHe : s.heap = H at hM ⊢
  have hS : va_S (Ab bs) s.heap H [] := by rw [← hHe]; exact va_S.rf
  clear hHe
  refine lv_iload_n hx hb dJ6_bitCount_0f7a4_0 rfl (lv_at hl 0 rfl) ?_
  refine lv_iload_n hx hb dJ6_bitCount_0f7a4_1 rfl (lv_at hl 0 rfl) ?_
  refine lv_iconst (v := 1) hx hb dJ6_bitCount_0f7a4_2 (by decide) ?_
  refine lv_iushr hx hb dJ6_bitCount_0f7a4_3 rfl ?_
  refine lv_ldcw (v := 1431655765) hx hb E.1.2.2.2.1 (E.1.2.2.2.2 _ (gw_of 1061 (by decide +kernel) (by decide +kernel))) dJ6_bitCount_0f7a4_4 ?_
  refine lv_iand hx hb dJ6_bitCount_0f7a4_7 ?_
  refine lv_isub hx hb dJ6_bitCount_0f7a4_8 ?_
  refine lv_topi (fun x1 ex1 => ?_)
  have hw := hw x1 ex1
  refine lv_istore_n (lv' := [(0, .int x1)]) hx hb dJ6_bitCount_0f7a4_9 rfl hl (by decide) rfl (fun ls hl => ?_)
  refine lv_iload_n hx hb dJ6_bitCount_0f7a4_10 rfl (lv_at hl 0 rfl) ?_
  refine lv_ldcw (v := 858993459) hx hb E.1.2.2.2.1 (E.1.2.2.2.2 _ (gw_of 1062 (by decide +kernel) (by decide +kernel))) dJ6_bitCount_0f7a4_11 ?_
  refine lv_iand hx hb dJ6_bitCount_0f7a4_14 ?_
  refine lv_iload_n hx hb dJ6_bitCount_0f7a4_15 rfl (lv_at hl 0 rfl) ?_
  refine lv_iconst (v := 2) hx hb dJ6_bitCount_0f7a4_16 (by decide) ?_
  refine lv_iushr hx hb dJ6_bitCount_0f7a4_17 rfl ?_
  refine lv_ldcw (v := 858993459) hx hb E.1.2.2.2.1 (E.1.2.2.2.2 _ (gw_of 1062 (by decide +kernel) (by decide +kernel))) dJ6_bitCount_0f7a4_18 ?_
  refine lv_iand hx hb dJ6_bitCount_0f7a4_21 ?_
  refine lv_iadd hx hb dJ6_bitCount_0f7a4_22 ?_
  refine lv_topi (fun x2 ex2 => ?_)
  have hw := hw x2 ex2
  refine lv_istore_n (lv' := [(0, .int x2)]) hx hb dJ6_bitCount_0f7a4_23 rfl hl (by decide) rfl (fun ls hl => ?_)
  refine lv_iload_n hx hb dJ6_bitCount_0f7a4_24 rfl (lv_at hl 0 rfl) ?_
  refine lv_iload_n hx hb dJ6_bitCount_0f7a4_25 rfl (lv_at hl 0 rfl) ?_
  refine lv_iconst (v := 4) hx hb dJ6_bitCount_0f7a4_26 (by decide) ?_
  refine lv_iushr hx hb dJ6_bitCount_0f7a4_27 rfl ?_
  refine lv_iadd hx hb dJ6_bitCount_0f7a4_28 ?_
  refine lv_ldcw (v := 252645135) hx hb E.1.2.2.2.1 (E.1.2.2.2.2 _ (gw_of 1063 (by decide +kernel) (by decide +kernel))) dJ6_bitCount_0f7a4_29 ?_
  refine lv_iand hx hb dJ6_bitCount_0f7a4_32 ?_
  refine lv_topi (fun x3 ex3 => ?_)
  have hw := hw x3 ex3
  refine lv_istore_n (lv' := [(0, .int x3)]) hx hb dJ6_bitCount_0f7a4_33 rfl hl (by decide) rfl (fun ls hl => ?_)
  refine lv_iload_n hx hb dJ6_bitCount_0f7a4_34 rfl (lv_at hl 0 rfl) ?_
  refine lv_iload_n hx hb dJ6_bitCount_0f7a4_35 rfl (lv_at hl 0 rfl) ?_
  refine lv_bipush (v := 8) hx hb dJ6_bitCount_0f7a4_36 (by decide) ?_
  refine lv_iushr hx hb dJ6_bitCount_0f7a4_38 rfl ?_
  refine lv_iadd hx hb dJ6_bitCount_0f7a4_39 ?_
  refine lv_topi (fun x4 ex4 => ?_)
  have hw := hw x4 ex4
  refine lv_istore_n (lv' := [(0, .int x4)]) hx hb dJ6_bitCount_0f7a4_40 rfl hl (by decide) rfl (fun ls hl => ?_)
  refine lv_iload_n hx hb dJ6_bitCount_0f7a4_41 rfl (lv_at hl 0 rfl) ?_
  refine lv_iload_n hx hb dJ6_bitCount_0f7a4_42 rfl (lv_at hl 0 rfl) ?_
  refine lv_bipush (v := 16) hx hb dJ6_bitCount_0f7a4_43 (by decide) ?_
  refine lv_iushr hx hb dJ6_bitCount_0f7a4_45 rfl ?_
  refine lv_iadd hx hb dJ6_bitCount_0f7a4_46 ?_
  refine lv_topi (fun x5 ex5 => ?_)
  have hw := hw x5 ex5
  refine lv_istore_n (lv' := [(0, .int x5)]) hx hb dJ6_bitCount_0f7a4_47 rfl hl (by decide) rfl (fun ls hl => ?_)
  refine lv_iload_n hx hb dJ6_bitCount_0f7a4_48 rfl (lv_at hl 0 rfl) ?_
  refine lv_bipush (v := 63) hx hb dJ6_bitCount_0f7a4_49 (by decide) ?_
  refine lv_iand hx hb dJ6_bitCount_0f7a4_51 ?_
  exact m_reti hx hb hr hlk hM hS ⟨rfl, hw⟩ dJ6_bitCount_0f7a4_52
theorem dX0_notesFrom_0 : decode cX0_notesFrom 0 = .ok (.iconst 0, 1) := by decide +kernel
theorem dX0_notesFrom_1 : decode cX0_notesFrom 1 = .ok (.istore 5, 2) := by decide +kernel
theorem dX0_notesFrom_3 : decode cX0_notesFrom 3 = .ok (.iconst 0, 1) := by decide +kernel
theorem dX0_notesFrom_4 : decode cX0_notesFrom 4 = .ok (.istore 6, 2) := by decide +kernel
theorem dX0_notesFrom_6 : decode cX0_notesFrom 6 = .ok (.iload 6, 2) := by decide +kernel
theorem dX0_notesFrom_8 : decode cX0_notesFrom 8 = .ok (.aload_n 0, 1) := by decide +kernel
theorem dX0_notesFrom_9 : decode cX0_notesFrom 9 = .ok (.getfield 53, 3) := by decide +kernel
theorem dX0_notesFrom_12 : decode cX0_notesFrom 12 = .ok (.if_icmp .ge 84, 3) := by decide +kernel
theorem dX0_notesFrom_15 : decode cX0_notesFrom 15 = .ok (.iload 4, 2) := by decide +kernel
theorem dX0_notesFrom_17 : decode cX0_notesFrom 17 = .ok (.iload 6, 2) := by decide +kernel
theorem dX0_notesFrom_19 : decode cX0_notesFrom 19 = .ok (.iadd, 1) := by decide +kernel
theorem dX0_notesFrom_20 : decode cX0_notesFrom 20 = .ok (.bipush 100, 2) := by decide +kernel
theorem dX0_notesFrom_22 : decode cX0_notesFrom 22 = .ok (.if_icmp .ge 74, 3) := by decide +kernel
theorem dX0_notesFrom_25 : decode cX0_notesFrom 25 = .ok (.aload_n 0, 1) := by decide +kernel
theorem dX0_notesFrom_26 : decode cX0_notesFrom 26 = .ok (.getfield 9, 3) := by decide +kernel
theorem dX0_notesFrom_29 : decode cX0_notesFrom 29 = .ok (.iload 6, 2) := by decide +kernel
theorem dX0_notesFrom_31 : decode cX0_notesFrom 31 = .ok (.iaload, 1) := by decide +kernel
theorem dX0_notesFrom_32 : decode cX0_notesFrom 32 = .ok (.istore 7, 2) := by decide +kernel
theorem dX0_notesFrom_34 : decode cX0_notesFrom 34 = .ok (.aload_n 1, 1) := by decide +kernel
theorem dX0_notesFrom_35 : decode cX0_notesFrom 35 = .ok (.iload 7, 2) := by decide +kernel
theorem dX0_notesFrom_37 : decode cX0_notesFrom 37 = .ok (.aload_n 1, 1) := by decide +kernel
theorem dX0_notesFrom_38 : decode cX0_notesFrom 38 = .ok (.getfield 24, 3) := by decide +kernel
theorem dX0_notesFrom_41 : decode cX0_notesFrom 41 = .ok (.iload_n 3, 1) := by decide +kernel
theorem dX0_notesFrom_42 : decode cX0_notesFrom 42 = .ok (.iload 7, 2) := by decide +kernel
theorem dX0_notesFrom_44 : decode cX0_notesFrom 44 = .ok (.aload_n 0, 1) := by decide +kernel
theorem dX0_notesFrom_45 : decode cX0_notesFrom 45 = .ok (.getfield 18, 3) := by decide +kernel
theorem dX0_notesFrom_48 : decode cX0_notesFrom 48 = .ok (.iload 4, 2) := by decide +kernel
theorem dX0_notesFrom_50 : decode cX0_notesFrom 50 = .ok (.iload 6, 2) := by decide +kernel
theorem dX0_notesFrom_52 : decode cX0_notesFrom 52 = .ok (.iadd, 1) := by decide +kernel
theorem dX0_notesFrom_53 : decode cX0_notesFrom 53 = .ok (.iaload, 1) := by decide +kernel
theorem dX0_notesFrom_54 : decode cX0_notesFrom 54 = .ok (.invokevirtual 71, 3) := by decide +kernel
theorem dX0_notesFrom_57 : decode cX0_notesFrom 57 = .ok (.invokevirtual 74, 3) := by decide +kernel
theorem dX0_notesFrom_60 : decode cX0_notesFrom 60 = .ok (.aload_n 1, 1) := by decide +kernel
theorem dX0_notesFrom_61 : decode cX0_notesFrom 61 = .ok (.iload 7, 2) := by decide +kernel
theorem dX0_notesFrom_63 : decode cX0_notesFrom 63 = .ok (.aload_n 0, 1) := by decide +kernel
theorem dX0_notesFrom_64 : decode cX0_notesFrom 64 = .ok (.aload_n 1, 1) := by decide +kernel
theorem dX0_notesFrom_65 : decode cX0_notesFrom 65 = .ok (.aload_n 2, 1) := by decide +kernel
theorem dX0_notesFrom_66 : decode cX0_notesFrom 66 = .ok (.iload_n 3, 1) := by decide +kernel
theorem dX0_notesFrom_67 : decode cX0_notesFrom 67 = .ok (.iload 4, 2) := by decide +kernel
theorem dX0_notesFrom_69 : decode cX0_notesFrom 69 = .ok (.iload 6, 2) := by decide +kernel
theorem dX0_notesFrom_71 : decode cX0_notesFrom 71 = .ok (.invokevirtual 77, 3) := by decide +kernel
theorem dX0_notesFrom_74 : decode cX0_notesFrom 74 = .ok (.invokevirtual 74, 3) := by decide +kernel
theorem dX0_notesFrom_77 : decode cX0_notesFrom 77 = .ok (.ior, 1) := by decide +kernel
theorem dX0_notesFrom_78 : decode cX0_notesFrom 78 = .ok (.istore 8, 2) := by decide +kernel
theorem dX0_notesFrom_80 : decode cX0_notesFrom 80 = .ok (.iload 5, 2) := by decide +kernel
theorem dX0_notesFrom_82 : decode cX0_notesFrom 82 = .ok (.iload 8, 2) := by decide +kernel
theorem dX0_notesFrom_84 : decode cX0_notesFrom 84 = .ok (.invokestatic 81, 3) := by decide +kernel
theorem dX0_notesFrom_87 : decode cX0_notesFrom 87 = .ok (.iadd, 1) := by decide +kernel
theorem dX0_notesFrom_88 : decode cX0_notesFrom 88 = .ok (.istore 5, 2) := by decide +kernel
theorem dX0_notesFrom_90 : decode cX0_notesFrom 90 = .ok (.iinc 6 1, 3) := by decide +kernel
theorem dX0_notesFrom_93 : decode cX0_notesFrom 93 = .ok (.goto (-87), 3) := by decide +kernel
theorem dX0_notesFrom_96 : decode cX0_notesFrom 96 = .ok (.iload 5, 2) := by decide +kernel
theorem dX0_notesFrom_98 : decode cX0_notesFrom 98 = .ok (.ireturn, 1) := by decide +kernel
def w_X0_notesFrom_6 (I : mI) (o : Nat) (a1 : Nat) (a1h : Nat) (a2 : Nat) (a3 : Int32) (a4 : Int32) (post : Int32 → Prop) (v5 : Int32) (v6 : Int32) : Prop := ∀ ZZ : (Int32 → Int32 → Prop), (∀ (v5 : Int32) (v6 : Int32), (((I o 0) ≤ v6 → post v5) ∧ (¬ (I o 0) ≤ v6 → (100 ≤ (a4 + v6) → post v5) ∧ (¬ 100 ≤ (a4 + v6) → vp_in v6 100 ∧ ∀ x1, x1 = (I (o + 1) v6.toNatClampNeg) → vp_in (a4 + v6) 100 ∧ w_X3_loudOf I a1h a3 x1 (I (o + 3) (a4 + v6).toNatClampNeg) (fun r2 => w_X2_hearers I a1 a1h x1 r2 (fun r3 => w_X0_echoLoud I o a1 a1h a2 a3 a4 v6 (fun r4 => w_X2_hearers I a1 a1h x1 r4 (fun r5 => ∀ x6, x6 = (r3 ||| r5) → w_J6_bitCount_0f7a4 x6 (fun r7 => ∀ x8, x8 = (v5 + r7) → ∀ x9, x9 = v6 + 1 → ZZ x8 x9)))))))) → ZZ v5 v6) → ZZ v5 v6
set_option maxRecDepth 100000 in
set_option maxHeartbeats 4000000 in
theorem s_X0_notesFrom_6 {p : Program} {l : Launch} {e : Env} {s : State} {m : MethodId} {args : Array Value} {below : List Frame} {meth : Method} {c : Code} {D : va_G} {cA : Nat → ClassId} {Z : mZ} {bs : Ad} {n : Nat} {K : mK} {R : mR} {I : mI} {L : mL} (E : Ev p s m args c cX0_notesFrom 9 RX0 D cA Z bs) (hr : meth.sig.returnType = (some .int)) (hlk : meth.locks = false) {o : Nat} {a1 : Nat} {a1h : Nat} {a2 : Nat} {a3 : Int32} {a4 : Int32} (ho : isX0 K R o) (ha1 : isX2 K R a1 a1h) (ha2 : isX4 K R a2) {post : Int32 → Prop} {v5 : Int32} {v6 : Int32} {H : Heap} {locs : List Loc} {ls : Array Slot} (hw : w_X0_notesFrom_6 I o a1 a1h a2 a3 a4 post v5 v6) (hM : mm D cA bs (n, K, R, I, L) H) (hS : va_S (Ab bs) s.heap H locs) (hl : lv_has ls 9 [(0, .ref (ad bs o)), (1, .ref (ad bs a1)), (2, .ref (ad bs a2)), (3, .int a3), (4, .int a4), (5, .int v5), (6, .int v6)]) : W p l e ({ frames := 3, cells := 0, slots := 0, locals := 93 } : Room) s m args below meth c H locs 0 0 (MQ below (QI D cA bs (fun r u => u = (n, K, R, I, L) ∧ post r)) args s 0 0 (Ab bs)) (F0 m 6 ls []) := by
  have hx := E.1.1
  have hb := E.1.2.1
  refine hw (fun v5 v6 => ∀ (H : Heap) (locs : List Loc) (ls : Array Slot), mm D cA bs (n, K, R, I, L) H → va_S (Ab bs) s.heap H locs → lv_has ls 9 [(0, .ref (ad bs o)), (1, .ref (ad bs a1)), (2, .ref (ad bs a2)), (3, .int a3), (4, .int a4), (5, .int v5), (6, .int v6)] → W p l e ({ frames := 3, cells := 0, slots := 0, locals := 93 } : Room) s m args below meth c H locs 0 0 (MQ below (QI D cA bs (fun r u => u = (n, K, R, I, L) ∧ post r)) args s 0 0 (Ab bs)) (F0 m 6 ls [])) ?_ H locs ls hM hS hl
  clear hw hM hS hl
  intro v5 v6 hw H locs ls hM hS hl
  refine lv_iload hx hb dX0_notesFrom_6 (lv_at hl 6 rfl) ?_
  refine lv_aload_n hx hb dX0_notesFrom_8 rfl (lv_at hl 0 rfl) ?_
  refine m_geti E hM fs_X0_53 ho.1 dX0_notesFrom_9 ?_
  refine lv_icmp_ge (tgt := 96) hx hb dX0_notesFrom_12 (by decide) (fun cq => ?_) (fun cq => ?_)
  · have hw := hw.1 cq
    refine lv_iload hx hb dX0_notesFrom_96 (lv_at hl 5 rfl) ?_
    exact m_reti hx hb hr hlk hM hS ⟨rfl, hw⟩ dX0_notesFrom_98
  · have hw := hw.2 cq
    refine lv_iload hx hb dX0_notesFrom_15 (lv_at hl 4 rfl) ?_
    refine lv_iload hx hb dX0_notesFrom_17 (lv_at hl 6 rfl) ?_
    refine lv_iadd hx hb dX0_notesFrom_19 ?_
    refine lv_bipush (v := 100) hx hb dX0_notesFrom_20 (by decide) ?_
    refine lv_icmp_ge (tgt := 96) hx hb dX0_notesFrom_22 (by decide) (fun cq => ?_) (fun cq => ?_)
    · have hw := hw.1 cq
      refine lv_iload hx hb dX0_notesFrom_96 (lv_at hl 5 rfl) ?_
      exact m_reti hx hb hr hlk hM hS ⟨rfl, hw⟩ dX0_notesFrom_98
    · have hw := hw.2 cq
      refine lv_aload_n hx hb dX0_notesFrom_25 rfl (lv_at hl 0 rfl) ?_
      refine m_getr E hM fs_X0_9 ho.1 (isO_at ho 0 rfl).1 dX0_notesFrom_26 ?_
      refine lv_iload hx hb dX0_notesFrom_29 (lv_at hl 6 rfl) ?_
      obtain ⟨hv, hw⟩ := hw
      refine m_iald E hM (isO_at ho 0 rfl).2 hv dX0_notesFrom_31 ?_
      refine lv_topi (fun x1 ex1 => ?_)
      have hw := hw x1 ex1
      refine lv_istore (lv' := [(7, .int x1), (0, .ref (ad bs o)), (1, .ref (ad bs a1)), (2, .ref (ad bs a2)), (3, .int a3), (4, .int a4), (5, .int v5), (6, .int v6)]) hx hb dX0_notesFrom_32 hl (by decide) rfl (fun ls hl => ?_)
      refine lv_aload_n hx hb dX0_notesFrom_34 rfl (lv_at hl 2 rfl) ?_
      refine lv_iload hx hb dX0_notesFrom_35 (lv_at hl 0 rfl) ?_
      refine lv_aload_n hx hb dX0_notesFrom_37 rfl (lv_at hl 2 rfl) ?_
      refine m_getr E hM fs_X0_24 ha1.1.1 ha1.2.1 dX0_notesFrom_38 ?_
      refine lv_iload_n hx hb dX0_notesFrom_41 rfl (lv_at hl 4 rfl) ?_
      refine lv_iload hx hb dX0_notesFrom_42 (lv_at hl 0 rfl) ?_
      refine lv_aload_n hx hb dX0_notesFrom_44 rfl (lv_at hl 1 rfl) ?_
      refine m_getr E hM fs_X0_18 ho.1 (isO_at ho 2 rfl).1 dX0_notesFrom_45 ?_
      refine lv_iload hx hb dX0_notesFrom_48 (lv_at hl 5 rfl) ?_
      refine lv_iload hx hb dX0_notesFrom_50 (lv_at hl 7 rfl) ?_
      refine lv_iadd hx hb dX0_notesFrom_52 ?_
      obtain ⟨hv, hw⟩ := hw
      refine m_iald E hM (isO_at ho 2 rfl).2 hv dX0_notesFrom_53 ?_
      refine m_ci (m_runV E hM hS cs_X0_71 ha1.2.2.1 (by decide) rfl rfl (c_X3_loudOf ha1.2.2 hw) rfl rfl ⟨Nat.le_of_ble_eq_true rfl, Nat.le_of_ble_eq_true rfl⟩ rfl hl.1 rfl (Nat.le_of_ble_eq_true rfl) dX0_notesFrom_54 ⟨Nat.le_of_ble_eq_true rfl, Nat.le_of_ble_eq_true rfl⟩) hS (fun r2 u H locs hp hM hS => ?_)
      obtain ⟨rfl, hw⟩ := hp
      refine m_ci (m_runV E hM hS cs_X0_74 ha1.1.1 (by decide) rfl rfl (c_X2_hearers ha1 hw) rfl rfl ⟨Nat.le_of_ble_eq_true rfl, Nat.le_of_ble_eq_true rfl⟩ rfl hl.1 rfl (Nat.le_of_ble_eq_true rfl) dX0_notesFrom_57 ⟨Nat.le_of_ble_eq_true rfl, Nat.le_of_ble_eq_true rfl⟩) hS (fun r3 u H locs hp hM hS => ?_)
      obtain ⟨rfl, hw⟩ := hp
      refine lv_aload_n hx hb dX0_notesFrom_60 rfl (lv_at hl 2 rfl) ?_
      refine lv_iload hx hb dX0_notesFrom_61 (lv_at hl 0 rfl) ?_
      refine lv_aload_n hx hb dX0_notesFrom_63 rfl (lv_at hl 1 rfl) ?_
      refine lv_aload_n hx hb dX0_notesFrom_64 rfl (lv_at hl 2 rfl) ?_
      refine lv_aload_n hx hb dX0_notesFrom_65 rfl (lv_at hl 3 rfl) ?_
      refine lv_iload_n hx hb dX0_notesFrom_66 rfl (lv_at hl 4 rfl) ?_
      refine lv_iload hx hb dX0_notesFrom_67 (lv_at hl 5 rfl) ?_
      refine lv_iload hx hb dX0_notesFrom_69 (lv_at hl 7 rfl) ?_
      refine m_ci (m_runV E hM hS cs_X0_77 ho.1 (by decide) rfl rfl (c_X0_echoLoud ho ha1 ha2 hw) rfl rfl ⟨Nat.le_of_ble_eq_true rfl, Nat.le_of_ble_eq_true rfl⟩ rfl hl.1 rfl (Nat.le_of_ble_eq_true rfl) dX0_notesFrom_71 ⟨Nat.le_of_ble_eq_true rfl, Nat.le_of_ble_eq_true rfl⟩) hS (fun r4 u H locs hp hM hS => ?_)
      obtain ⟨rfl, hw⟩ := hp
      refine m_ci (m_runV E hM hS cs_X0_74 ha1.1.1 (by decide) rfl rfl (c_X2_hearers ha1 hw) rfl rfl ⟨Nat.le_of_ble_eq_true rfl, Nat.le_of_ble_eq_true rfl⟩ rfl hl.1 rfl (Nat.le_of_ble_eq_true rfl) dX0_notesFrom_74 ⟨Nat.le_of_ble_eq_true rfl, Nat.le_of_ble_eq_true rfl⟩) hS (fun r5 u H locs hp hM hS => ?_)
      obtain ⟨rfl, hw⟩ := hp
      refine lv_ior hx hb dX0_notesFrom_77 ?_
      refine lv_topi (fun x6 ex6 => ?_)
      have hw := hw x6 ex6
      refine lv_istore (lv' := [(8, .int x6), (7, .int x1), (0, .ref (ad bs o)), (1, .ref (ad bs a1)), (2, .ref (ad bs a2)), (3, .int a3), (4, .int a4), (5, .int v5), (6, .int v6)]) hx hb dX0_notesFrom_78 hl (by decide) rfl (fun ls hl => ?_)
      refine lv_iload hx hb dX0_notesFrom_80 (lv_at hl 7 rfl) ?_
      refine lv_iload hx hb dX0_notesFrom_82 (lv_at hl 0 rfl) ?_
      refine m_ci (m_runS E hM hS cs_X0_81 (c_J6_bitCount_0f7a4  hw) rfl rfl ⟨Nat.le_of_ble_eq_true rfl, Nat.le_of_ble_eq_true rfl⟩ rfl hl.1 rfl (Nat.le_of_ble_eq_true rfl) dX0_notesFrom_84 ⟨Nat.le_of_ble_eq_true rfl, Nat.le_of_ble_eq_true rfl⟩) hS (fun r7 u H locs hp hM hS => ?_)
      obtain ⟨rfl, hw⟩ := hp
      refine lv_iadd hx hb dX0_notesFrom_87 ?_
      refine lv_topi (fun x8 ex8 => ?_)
      have hw := hw x8 ex8
      refine lv_istore (lv' := [(5, .int x8), (8, .int x6), (7, .int x1), (0, .ref (ad bs o)), (1, .ref (ad bs a1)), (2, .ref (ad bs a2)), (3, .int a3), (4, .int a4), (6, .int v6)]) hx hb dX0_notesFrom_88 hl (by decide) rfl (fun ls hl => ?_)
      obtain ⟨x9, ex9⟩ : ∃ y : Int32, y = v6 + 1 := ⟨_, rfl⟩
      have hw := hw x9 ex9
      refine lv_iinc (v := x9) (lv' := [(6, .int x9), (5, .int x8), (8, .int x6), (7, .int x1), (0, .ref (ad bs o)), (1, .ref (ad bs a1)), (2, .ref (ad bs a2)), (3, .int a3), (4, .int a4)]) hx hb dX0_notesFrom_90 hl (k := 8) rfl (by rw [ex9]; rfl) (by decide) rfl (fun ls hl => ?_)
      refine lv_goto (tgt := 6) hx hb dX0_notesFrom_93 (by decide) ?_
      exact hw H locs ls  hM hS (lv_sub hl [4, 5, 6, 7, 8, 1, 0] rfl)
def w_X0_notesFrom (I : mI) (o : Nat) (a1 : Nat) (a1h : Nat) (a2 : Nat) (a3 : Int32) (a4 : Int32) (post : Int32 → Prop) : Prop := (w_X0_notesFrom_6 I o a1 a1h a2 a3 a4 post) 0 0
set_option maxRecDepth 100000 in
set_option maxHeartbeats 4000000 in
theorem c_X0_notesFrom {l : Launch} {D : va_G} {cA : Nat → ClassId} {Z : mZ} {bs : Ad} {n : Nat} {K : mK} {R : mR} {I : mI} {L : mL} {o : Nat} {a1 : Nat} {a1h : Nat} {a2 : Nat} {a3 : Int32} {a4 : Int32} {post : Int32 → Prop} (ho : isX0 K R o) (ha1 : isX2 K R a1 a1h) (ha2 : isX4 K R a2) (hw : w_X0_notesFrom I o a1 a1h a2 a3 a4 post) : Met l yX0_notesFrom (.code yX0_notesFrom cX0_notesFrom 9 (some .int) :: gw) ({ frames := 3, cells := 0, slots := 0, locals := 93 } : Room) (PreM D cA Z bs (n, K, R, I, L) [.ref (ad bs o), .ref (ad bs a1), .ref (ad bs a2), .int a3, .int a4]) (QI D cA bs (fun r u => u = (n, K, R, I, L) ∧ post r)) 0 0 (Ab bs) := by
  refine m_met (by decide) (Nat.le_of_ble_eq_true rfl) (fun p e s m below meth c ls E hr hlk hM hS hl => ?_)
  have E : Ev p s m _ c cX0_notesFrom 9 RX0 D cA Z bs := E
  have hl : lv_has ls 9 [(0, .ref (ad bs o)), (1, .ref (ad bs a1)), (2, .ref (ad bs a2)), (3, .int a3), (4, .int a4)] := hl
  have hx := E.1.1
  have hb := E.1.2.1
  generalize hHe : s.heap = H at hM ⊢
  have hS : va_S (Ab bs) s.heap H [] := by rw [← hHe]; exact va_S.rf
  clear hHe
  refine lv_iconst (v := 0) hx hb dX0_notesFrom_0 (by decide) ?_
  refine lv_istore (lv' := [(5, .int 0), (0, .ref (ad bs o)), (1, .ref (ad bs a1)), (2, .ref (ad bs a2)), (3, .int a3), (4, .int a4)]) hx hb dX0_notesFrom_1 hl (by decide) rfl (fun ls hl => ?_)
  refine lv_iconst (v := 0) hx hb dX0_notesFrom_3 (by decide) ?_
  refine lv_istore (lv' := [(6, .int 0), (5, .int 0), (0, .ref (ad bs o)), (1, .ref (ad bs a1)), (2, .ref (ad bs a2)), (3, .int a3), (4, .int a4)]) hx hb dX0_notesFrom_4 hl (by decide) rfl (fun ls hl => ?_)
  exact s_X0_notesFrom_6 E hr hlk ho ha1 ha2  hw hM hS (lv_sub hl [2, 3, 4, 5, 6, 1, 0] rfl)
theorem dX0_best_0 : decode cX0_best 0 = .ok (.aload_n 0, 1) := by decide +kernel
theorem dX0_best_1 : decode cX0_best 1 = .ok (.aload_n 1, 1) := by decide +kernel
theorem dX0_best_2 : decode cX0_best 2 = .ok (.getfield 24, 3) := by decide +kernel
theorem dX0_best_5 : decode cX0_best 5 = .ok (.iload_n 3, 1) := by decide +kernel
theorem dX0_best_6 : decode cX0_best 6 = .ok (.invokevirtual 30, 3) := by decide +kernel
theorem dX0_best_9 : decode cX0_best 9 = .ok (.iconst 0, 1) := by decide +kernel
theorem dX0_best_10 : decode cX0_best 10 = .ok (.istore 4, 2) := by decide +kernel
theorem dX0_best_12 : decode cX0_best 12 = .ok (.iload 4, 2) := by decide +kernel
theorem dX0_best_14 : decode cX0_best 14 = .ok (.bipush 100, 2) := by decide +kernel
theorem dX0_best_16 : decode cX0_best 16 = .ok (.if_icmp .ge 26, 3) := by decide +kernel
theorem dX0_best_19 : decode cX0_best 19 = .ok (.aload_n 0, 1) := by decide +kernel
theorem dX0_best_20 : decode cX0_best 20 = .ok (.getfield 18, 3) := by decide +kernel
theorem dX0_best_23 : decode cX0_best 23 = .ok (.iload 4, 2) := by decide +kernel
theorem dX0_best_25 : decode cX0_best 25 = .ok (.aload_n 1, 1) := by decide +kernel
theorem dX0_best_26 : decode cX0_best 26 = .ok (.getfield 24, 3) := by decide +kernel
theorem dX0_best_29 : decode cX0_best 29 = .ok (.iload_n 3, 1) := by decide +kernel
theorem dX0_best_30 : decode cX0_best 30 = .ok (.iload 4, 2) := by decide +kernel
theorem dX0_best_32 : decode cX0_best 32 = .ok (.invokevirtual 34, 3) := by decide +kernel
theorem dX0_best_35 : decode cX0_best 35 = .ok (.iastore, 1) := by decide +kernel
theorem dX0_best_36 : decode cX0_best 36 = .ok (.iinc 4 1, 3) := by decide +kernel
theorem dX0_best_39 : decode cX0_best 39 = .ok (.goto (-27), 3) := by decide +kernel
theorem dX0_best_42 : decode cX0_best 42 = .ok (.iconst 0, 1) := by decide +kernel
theorem dX0_best_43 : decode cX0_best 43 = .ok (.istore 4, 2) := by decide +kernel
theorem dX0_best_45 : decode cX0_best 45 = .ok (.aload_n 0, 1) := by decide +kernel
theorem dX0_best_46 : decode cX0_best 46 = .ok (.aload_n 1, 1) := by decide +kernel
theorem dX0_best_47 : decode cX0_best 47 = .ok (.aload_n 2, 1) := by decide +kernel
theorem dX0_best_48 : decode cX0_best 48 = .ok (.iload_n 3, 1) := by decide +kernel
theorem dX0_best_49 : decode cX0_best 49 = .ok (.iconst 0, 1) := by decide +kernel
theorem dX0_best_50 : decode cX0_best 50 = .ok (.invokevirtual 40, 3) := by decide +kernel
theorem dX0_best_53 : decode cX0_best 53 = .ok (.istore 5, 2) := by decide +kernel
theorem dX0_best_55 : decode cX0_best 55 = .ok (.iconst 1, 1) := by decide +kernel
theorem dX0_best_56 : decode cX0_best 56 = .ok (.istore 6, 2) := by decide +kernel
theorem dX0_best_58 : decode cX0_best 58 = .ok (.iload 6, 2) := by decide +kernel
theorem dX0_best_60 : decode cX0_best 60 = .ok (.bipush 60, 2) := by decide +kernel
theorem dX0_best_62 : decode cX0_best 62 = .ok (.if_icmp .gt 35, 3) := by decide +kernel
theorem dX0_best_65 : decode cX0_best 65 = .ok (.aload_n 0, 1) := by decide +kernel
theorem dX0_best_66 : decode cX0_best 66 = .ok (.aload_n 1, 1) := by decide +kernel
theorem dX0_best_67 : decode cX0_best 67 = .ok (.aload_n 2, 1) := by decide +kernel
theorem dX0_best_68 : decode cX0_best 68 = .ok (.iload_n 3, 1) := by decide +kernel
theorem dX0_best_69 : decode cX0_best 69 = .ok (.iload 6, 2) := by decide +kernel
theorem dX0_best_71 : decode cX0_best 71 = .ok (.invokevirtual 40, 3) := by decide +kernel
theorem dX0_best_74 : decode cX0_best 74 = .ok (.istore 7, 2) := by decide +kernel
theorem dX0_best_76 : decode cX0_best 76 = .ok (.iload 7, 2) := by decide +kernel
theorem dX0_best_78 : decode cX0_best 78 = .ok (.iload 5, 2) := by decide +kernel
theorem dX0_best_80 : decode cX0_best 80 = .ok (.if_icmp .ge 11, 3) := by decide +kernel
theorem dX0_best_83 : decode cX0_best 83 = .ok (.iload 7, 2) := by decide +kernel
theorem dX0_best_85 : decode cX0_best 85 = .ok (.istore 5, 2) := by decide +kernel
theorem dX0_best_87 : decode cX0_best 87 = .ok (.iload 6, 2) := by decide +kernel
theorem dX0_best_89 : decode cX0_best 89 = .ok (.istore 4, 2) := by decide +kernel
theorem dX0_best_91 : decode cX0_best 91 = .ok (.iinc 6 1, 3) := by decide +kernel
theorem dX0_best_94 : decode cX0_best 94 = .ok (.goto (-36), 3) := by decide +kernel
theorem dX0_best_97 : decode cX0_best 97 = .ok (.iload 4, 2) := by decide +kernel
theorem dX0_best_99 : decode cX0_best 99 = .ok (.ireturn, 1) := by decide +kernel
def w_X0_best_12 (o : Nat) (a1 : Nat) (a1h : Nat) (a2 : Nat) (a3 : Int32) (post : Int32 → mI → Prop) (k42 : mI → Prop) (I : mI) (v4 : Int32) : Prop := ∀ ZZ : (mI → Int32 → Prop), (∀ (I : mI) (v4 : Int32), ((100 ≤ v4 → k42 I) ∧ (¬ 100 ≤ v4 → w_X3_shoeAt I a1h a3 v4 (fun r2 => vp_in v4 100 ∧ ∀ I3, I3 = up2 I (o + 3) v4.toNatClampNeg r2 → ∀ x4, x4 = v4 + 1 → ZZ I3 x4))) → ZZ I v4) → ZZ I v4
set_option maxRecDepth 100000 in
set_option maxHeartbeats 4000000 in
theorem s_X0_best_12 {p : Program} {l : Launch} {e : Env} {s : State} {m : MethodId} {args : Array Value} {below : List Frame} {meth : Method} {c : Code} {D : va_G} {cA : Nat → ClassId} {Z : mZ} {bs : Ad} {n : Nat} {K : mK} {R : mR} {L : mL} (E : Ev p s m args c cX0_best 8 RX0 D cA Z bs) (hr : meth.sig.returnType = (some .int)) (hlk : meth.locks = false) {o : Nat} {a1 : Nat} {a1h : Nat} {a2 : Nat} {a3 : Int32} (ho : isX0 K R o) (ha1 : isX2 K R a1 a1h) (ha2 : isX4 K R a2) {post : Int32 → mI → Prop} {k42 : mI → Prop} (hk42 : ∀ (I : mI) (H : Heap) (locs : List Loc) (ls : Array Slot), k42 I → mm D cA bs (n, K, R, I, L) H → va_S (Ab bs) s.heap H locs → lv_has ls 8 [(0, .ref (ad bs o)), (1, .ref (ad bs a1)), (2, .ref (ad bs a2)), (3, .int a3)] → W p l e ({ frames := 4, cells := 0, slots := 0, locals := 121 } : Room) s m args below meth c H locs 0 0 (MQ below (QI D cA bs (fun r u => ∃ I', u = (n, K, R, I', L) ∧ post r I')) args s 0 0 (Ab bs)) (F0 m 42 ls [])) {I : mI} {v4 : Int32} {H : Heap} {locs : List Loc} {ls : Array Slot} (hw : w_X0_best_12 o a1 a1h a2 a3 post k42 I v4) (hM : mm D cA bs (n, K, R, I, L) H) (hS : va_S (Ab bs) s.heap H locs) (hl : lv_has ls 8 [(0, .ref (ad bs o)), (1, .ref (ad bs a1)), (2, .ref (ad bs a2)), (3, .int a3), (4, .int v4)]) : W p l e ({ frames := 4, cells := 0, slots := 0, locals := 121 } : Room) s m args below meth c H locs 0 0 (MQ below (QI D cA bs (fun r u => ∃ I', u = (n, K, R, I', L) ∧ post r I')) args s 0 0 (Ab bs)) (F0 m 12 ls []) := by
  have hx := E.1.1
  have hb := E.1.2.1
  refine hw (fun I v4 => ∀ (H : Heap) (locs : List Loc) (ls : Array Slot), mm D cA bs (n, K, R, I, L) H → va_S (Ab bs) s.heap H locs → lv_has ls 8 [(0, .ref (ad bs o)), (1, .ref (ad bs a1)), (2, .ref (ad bs a2)), (3, .int a3), (4, .int v4)] → W p l e ({ frames := 4, cells := 0, slots := 0, locals := 121 } : Room) s m args below meth c H locs 0 0 (MQ below (QI D cA bs (fun r u => ∃ I', u = (n, K, R, I', L) ∧ post r I')) args s 0 0 (Ab bs)) (F0 m 12 ls [])) ?_ H locs ls hM hS hl
  clear hw hM hS hl
  intro I v4 hw H locs ls hM hS hl
  refine lv_iload hx hb dX0_best_12 (lv_at hl 4 rfl) ?_
  refine lv_bipush (v := 100) hx hb dX0_best_14 (by decide) ?_
  refine lv_icmp_ge (tgt := 42) hx hb dX0_best_16 (by decide) (fun cq => ?_) (fun cq => ?_)
  · have hw := hw.1 cq
    exact hk42 _ H locs ls  hw hM hS (lv_sub hl [0, 1, 2, 3] rfl)
  · have hw := hw.2 cq
    refine lv_aload_n hx hb dX0_best_19 rfl (lv_at hl 0 rfl) ?_
    refine m_getr E hM fs_X0_18 ho.1 (isO_at ho 2 rfl).1 dX0_best_20 ?_
    refine lv_iload hx hb dX0_best_23 (lv_at hl 4 rfl) ?_
    refine lv_aload_n hx hb dX0_best_25 rfl (lv_at hl 1 rfl) ?_
    refine m_getr E hM fs_X0_24 ha1.1.1 ha1.2.1 dX0_best_26 ?_
    refine lv_iload_n hx hb dX0_best_29 rfl (lv_at hl 3 rfl) ?_
    refine lv_iload hx hb dX0_best_30 (lv_at hl 4 rfl) ?_
    refine m_ci (m_runV E hM hS cs_X0_34 ha1.2.2.1 (by decide) rfl rfl (c_X3_shoeAt ha1.2.2 hw) rfl rfl ⟨Nat.le_of_ble_eq_true rfl, Nat.le_of_ble_eq_true rfl⟩ rfl hl.1 rfl (Nat.le_of_ble_eq_true rfl) dX0_best_32 ⟨Nat.le_of_ble_eq_true rfl, Nat.le_of_ble_eq_true rfl⟩) hS (fun r2 u H locs hp hM hS => ?_)
    obtain ⟨rfl, hw⟩ := hp
    obtain ⟨hv, hw⟩ := hw
    refine m_iast E hM hS (isO_at ho 2 rfl).2 hv dX0_best_35 (fun I3 H locs eI3 hM hS => ?_)
    have hw := hw I3 eI3
    obtain ⟨x4, ex4⟩ : ∃ y : Int32, y = v4 + 1 := ⟨_, rfl⟩
    have hw := hw x4 ex4
    refine lv_iinc (v := x4) (lv' := [(4, .int x4), (0, .ref (ad bs o)), (1, .ref (ad bs a1)), (2, .ref (ad bs a2)), (3, .int a3)]) hx hb dX0_best_36 hl (k := 4) rfl (by rw [ex4]; rfl) (by decide) rfl (fun ls hl => ?_)
    refine lv_goto (tgt := 12) hx hb dX0_best_39 (by decide) ?_
    exact hw H locs ls  hM hS (lv_sub hl [1, 2, 3, 4, 0] rfl)
def w_X0_best_58 (o : Nat) (a1 : Nat) (a1h : Nat) (a2 : Nat) (a3 : Int32) (post : Int32 → mI → Prop) (I : mI) (v4 : Int32) (v5 : Int32) (v6 : Int32) : Prop := ∀ ZZ : (mI → Int32 → Int32 → Int32 → Prop), (∀ (I : mI) (v4 : Int32) (v5 : Int32) (v6 : Int32), ((60 < v6 → post v4 I) ∧ (¬ 60 < v6 → w_X0_notesFrom I o a1 a1h a2 a3 v6 (fun r6 => (v5 ≤ r6 → ∀ x7, x7 = v6 + 1 → ZZ I v4 v5 x7) ∧ (¬ v5 ≤ r6 → ∀ x8, x8 = v6 + 1 → ZZ I v6 r6 x8)))) → ZZ I v4 v5 v6) → ZZ I v4 v5 v6
set_option maxRecDepth 100000 in
set_option maxHeartbeats 4000000 in
theorem s_X0_best_58 {p : Program} {l : Launch} {e : Env} {s : State} {m : MethodId} {args : Array Value} {below : List Frame} {meth : Method} {c : Code} {D : va_G} {cA : Nat → ClassId} {Z : mZ} {bs : Ad} {n : Nat} {K : mK} {R : mR} {L : mL} (E : Ev p s m args c cX0_best 8 RX0 D cA Z bs) (hr : meth.sig.returnType = (some .int)) (hlk : meth.locks = false) {o : Nat} {a1 : Nat} {a1h : Nat} {a2 : Nat} {a3 : Int32} (ho : isX0 K R o) (ha1 : isX2 K R a1 a1h) (ha2 : isX4 K R a2) {post : Int32 → mI → Prop} {I : mI} {v4 : Int32} {v5 : Int32} {v6 : Int32} {H : Heap} {locs : List Loc} {ls : Array Slot} (hw : w_X0_best_58 o a1 a1h a2 a3 post I v4 v5 v6) (hM : mm D cA bs (n, K, R, I, L) H) (hS : va_S (Ab bs) s.heap H locs) (hl : lv_has ls 8 [(0, .ref (ad bs o)), (1, .ref (ad bs a1)), (2, .ref (ad bs a2)), (3, .int a3), (4, .int v4), (5, .int v5), (6, .int v6)]) : W p l e ({ frames := 4, cells := 0, slots := 0, locals := 121 } : Room) s m args below meth c H locs 0 0 (MQ below (QI D cA bs (fun r u => ∃ I', u = (n, K, R, I', L) ∧ post r I')) args s 0 0 (Ab bs)) (F0 m 58 ls []) := by
  have hx := E.1.1
  have hb := E.1.2.1
  refine hw (fun I v4 v5 v6 => ∀ (H : Heap) (locs : List Loc) (ls : Array Slot), mm D cA bs (n, K, R, I, L) H → va_S (Ab bs) s.heap H locs → lv_has ls 8 [(0, .ref (ad bs o)), (1, .ref (ad bs a1)), (2, .ref (ad bs a2)), (3, .int a3), (4, .int v4), (5, .int v5), (6, .int v6)] → W p l e ({ frames := 4, cells := 0, slots := 0, locals := 121 } : Room) s m args below meth c H locs 0 0 (MQ below (QI D cA bs (fun r u => ∃ I', u = (n, K, R, I', L) ∧ post r I')) args s 0 0 (Ab bs)) (F0 m 58 ls [])) ?_ H locs ls hM hS hl
  clear hw hM hS hl
  intro I v4 v5 v6 hw H locs ls hM hS hl
  refine lv_iload hx hb dX0_best_58 (lv_at hl 6 rfl) ?_
  refine lv_bipush (v := 60) hx hb dX0_best_60 (by decide) ?_
  refine lv_icmp_gt (tgt := 97) hx hb dX0_best_62 (by decide) (fun cq => ?_) (fun cq => ?_)
  · have hw := hw.1 cq
    refine lv_iload hx hb dX0_best_97 (lv_at hl 4 rfl) ?_
    exact m_reti hx hb hr hlk hM hS ⟨_, rfl, hw⟩ dX0_best_99
  · have hw := hw.2 cq
    refine lv_aload_n hx hb dX0_best_65 rfl (lv_at hl 0 rfl) ?_
    refine lv_aload_n hx hb dX0_best_66 rfl (lv_at hl 1 rfl) ?_
    refine lv_aload_n hx hb dX0_best_67 rfl (lv_at hl 2 rfl) ?_
    refine lv_iload_n hx hb dX0_best_68 rfl (lv_at hl 3 rfl) ?_
    refine lv_iload hx hb dX0_best_69 (lv_at hl 6 rfl) ?_
    refine m_ci (m_runV E hM hS cs_X0_40 ho.1 (by decide) rfl rfl (c_X0_notesFrom ho ha1 ha2 hw) rfl rfl ⟨Nat.le_of_ble_eq_true rfl, Nat.le_of_ble_eq_true rfl⟩ rfl hl.1 rfl (Nat.le_of_ble_eq_true rfl) dX0_best_71 ⟨Nat.le_of_ble_eq_true rfl, Nat.le_of_ble_eq_true rfl⟩) hS (fun r6 u H locs hp hM hS => ?_)
    obtain ⟨rfl, hw⟩ := hp
    refine lv_istore (lv' := [(7, .int r6), (0, .ref (ad bs o)), (1, .ref (ad bs a1)), (2, .ref (ad bs a2)), (3, .int a3), (4, .int v4), (5, .int v5), (6, .int v6)]) hx hb dX0_best_74 hl (by decide) rfl (fun ls hl => ?_)
    refine lv_iload hx hb dX0_best_76 (lv_at hl 0 rfl) ?_
    refine lv_iload hx hb dX0_best_78 (lv_at hl 6 rfl) ?_
    refine lv_icmp_ge (tgt := 91) hx hb dX0_best_80 (by decide) (fun cq => ?_) (fun cq => ?_)
    · have hw := hw.1 cq
      obtain ⟨x7, ex7⟩ : ∃ y : Int32, y = v6 + 1 := ⟨_, rfl⟩
      have hw := hw x7 ex7
      refine lv_iinc (v := x7) (lv' := [(6, .int x7), (7, .int r6), (0, .ref (ad bs o)), (1, .ref (ad bs a1)), (2, .ref (ad bs a2)), (3, .int a3), (4, .int v4), (5, .int v5)]) hx hb dX0_best_91 hl (k := 7) rfl (by rw [ex7]; rfl) (by decide) rfl (fun ls hl => ?_)
      refine lv_goto (tgt := 58) hx hb dX0_best_94 (by decide) ?_
      exact hw H locs ls  hM hS (lv_sub hl [2, 3, 4, 5, 6, 7, 0] rfl)
    · have hw := hw.2 cq
      refine lv_iload hx hb dX0_best_83 (lv_at hl 0 rfl) ?_
      refine lv_istore (lv' := [(5, .int r6), (7, .int r6), (0, .ref (ad bs o)), (1, .ref (ad bs a1)), (2, .ref (ad bs a2)), (3, .int a3), (4, .int v4), (6, .int v6)]) hx hb dX0_best_85 hl (by decide) rfl (fun ls hl => ?_)
      refine lv_iload hx hb dX0_best_87 (lv_at hl 7 rfl) ?_
      refine lv_istore (lv' := [(4, .int v6), (5, .int r6), (7, .int r6), (0, .ref (ad bs o)), (1, .ref (ad bs a1)), (2, .ref (ad bs a2)), (3, .int a3), (6, .int v6)]) hx hb dX0_best_89 hl (by decide) rfl (fun ls hl => ?_)
      obtain ⟨x8, ex8⟩ : ∃ y : Int32, y = v6 + 1 := ⟨_, rfl⟩
      have hw := hw x8 ex8
      refine lv_iinc (v := x8) (lv' := [(6, .int x8), (4, .int v6), (5, .int r6), (7, .int r6), (0, .ref (ad bs o)), (1, .ref (ad bs a1)), (2, .ref (ad bs a2)), (3, .int a3)]) hx hb dX0_best_91 hl (k := 7) rfl (by rw [ex8]; rfl) (by decide) rfl (fun ls hl => ?_)
      refine lv_goto (tgt := 58) hx hb dX0_best_94 (by decide) ?_
      exact hw H locs ls  hM hS (lv_sub hl [4, 5, 6, 7, 1, 2, 0] rfl)
def w_X0_best_42 (o : Nat) (a1 : Nat) (a1h : Nat) (a2 : Nat) (a3 : Int32) (post : Int32 → mI → Prop) (I : mI) : Prop := w_X0_notesFrom I o a1 a1h a2 a3 0 (fun r5 => (w_X0_best_58 o a1 a1h a2 a3 post) I 0 r5 1)
set_option maxRecDepth 100000 in
set_option maxHeartbeats 4000000 in
theorem s_X0_best_42 {p : Program} {l : Launch} {e : Env} {s : State} {m : MethodId} {args : Array Value} {below : List Frame} {meth : Method} {c : Code} {D : va_G} {cA : Nat → ClassId} {Z : mZ} {bs : Ad} {n : Nat} {K : mK} {R : mR} {L : mL} (E : Ev p s m args c cX0_best 8 RX0 D cA Z bs) (hr : meth.sig.returnType = (some .int)) (hlk : meth.locks = false) {o : Nat} {a1 : Nat} {a1h : Nat} {a2 : Nat} {a3 : Int32} (ho : isX0 K R o) (ha1 : isX2 K R a1 a1h) (ha2 : isX4 K R a2) {post : Int32 → mI → Prop} {I : mI} {H : Heap} {locs : List Loc} {ls : Array Slot} (hw : w_X0_best_42 o a1 a1h a2 a3 post I) (hM : mm D cA bs (n, K, R, I, L) H) (hS : va_S (Ab bs) s.heap H locs) (hl : lv_has ls 8 [(0, .ref (ad bs o)), (1, .ref (ad bs a1)), (2, .ref (ad bs a2)), (3, .int a3)]) : W p l e ({ frames := 4, cells := 0, slots := 0, locals := 121 } : Room) s m args below meth c H locs 0 0 (MQ below (QI D cA bs (fun r u => ∃ I', u = (n, K, R, I', L) ∧ post r I')) args s 0 0 (Ab bs)) (F0 m 42 ls []) := by
  have hx := E.1.1
  have hb := E.1.2.1
  refine lv_iconst (v := 0) hx hb dX0_best_42 (by decide) ?_
  refine lv_istore (lv' := [(4, .int 0), (0, .ref (ad bs o)), (1, .ref (ad bs a1)), (2, .ref (ad bs a2)), (3, .int a3)]) hx hb dX0_best_43 hl (by decide) rfl (fun ls hl => ?_)
  refine lv_aload_n hx hb dX0_best_45 rfl (lv_at hl 1 rfl) ?_
  refine lv_aload_n hx hb dX0_best_46 rfl (lv_at hl 2 rfl) ?_
  refine lv_aload_n hx hb dX0_best_47 rfl (lv_at hl 3 rfl) ?_
  refine lv_iload_n hx hb dX0_best_48 rfl (lv_at hl 4 rfl) ?_
  refine lv_iconst (v := 0) hx hb dX0_best_49 (by decide) ?_
  refine m_ci (m_runV E hM hS cs_X0_40 ho.1 (by decide) rfl rfl (c_X0_notesFrom ho ha1 ha2 hw) rfl rfl ⟨Nat.le_of_ble_eq_true rfl, Nat.le_of_ble_eq_true rfl⟩ rfl hl.1 rfl (Nat.le_of_ble_eq_true rfl) dX0_best_50 ⟨Nat.le_of_ble_eq_true rfl, Nat.le_of_ble_eq_true rfl⟩) hS (fun r5 u H locs hp hM hS => ?_)
  obtain ⟨rfl, hw⟩ := hp
  refine lv_istore (lv' := [(5, .int r5), (4, .int 0), (0, .ref (ad bs o)), (1, .ref (ad bs a1)), (2, .ref (ad bs a2)), (3, .int a3)]) hx hb dX0_best_53 hl (by decide) rfl (fun ls hl => ?_)
  refine lv_iconst (v := 1) hx hb dX0_best_55 (by decide) ?_
  refine lv_istore (lv' := [(6, .int 1), (5, .int r5), (4, .int 0), (0, .ref (ad bs o)), (1, .ref (ad bs a1)), (2, .ref (ad bs a2)), (3, .int a3)]) hx hb dX0_best_56 hl (by decide) rfl (fun ls hl => ?_)
  exact s_X0_best_58 E hr hlk ho ha1 ha2  hw hM hS (lv_sub hl [3, 4, 5, 6, 2, 1, 0] rfl)
def w_X0_best (I : mI) (o : Nat) (a1 : Nat) (a1h : Nat) (a2 : Nat) (a3 : Int32) (post : Int32 → mI → Prop) : Prop := w_X0_layPath I o a1h a3 (fun I1 => (w_X0_best_12 o a1 a1h a2 a3 post (w_X0_best_42 o a1 a1h a2 a3 post)) I1 0)
set_option maxRecDepth 100000 in
set_option maxHeartbeats 4000000 in
theorem c_X0_best {l : Launch} {D : va_G} {cA : Nat → ClassId} {Z : mZ} {bs : Ad} {n : Nat} {K : mK} {R : mR} {I : mI} {L : mL} {o : Nat} {a1 : Nat} {a1h : Nat} {a2 : Nat} {a3 : Int32} {post : Int32 → mI → Prop} (ho : isX0 K R o) (ha1 : isX2 K R a1 a1h) (ha2 : isX4 K R a2) (hw : w_X0_best I o a1 a1h a2 a3 post) : Met l yX0_best (.code yX0_best cX0_best 8 (some .int) :: gw) ({ frames := 4, cells := 0, slots := 0, locals := 121 } : Room) (PreM D cA Z bs (n, K, R, I, L) [.ref (ad bs o), .ref (ad bs a1), .ref (ad bs a2), .int a3]) (QI D cA bs (fun r u => ∃ I', u = (n, K, R, I', L) ∧ post r I')) 0 0 (Ab bs) := by
  refine m_met (by decide) (Nat.le_of_ble_eq_true rfl) (fun p e s m below meth c ls E hr hlk hM hS hl => ?_)
  have E : Ev p s m _ c cX0_best 8 RX0 D cA Z bs := E
  have hl : lv_has ls 8 [(0, .ref (ad bs o)), (1, .ref (ad bs a1)), (2, .ref (ad bs a2)), (3, .int a3)] := hl
  have hx := E.1.1
  have hb := E.1.2.1
  generalize hHe : s.heap = H at hM ⊢
  have hS : va_S (Ab bs) s.heap H [] := by rw [← hHe]; exact va_S.rf
  clear hHe
  refine lv_aload_n hx hb dX0_best_0 rfl (lv_at hl 0 rfl) ?_
  refine lv_aload_n hx hb dX0_best_1 rfl (lv_at hl 1 rfl) ?_
  refine m_getr E hM fs_X0_24 ha1.1.1 ha1.2.1 dX0_best_2 ?_
  refine lv_iload_n hx hb dX0_best_5 rfl (lv_at hl 3 rfl) ?_
  refine m_cv (m_runV E hM hS cs_X0_30 ho.1 (by decide) rfl rfl (c_X0_layPath ho ha1.2.2 hw) rfl rfl ⟨Nat.le_of_ble_eq_true rfl, Nat.le_of_ble_eq_true rfl⟩ rfl hl.1 rfl (Nat.le_of_ble_eq_true rfl) dX0_best_6 ⟨Nat.le_of_ble_eq_true rfl, Nat.le_of_ble_eq_true rfl⟩) hS (fun u H locs hp hM hS => ?_)
  obtain ⟨I1, rfl, hw⟩ := hp
  refine lv_iconst (v := 0) hx hb dX0_best_9 (by decide) ?_
  refine lv_istore (lv' := [(4, .int 0), (0, .ref (ad bs o)), (1, .ref (ad bs a1)), (2, .ref (ad bs a2)), (3, .int a3)]) hx hb dX0_best_10 hl (by decide) rfl (fun ls hl => ?_)
  exact s_X0_best_12 E hr hlk ho ha1 ha2 (fun I H locs ls  hw hM hS hl => s_X0_best_42 E hr hlk ho ha1 ha2  hw hM hS hl)  hw hM hS (lv_sub hl [1, 2, 3, 4, 0] rfl)
theorem dX1_below_0 : decode cX1_below 0 = .ok (.aload_n 0, 1) := by decide +kernel
theorem dX1_below_1 : decode cX1_below 1 = .ok (.aload_n 0, 1) := by decide +kernel
theorem dX1_below_2 : decode cX1_below 2 = .ok (.getfield 24, 3) := by decide +kernel
theorem dX1_below_5 : decode cX1_below 5 = .ok (.ldc 60, 2) := by decide +kernel
theorem dX1_below_7 : decode cX1_below 7 = .ok (.imul, 1) := by decide +kernel
theorem dX1_below_8 : decode cX1_below 8 = .ok (.sipush 12345, 3) := by decide +kernel
theorem dX1_below_11 : decode cX1_below 11 = .ok (.iadd, 1) := by decide +kernel
theorem dX1_below_12 : decode cX1_below 12 = .ok (.putfield 24, 3) := by decide +kernel
theorem dX1_below_15 : decode cX1_below 15 = .ok (.iload_n 1, 1) := by decide +kernel
theorem dX1_below_16 : decode cX1_below 16 = .ok (.ifCond .le 15, 3) := by decide +kernel
theorem dX1_below_19 : decode cX1_below 19 = .ok (.aload_n 0, 1) := by decide +kernel
theorem dX1_below_20 : decode cX1_below 20 = .ok (.getfield 24, 3) := by decide +kernel
theorem dX1_below_23 : decode cX1_below 23 = .ok (.bipush 16, 2) := by decide +kernel
theorem dX1_below_25 : decode cX1_below 25 = .ok (.iushr, 1) := by decide +kernel
theorem dX1_below_26 : decode cX1_below 26 = .ok (.iload_n 1, 1) := by decide +kernel
theorem dX1_below_27 : decode cX1_below 27 = .ok (.irem, 1) := by decide +kernel
theorem dX1_below_28 : decode cX1_below 28 = .ok (.goto 4, 3) := by decide +kernel
theorem dX1_below_31 : decode cX1_below 31 = .ok (.iconst 0, 1) := by decide +kernel
theorem dX1_below_32 : decode cX1_below 32 = .ok (.ireturn, 1) := by decide +kernel
def w_X1_below (I : mI) (o : Nat) (a1 : Int32) (post : Int32 → mI → Prop) : Prop := ∀ I1, I1 = up2 I o 3 (((I o 3) * 1103515245) + 12345) → (a1 ≤ 0 → post 0 I1) ∧ (¬ a1 ≤ 0 → ¬ a1 = 0 ∧ post (irem (iushr (I1 o 3) 16) a1) I1)
set_option maxRecDepth 100000 in
set_option maxHeartbeats 4000000 in
theorem c_X1_below {l : Launch} {D : va_G} {cA : Nat → ClassId} {Z : mZ} {bs : Ad} {n : Nat} {K : mK} {R : mR} {I : mI} {L : mL} {o : Nat} {a1 : Int32} {post : Int32 → mI → Prop} (ho : isX1 K R o) (hw : w_X1_below I o a1 post) : Met l yX1_below (.code yX1_below cX1_below 2 (some .int) :: gw) ({ frames := 0, cells := 0, slots := 0, locals := 0 } : Room) (PreM D cA Z bs (n, K, R, I, L) [.ref (ad bs o), .int a1]) (QI D cA bs (fun r u => ∃ I', u = (n, K, R, I', L) ∧ post r I')) 0 0 (Ab bs) := by
  refine m_met (by decide) (Nat.le_of_ble_eq_true rfl) (fun p e s m below meth c ls E hr hlk hM hS hl => ?_)
  have E : Ev p s m _ c cX1_below 2 RX1 D cA Z bs := E
  have hl : lv_has ls 2 [(0, .ref (ad bs o)), (1, .int a1)] := hl
  have hx := E.1.1
  have hb := E.1.2.1
  generalize hHe : s.heap = H at hM ⊢
  have hS : va_S (Ab bs) s.heap H [] := by rw [← hHe]; exact va_S.rf
  clear hHe
  refine lv_aload_n hx hb dX1_below_0 rfl (lv_at hl 0 rfl) ?_
  refine lv_aload_n hx hb dX1_below_1 rfl (lv_at hl 0 rfl) ?_
  refine m_geti E hM fs_X1_24 ho.1 dX1_below_2 ?_
  refine lv_ldc (v := 1103515245) hx hb E.1.2.2.2.1 (E.1.2.2.2.2 _ (gw_of 1166 (by decide +kernel) (by decide +kernel))) dX1_below_5 ?_
  refine lv_imul hx hb dX1_below_7 ?_
  refine lv_sipush (v := 12345) hx hb dX1_below_8 (by decide) ?_
  refine lv_iadd hx hb dX1_below_11 ?_
  refine m_puti E hM hS fp_X1_24 ho.1 rfl rfl dX1_below_12 (fun I1 H locs eI1 hM hS => ?_)
  have hw := hw I1 eI1
  refine lv_iload_n hx hb dX1_below_15 rfl (lv_at hl 1 rfl) ?_
  refine lv_if_le (tgt := 31) hx hb dX1_below_16 (by decide) (fun cq => ?_) (fun cq => ?_)
  · have hw := hw.1 cq
    refine lv_iconst (v := 0) hx hb dX1_below_31 (by decide) ?_
    exact m_reti hx hb hr hlk hM hS ⟨_, rfl, hw⟩ dX1_below_32
  · have hw := hw.2 cq
    refine lv_aload_n hx hb dX1_below_19 rfl (lv_at hl 0 rfl) ?_
    refine m_geti E hM fs_X1_24 ho.1 dX1_below_20 ?_
    refine lv_bipush (v := 16) hx hb dX1_below_23 (by decide) ?_
    refine lv_iushr hx hb dX1_below_25 rfl ?_
    refine lv_iload_n hx hb dX1_below_26 rfl (lv_at hl 1 rfl) ?_
    obtain ⟨hd, hw⟩ := hw
    refine lv_irem hx hb dX1_below_27 hd ?_
    refine lv_goto (tgt := 32) hx hb dX1_below_28 (by decide) ?_
    exact m_reti hx hb hr hlk hM hS ⟨_, rfl, hw⟩ dX1_below_32
theorem dX1_goes_0 : decode cX1_goes 0 = .ok (.aload_n 0, 1) := by decide +kernel
theorem dX1_goes_1 : decode cX1_goes 1 = .ok (.getfield 9, 3) := by decide +kernel
theorem dX1_goes_4 : decode cX1_goes 4 = .ok (.iload_n 2, 1) := by decide +kernel
theorem dX1_goes_5 : decode cX1_goes 5 = .ok (.iaload, 1) := by decide +kernel
theorem dX1_goes_6 : decode cX1_goes 6 = .ok (.istore_n 3, 1) := by decide +kernel
theorem dX1_goes_7 : decode cX1_goes 7 = .ok (.aload_n 0, 1) := by decide +kernel
theorem dX1_goes_8 : decode cX1_goes 8 = .ok (.getfield 9, 3) := by decide +kernel
theorem dX1_goes_11 : decode cX1_goes 11 = .ok (.iload_n 2, 1) := by decide +kernel
theorem dX1_goes_12 : decode cX1_goes 12 = .ok (.aload_n 0, 1) := by decide +kernel
theorem dX1_goes_13 : decode cX1_goes 13 = .ok (.iconst 2, 1) := by decide +kernel
theorem dX1_goes_14 : decode cX1_goes 14 = .ok (.invokevirtual 48, 3) := by decide +kernel
theorem dX1_goes_17 : decode cX1_goes 17 = .ok (.ifCond .ne 23, 3) := by decide +kernel
theorem dX1_goes_20 : decode cX1_goes 20 = .ok (.aload_n 1, 1) := by decide +kernel
theorem dX1_goes_21 : decode cX1_goes 21 = .ok (.getfield 61, 3) := by decide +kernel
theorem dX1_goes_24 : decode cX1_goes 24 = .ok (.iconst 1, 1) := by decide +kernel
theorem dX1_goes_25 : decode cX1_goes 25 = .ok (.isub, 1) := by decide +kernel
theorem dX1_goes_26 : decode cX1_goes 26 = .ok (.iload_n 3, 1) := by decide +kernel
theorem dX1_goes_27 : decode cX1_goes 27 = .ok (.aload_n 1, 1) := by decide +kernel
theorem dX1_goes_28 : decode cX1_goes 28 = .ok (.getfield 64, 3) := by decide +kernel
theorem dX1_goes_31 : decode cX1_goes 31 = .ok (.iload_n 2, 1) := by decide +kernel
theorem dX1_goes_32 : decode cX1_goes 32 = .ok (.iaload, 1) := by decide +kernel
theorem dX1_goes_33 : decode cX1_goes 33 = .ok (.iadd, 1) := by decide +kernel
theorem dX1_goes_34 : decode cX1_goes 34 = .ok (.invokestatic 67, 3) := by decide +kernel
theorem dX1_goes_37 : decode cX1_goes 37 = .ok (.goto 15, 3) := by decide +kernel
theorem dX1_goes_40 : decode cX1_goes 40 = .ok (.iconst 0, 1) := by decide +kernel
theorem dX1_goes_41 : decode cX1_goes 41 = .ok (.iload_n 3, 1) := by decide +kernel
theorem dX1_goes_42 : decode cX1_goes 42 = .ok (.aload_n 1, 1) := by decide +kernel
theorem dX1_goes_43 : decode cX1_goes 43 = .ok (.getfield 64, 3) := by decide +kernel
theorem dX1_goes_46 : decode cX1_goes 46 = .ok (.iload_n 2, 1) := by decide +kernel
theorem dX1_goes_47 : decode cX1_goes 47 = .ok (.iaload, 1) := by decide +kernel
theorem dX1_goes_48 : decode cX1_goes 48 = .ok (.isub, 1) := by decide +kernel
theorem dX1_goes_49 : decode cX1_goes 49 = .ok (.invokestatic 73, 3) := by decide +kernel
theorem dX1_goes_52 : decode cX1_goes 52 = .ok (.iastore, 1) := by decide +kernel
theorem dX1_goes_53 : decode cX1_goes 53 = .ok (.aload_n 0, 1) := by decide +kernel
theorem dX1_goes_54 : decode cX1_goes 54 = .ok (.getfield 9, 3) := by decide +kernel
theorem dX1_goes_57 : decode cX1_goes 57 = .ok (.iload_n 2, 1) := by decide +kernel
theorem dX1_goes_58 : decode cX1_goes 58 = .ok (.iaload, 1) := by decide +kernel
theorem dX1_goes_59 : decode cX1_goes 59 = .ok (.iload_n 3, 1) := by decide +kernel
theorem dX1_goes_60 : decode cX1_goes 60 = .ok (.if_icmp .eq 7, 3) := by decide +kernel
theorem dX1_goes_63 : decode cX1_goes 63 = .ok (.iconst 1, 1) := by decide +kernel
theorem dX1_goes_64 : decode cX1_goes 64 = .ok (.goto 4, 3) := by decide +kernel
theorem dX1_goes_67 : decode cX1_goes 67 = .ok (.iconst 0, 1) := by decide +kernel
theorem dX1_goes_68 : decode cX1_goes 68 = .ok (.ireturn, 1) := by decide +kernel
def w_X1_goes_52 (o : Nat) (a1 : Nat) (a2 : Int32) (post : Bool → mI → Prop) (I : mI) (v3 : Int32) (s1 : Int32) (s2 : Int32) : Prop := vp_in s1 6 ∧ ∀ I4, I4 = up2 I (o + 1) s1.toNatClampNeg s2 → vp_in a2 6 ∧ ((I4 (o + 1) a2.toNatClampNeg) = v3 → post false I4) ∧ (¬ (I4 (o + 1) a2.toNatClampNeg) = v3 → post true I4)
set_option maxRecDepth 100000 in
set_option maxHeartbeats 4000000 in
theorem s_X1_goes_52 {p : Program} {l : Launch} {e : Env} {s : State} {m : MethodId} {args : Array Value} {below : List Frame} {meth : Method} {c : Code} {D : va_G} {cA : Nat → ClassId} {Z : mZ} {bs : Ad} {n : Nat} {K : mK} {R : mR} {L : mL} (E : Ev p s m args c cX1_goes 4 RX1 D cA Z bs) (hr : meth.sig.returnType = (some .boolean)) (hlk : meth.locks = false) {o : Nat} {a1 : Nat} {a2 : Int32} (ho : isX1 K R o) (ha1 : isX3 K R a1) {post : Bool → mI → Prop} {I : mI} {v3 : Int32} {s1 : Int32} {s2 : Int32} {H : Heap} {locs : List Loc} {ls : Array Slot} (hw : w_X1_goes_52 o a1 a2 post I v3 s1 s2) (hM : mm D cA bs (n, K, R, I, L) H) (hS : va_S (Ab bs) s.heap H locs) (hl : lv_has ls 4 [(0, .ref (ad bs o)), (2, .int a2), (3, .int v3)]) : W p l e ({ frames := 1, cells := 0, slots := 0, locals := 40 } : Room) s m args below meth c H locs 0 0 (MQ below (QI D cA bs (fun r u => ∃ b, r = bI b ∧ ∃ I', u = (n, K, R, I', L) ∧ post b I')) args s 0 0 (Ab bs)) (F0 m 52 ls [.int s2, .int s1, .ref (ad bs (o + 1))]) := by
  have hx := E.1.1
  have hb := E.1.2.1
  obtain ⟨hv, hw⟩ := hw
  refine m_iast E hM hS (isO_at ho 0 rfl).2 hv dX1_goes_52 (fun I4 H locs eI4 hM hS => ?_)
  have hw := hw I4 eI4
  refine lv_aload_n hx hb dX1_goes_53 rfl (lv_at hl 0 rfl) ?_
  refine m_getr E hM fs_X1_9 ho.1 (isO_at ho 0 rfl).1 dX1_goes_54 ?_
  refine lv_iload_n hx hb dX1_goes_57 rfl (lv_at hl 1 rfl) ?_
  obtain ⟨hv, hw⟩ := hw
  refine m_iald E hM (isO_at ho 0 rfl).2 hv dX1_goes_58 ?_
  refine lv_iload_n hx hb dX1_goes_59 rfl (lv_at hl 2 rfl) ?_
  refine lv_icmp_eq (tgt := 67) hx hb dX1_goes_60 (by decide) (fun cq => ?_) (fun cq => ?_)
  · have hw := hw.1 cq
    refine lv_iconst (v := 0) hx hb dX1_goes_67 (by decide) ?_
    exact m_retz hx hb hr hlk (Or.inl rfl) hM hS ⟨false, rfl, _, rfl, hw⟩ dX1_goes_68
  · have hw := hw.2 cq
    refine lv_iconst (v := 1) hx hb dX1_goes_63 (by decide) ?_
    refine lv_goto (tgt := 68) hx hb dX1_goes_64 (by decide) ?_
    exact m_retz hx hb hr hlk (Or.inr rfl) hM hS ⟨true, rfl, _, rfl, hw⟩ dX1_goes_68
def w_X1_goes (I : mI) (o : Nat) (a1 : Nat) (a2 : Int32) (post : Bool → mI → Prop) : Prop := vp_in a2 6 ∧ ∀ x1, x1 = (I (o + 1) a2.toNatClampNeg) → w_X1_below I o 2 (fun r2 I3 => (¬ r2 = 0 → vp_in a2 6 ∧ (w_X1_goes_52 o a1 a2 post) I3 x1 a2 (imax 0 (x1 - (I3 (a1 + 6) a2.toNatClampNeg)))) ∧ (r2 = 0 → vp_in a2 6 ∧ (w_X1_goes_52 o a1 a2 post) I3 x1 a2 (imin ((I3 a1 0) - 1) (x1 + (I3 (a1 + 6) a2.toNatClampNeg)))))
set_option maxRecDepth 100000 in
set_option maxHeartbeats 4000000 in
theorem c_X1_goes {l : Launch} {D : va_G} {cA : Nat → ClassId} {Z : mZ} {bs : Ad} {n : Nat} {K : mK} {R : mR} {I : mI} {L : mL} {o : Nat} {a1 : Nat} {a2 : Int32} {post : Bool → mI → Prop} (ho : isX1 K R o) (ha1 : isX3 K R a1) (hw : w_X1_goes I o a1 a2 post) : Met l yX1_goes (.code yX1_goes cX1_goes 4 (some .boolean) :: gw) ({ frames := 1, cells := 0, slots := 0, locals := 40 } : Room) (PreM D cA Z bs (n, K, R, I, L) [.ref (ad bs o), .ref (ad bs a1), .int a2]) (QI D cA bs (fun r u => ∃ b, r = bI b ∧ ∃ I', u = (n, K, R, I', L) ∧ post b I')) 0 0 (Ab bs) := by
  refine m_met (by decide) (Nat.le_of_ble_eq_true rfl) (fun p e s m below meth c ls E hr hlk hM hS hl => ?_)
  have E : Ev p s m _ c cX1_goes 4 RX1 D cA Z bs := E
  have hl : lv_has ls 4 [(0, .ref (ad bs o)), (1, .ref (ad bs a1)), (2, .int a2)] := hl
  have hx := E.1.1
  have hb := E.1.2.1
  generalize hHe : s.heap = H at hM ⊢
  have hS : va_S (Ab bs) s.heap H [] := by rw [← hHe]; exact va_S.rf
  clear hHe
  refine lv_aload_n hx hb dX1_goes_0 rfl (lv_at hl 0 rfl) ?_
  refine m_getr E hM fs_X1_9 ho.1 (isO_at ho 0 rfl).1 dX1_goes_1 ?_
  refine lv_iload_n hx hb dX1_goes_4 rfl (lv_at hl 2 rfl) ?_
  obtain ⟨hv, hw⟩ := hw
  refine m_iald E hM (isO_at ho 0 rfl).2 hv dX1_goes_5 ?_
  refine lv_topi (fun x1 ex1 => ?_)
  have hw := hw x1 ex1
  refine lv_istore_n (lv' := [(3, .int x1), (0, .ref (ad bs o)), (1, .ref (ad bs a1)), (2, .int a2)]) hx hb dX1_goes_6 rfl hl (by decide) rfl (fun ls hl => ?_)
  refine lv_aload_n hx hb dX1_goes_7 rfl (lv_at hl 1 rfl) ?_
  refine m_getr E hM fs_X1_9 ho.1 (isO_at ho 0 rfl).1 dX1_goes_8 ?_
  refine lv_iload_n hx hb dX1_goes_11 rfl (lv_at hl 3 rfl) ?_
  refine lv_aload_n hx hb dX1_goes_12 rfl (lv_at hl 1 rfl) ?_
  refine lv_iconst (v := 2) hx hb dX1_goes_13 (by decide) ?_
  refine m_ci (m_runV E hM hS cs_X1_48 ho.1 (by decide) rfl rfl (c_X1_below ho hw) rfl rfl ⟨Nat.le_of_ble_eq_true rfl, Nat.le_of_ble_eq_true rfl⟩ rfl hl.1 rfl (Nat.le_of_ble_eq_true rfl) dX1_goes_14 ⟨Nat.le_of_ble_eq_true rfl, Nat.le_of_ble_eq_true rfl⟩) hS (fun r2 u H locs hp hM hS => ?_)
  obtain ⟨I3, rfl, hw⟩ := hp
  refine lv_if_ne (tgt := 40) hx hb dX1_goes_17 (by decide) (fun cq => ?_) (fun cq => ?_)
  · have hw := hw.1 cq
    refine lv_iconst (v := 0) hx hb dX1_goes_40 (by decide) ?_
    refine lv_iload_n hx hb dX1_goes_41 rfl (lv_at hl 0 rfl) ?_
    refine lv_aload_n hx hb dX1_goes_42 rfl (lv_at hl 2 rfl) ?_
    refine m_getr E hM fs_X1_64 ha1.1 (isO_at ha1 5 rfl).1 dX1_goes_43 ?_
    refine lv_iload_n hx hb dX1_goes_46 rfl (lv_at hl 3 rfl) ?_
    obtain ⟨hv, hw⟩ := hw
    refine m_iald E hM (isO_at ha1 5 rfl).2 hv dX1_goes_47 ?_
    refine lv_isub hx hb dX1_goes_48 ?_
    refine m_max E ml_X1_73 hl.1 (Nat.le_of_ble_eq_true rfl) (Nat.le_of_ble_eq_true rfl) (Nat.le_of_ble_eq_true rfl) (Nat.le_of_ble_eq_true rfl) dX1_goes_49 ?_
    exact s_X1_goes_52 E hr hlk ho ha1  hw hM hS (lv_sub hl [1, 3, 0] rfl)
  · have hw := hw.2 cq
    refine lv_aload_n hx hb dX1_goes_20 rfl (lv_at hl 2 rfl) ?_
    refine m_geti E hM fs_X1_61 ha1.1 dX1_goes_21 ?_
    refine lv_iconst (v := 1) hx hb dX1_goes_24 (by decide) ?_
    refine lv_isub hx hb dX1_goes_25 ?_
    refine lv_iload_n hx hb dX1_goes_26 rfl (lv_at hl 0 rfl) ?_
    refine lv_aload_n hx hb dX1_goes_27 rfl (lv_at hl 2 rfl) ?_
    refine m_getr E hM fs_X1_64 ha1.1 (isO_at ha1 5 rfl).1 dX1_goes_28 ?_
    refine lv_iload_n hx hb dX1_goes_31 rfl (lv_at hl 3 rfl) ?_
    obtain ⟨hv, hw⟩ := hw
    refine m_iald E hM (isO_at ha1 5 rfl).2 hv dX1_goes_32 ?_
    refine lv_iadd hx hb dX1_goes_33 ?_
    refine m_min E ml_X1_67 hl.1 (Nat.le_of_ble_eq_true rfl) (Nat.le_of_ble_eq_true rfl) (Nat.le_of_ble_eq_true rfl) (Nat.le_of_ble_eq_true rfl) dX1_goes_34 ?_
    refine lv_goto (tgt := 52) hx hb dX1_goes_37 (by decide) ?_
    exact s_X1_goes_52 E hr hlk ho ha1  hw hM hS (lv_sub hl [1, 3, 0] rfl)
theorem dX11_has_0 : decode cX11_has 0 = .ok (.iload_n 0, 1) := by decide +kernel
theorem dX11_has_1 : decode cX11_has 1 = .ok (.iload_n 1, 1) := by decide +kernel
theorem dX11_has_2 : decode cX11_has 2 = .ok (.ishr, 1) := by decide +kernel
theorem dX11_has_3 : decode cX11_has 3 = .ok (.iconst 1, 1) := by decide +kernel
theorem dX11_has_4 : decode cX11_has 4 = .ok (.iand, 1) := by decide +kernel
theorem dX11_has_5 : decode cX11_has 5 = .ok (.ifCond .eq 7, 3) := by decide +kernel
theorem dX11_has_8 : decode cX11_has 8 = .ok (.iconst 1, 1) := by decide +kernel
theorem dX11_has_9 : decode cX11_has 9 = .ok (.goto 4, 3) := by decide +kernel
theorem dX11_has_12 : decode cX11_has 12 = .ok (.iconst 0, 1) := by decide +kernel
theorem dX11_has_13 : decode cX11_has 13 = .ok (.ireturn, 1) := by decide +kernel
def w_X11_has (a1 : Int32) (a2 : Int32) (post : Bool → Prop) : Prop := (((a1 >>> (a2 &&& 31)) &&& 1) = 0 → post false) ∧ (¬ ((a1 >>> (a2 &&& 31)) &&& 1) = 0 → post true)
set_option maxRecDepth 100000 in
set_option maxHeartbeats 4000000 in
theorem c_X11_has {l : Launch} {D : va_G} {cA : Nat → ClassId} {Z : mZ} {bs : Ad} {n : Nat} {K : mK} {R : mR} {I : mI} {L : mL} {a1 : Int32} {a2 : Int32} {post : Bool → Prop}  (hw : w_X11_has a1 a2 post) : Met l yX11_has (.code yX11_has cX11_has 2 (some .boolean) :: gw) ({ frames := 0, cells := 0, slots := 0, locals := 0 } : Room) (PreM D cA Z bs (n, K, R, I, L) [.int a1, .int a2]) (QI D cA bs (fun r u => ∃ b, r = bI b ∧ u = (n, K, R, I, L) ∧ post b)) 0 0 (Ab bs) := by
  refine m_met (by decide) (Nat.le_of_ble_eq_true rfl) (fun p e s m below meth c ls E hr hlk hM hS hl => ?_)
  have E : Ev p s m _ c cX11_has 2 RX11 D cA Z bs := E
  have hl : lv_has ls 2 [(0, .int a1), (1, .int a2)] := hl
  have hx := E.1.1
  have hb := E.1.2.1
  generalize hHe : s.heap = H at hM ⊢
  have hS : va_S (Ab bs) s.heap H [] := by rw [← hHe]; exact va_S.rf
  clear hHe
  refine lv_iload_n hx hb dX11_has_0 rfl (lv_at hl 0 rfl) ?_
  refine lv_iload_n hx hb dX11_has_1 rfl (lv_at hl 1 rfl) ?_
  refine lv_ishr hx hb dX11_has_2 ?_
  refine lv_iconst (v := 1) hx hb dX11_has_3 (by decide) ?_
  refine lv_iand hx hb dX11_has_4 ?_
  refine lv_if_eq (tgt := 12) hx hb dX11_has_5 (by decide) (fun cq => ?_) (fun cq => ?_)
  · have hw := hw.1 cq
    refine lv_iconst (v := 0) hx hb dX11_has_12 (by decide) ?_
    exact m_retz hx hb hr hlk (Or.inl rfl) hM hS ⟨false, rfl, rfl, hw⟩ dX11_has_13
  · have hw := hw.2 cq
    refine lv_iconst (v := 1) hx hb dX11_has_8 (by decide) ?_
    refine lv_goto (tgt := 13) hx hb dX11_has_9 (by decide) ?_
    exact m_retz hx hb hr hlk (Or.inr rfl) hM hS ⟨true, rfl, rfl, hw⟩ dX11_has_13
theorem dX1_addTread_0 : decode cX1_addTread 0 = .ok (.aload_n 0, 1) := by decide +kernel
theorem dX1_addTread_1 : decode cX1_addTread 1 = .ok (.getfield 9, 3) := by decide +kernel
theorem dX1_addTread_4 : decode cX1_addTread 4 = .ok (.iload_n 2, 1) := by decide +kernel
theorem dX1_addTread_5 : decode cX1_addTread 5 = .ok (.iaload, 1) := by decide +kernel
theorem dX1_addTread_6 : decode cX1_addTread 6 = .ok (.istore 4, 2) := by decide +kernel
theorem dX1_addTread_8 : decode cX1_addTread 8 = .ok (.aload_n 1, 1) := by decide +kernel
theorem dX1_addTread_9 : decode cX1_addTread 9 = .ok (.getfield 37, 3) := by decide +kernel
theorem dX1_addTread_12 : decode cX1_addTread 12 = .ok (.iload_n 2, 1) := by decide +kernel
theorem dX1_addTread_13 : decode cX1_addTread 13 = .ok (.iload 4, 2) := by decide +kernel
theorem dX1_addTread_15 : decode cX1_addTread 15 = .ok (.aload_n 1, 1) := by decide +kernel
theorem dX1_addTread_16 : decode cX1_addTread 16 = .ok (.getfield 37, 3) := by decide +kernel
theorem dX1_addTread_19 : decode cX1_addTread 19 = .ok (.iload_n 2, 1) := by decide +kernel
theorem dX1_addTread_20 : decode cX1_addTread 20 = .ok (.iload_n 3, 1) := by decide +kernel
theorem dX1_addTread_21 : decode cX1_addTread 21 = .ok (.invokevirtual 76, 3) := by decide +kernel
theorem dX1_addTread_24 : decode cX1_addTread 24 = .ok (.invokevirtual 79, 3) := by decide +kernel
theorem dX1_addTread_27 : decode cX1_addTread 27 = .ok (.istore 5, 2) := by decide +kernel
theorem dX1_addTread_29 : decode cX1_addTread 29 = .ok (.aload_n 1, 1) := by decide +kernel
theorem dX1_addTread_30 : decode cX1_addTread 30 = .ok (.iload 4, 2) := by decide +kernel
theorem dX1_addTread_32 : decode cX1_addTread 32 = .ok (.iload 5, 2) := by decide +kernel
theorem dX1_addTread_34 : decode cX1_addTread 34 = .ok (.invokevirtual 83, 3) := by decide +kernel
theorem dX1_addTread_37 : decode cX1_addTread 37 = .ok (.istore 6, 2) := by decide +kernel
theorem dX1_addTread_39 : decode cX1_addTread 39 = .ok (.aload_n 0, 1) := by decide +kernel
theorem dX1_addTread_40 : decode cX1_addTread 40 = .ok (.getfield 18, 3) := by decide +kernel
theorem dX1_addTread_43 : decode cX1_addTread 43 = .ok (.iload 4, 2) := by decide +kernel
theorem dX1_addTread_45 : decode cX1_addTread 45 = .ok (.iaload, 1) := by decide +kernel
theorem dX1_addTread_46 : decode cX1_addTread 46 = .ok (.iconst (-1), 1) := by decide +kernel
theorem dX1_addTread_47 : decode cX1_addTread 47 = .ok (.if_icmp .eq 42, 3) := by decide +kernel
theorem dX1_addTread_50 : decode cX1_addTread 50 = .ok (.iload_n 3, 1) := by decide +kernel
theorem dX1_addTread_51 : decode cX1_addTread 51 = .ok (.aload_n 0, 1) := by decide +kernel
theorem dX1_addTread_52 : decode cX1_addTread 52 = .ok (.getfield 18, 3) := by decide +kernel
theorem dX1_addTread_55 : decode cX1_addTread 55 = .ok (.iload 4, 2) := by decide +kernel
theorem dX1_addTread_57 : decode cX1_addTread 57 = .ok (.iaload, 1) := by decide +kernel
theorem dX1_addTread_58 : decode cX1_addTread 58 = .ok (.isub, 1) := by decide +kernel
theorem dX1_addTread_59 : decode cX1_addTread 59 = .ok (.aload_n 1, 1) := by decide +kernel
theorem dX1_addTread_60 : decode cX1_addTread 60 = .ok (.getfield 37, 3) := by decide +kernel
theorem dX1_addTread_63 : decode cX1_addTread 63 = .ok (.getfield 86, 3) := by decide +kernel
theorem dX1_addTread_66 : decode cX1_addTread 66 = .ok (.if_icmp .gt 23, 3) := by decide +kernel
theorem dX1_addTread_69 : decode cX1_addTread 69 = .ok (.iload 6, 2) := by decide +kernel
theorem dX1_addTread_71 : decode cX1_addTread 71 = .ok (.aload_n 1, 1) := by decide +kernel
theorem dX1_addTread_72 : decode cX1_addTread 72 = .ok (.iload 4, 2) := by decide +kernel
theorem dX1_addTread_74 : decode cX1_addTread 74 = .ok (.aload_n 0, 1) := by decide +kernel
theorem dX1_addTread_75 : decode cX1_addTread 75 = .ok (.getfield 21, 3) := by decide +kernel
theorem dX1_addTread_78 : decode cX1_addTread 78 = .ok (.iload 4, 2) := by decide +kernel
theorem dX1_addTread_80 : decode cX1_addTread 80 = .ok (.iaload, 1) := by decide +kernel
theorem dX1_addTread_81 : decode cX1_addTread 81 = .ok (.iconst 2, 1) := by decide +kernel
theorem dX1_addTread_82 : decode cX1_addTread 82 = .ok (.idiv, 1) := by decide +kernel
theorem dX1_addTread_83 : decode cX1_addTread 83 = .ok (.invokevirtual 83, 3) := by decide +kernel
theorem dX1_addTread_86 : decode cX1_addTread 86 = .ok (.ior, 1) := by decide +kernel
theorem dX1_addTread_87 : decode cX1_addTread 87 = .ok (.istore 6, 2) := by decide +kernel
theorem dX1_addTread_89 : decode cX1_addTread 89 = .ok (.iconst 0, 1) := by decide +kernel
theorem dX1_addTread_90 : decode cX1_addTread 90 = .ok (.istore 7, 2) := by decide +kernel
theorem dX1_addTread_92 : decode cX1_addTread 92 = .ok (.iload 7, 2) := by decide +kernel
theorem dX1_addTread_94 : decode cX1_addTread 94 = .ok (.aload_n 1, 1) := by decide +kernel
theorem dX1_addTread_95 : decode cX1_addTread 95 = .ok (.getfield 37, 3) := by decide +kernel
theorem dX1_addTread_98 : decode cX1_addTread 98 = .ok (.getfield 89, 3) := by decide +kernel
theorem dX1_addTread_101 : decode cX1_addTread 101 = .ok (.if_icmp .ge 30, 3) := by decide +kernel
theorem dX1_addTread_104 : decode cX1_addTread 104 = .ok (.iload 6, 2) := by decide +kernel
theorem dX1_addTread_106 : decode cX1_addTread 106 = .ok (.iload 7, 2) := by decide +kernel
theorem dX1_addTread_108 : decode cX1_addTread 108 = .ok (.invokestatic 92, 3) := by decide +kernel
theorem dX1_addTread_111 : decode cX1_addTread 111 = .ok (.ifCond .eq 14, 3) := by decide +kernel
theorem dX1_addTread_114 : decode cX1_addTread 114 = .ok (.aload_n 0, 1) := by decide +kernel
theorem dX1_addTread_115 : decode cX1_addTread 115 = .ok (.getfield 15, 3) := by decide +kernel
theorem dX1_addTread_118 : decode cX1_addTread 118 = .ok (.iload 7, 2) := by decide +kernel
theorem dX1_addTread_120 : decode cX1_addTread 120 = .ok (.dup2, 1) := by decide +kernel
theorem dX1_addTread_121 : decode cX1_addTread 121 = .ok (.iaload, 1) := by decide +kernel
theorem dX1_addTread_122 : decode cX1_addTread 122 = .ok (.iconst 1, 1) := by decide +kernel
theorem dX1_addTread_123 : decode cX1_addTread 123 = .ok (.iadd, 1) := by decide +kernel
theorem dX1_addTread_124 : decode cX1_addTread 124 = .ok (.iastore, 1) := by decide +kernel
theorem dX1_addTread_125 : decode cX1_addTread 125 = .ok (.iinc 7 1, 3) := by decide +kernel
theorem dX1_addTread_128 : decode cX1_addTread 128 = .ok (.goto (-36), 3) := by decide +kernel
theorem dX1_addTread_131 : decode cX1_addTread 131 = .ok (.aload_n 0, 1) := by decide +kernel
theorem dX1_addTread_132 : decode cX1_addTread 132 = .ok (.getfield 18, 3) := by decide +kernel
theorem dX1_addTread_135 : decode cX1_addTread 135 = .ok (.iload 4, 2) := by decide +kernel
theorem dX1_addTread_137 : decode cX1_addTread 137 = .ok (.iload_n 3, 1) := by decide +kernel
theorem dX1_addTread_138 : decode cX1_addTread 138 = .ok (.iastore, 1) := by decide +kernel
theorem dX1_addTread_139 : decode cX1_addTread 139 = .ok (.aload_n 0, 1) := by decide +kernel
theorem dX1_addTread_140 : decode cX1_addTread 140 = .ok (.getfield 21, 3) := by decide +kernel
theorem dX1_addTread_143 : decode cX1_addTread 143 = .ok (.iload 4, 2) := by decide +kernel
theorem dX1_addTread_145 : decode cX1_addTread 145 = .ok (.iload 5, 2) := by decide +kernel
theorem dX1_addTread_147 : decode cX1_addTread 147 = .ok (.iastore, 1) := by decide +kernel
theorem dX1_addTread_148 : decode cX1_addTread 148 = .ok (.aload_n 0, 1) := by decide +kernel
theorem dX1_addTread_149 : decode cX1_addTread 149 = .ok (.dup, 1) := by decide +kernel
theorem dX1_addTread_150 : decode cX1_addTread 150 = .ok (.getfield 28, 3) := by decide +kernel
theorem dX1_addTread_153 : decode cX1_addTread 153 = .ok (.iconst 1, 1) := by decide +kernel
theorem dX1_addTread_154 : decode cX1_addTread 154 = .ok (.iadd, 1) := by decide +kernel
theorem dX1_addTread_155 : decode cX1_addTread 155 = .ok (.putfield 28, 3) := by decide +kernel
theorem dX1_addTread_158 : decode cX1_addTread 158 = .ok (.return_, 1) := by decide +kernel
def w_X1_addTread_92 (o : Nat) (a1 : Nat) (a1h : Nat) (a2 : Int32) (a3 : Int32) (post : mI → Prop) (k131 : mI → Int32 → Int32 → Prop) (I : mI) (v4 : Int32) (v5 : Int32) (v6 : Int32) (v7 : Int32) : Prop := ∀ ZZ : (mI → Int32 → Int32 → Int32 → Int32 → Prop), (∀ (I : mI) (v4 : Int32) (v5 : Int32) (v6 : Int32) (v7 : Int32), (((I a1h 2) ≤ v7 → k131 I v4 v5) ∧ (¬ (I a1h 2) ≤ v7 → w_X11_has v6 v7 (fun b7 => (b7 = false → ∀ x8, x8 = v7 + 1 → ZZ I v4 v5 v6 x8) ∧ (b7 = true → vp_in v7 6 ∧ vp_in v7 6 ∧ ∀ I9, I9 = up2 I (o + 2) v7.toNatClampNeg ((I (o + 2) v7.toNatClampNeg) + 1) → ∀ x10, x10 = v7 + 1 → ZZ I9 v4 v5 v6 x10)))) → ZZ I v4 v5 v6 v7) → ZZ I v4 v5 v6 v7
set_option maxRecDepth 100000 in
set_option maxHeartbeats 4000000 in
theorem s_X1_addTread_92 {p : Program} {l : Launch} {e : Env} {s : State} {m : MethodId} {args : Array Value} {below : List Frame} {meth : Method} {c : Code} {D : va_G} {cA : Nat → ClassId} {Z : mZ} {bs : Ad} {n : Nat} {K : mK} {R : mR} {L : mL} (E : Ev p s m args c cX1_addTread 8 RX1 D cA Z bs) (hr : meth.sig.returnType = none) (hlk : meth.locks = false) {o : Nat} {a1 : Nat} {a1h : Nat} {a2 : Int32} {a3 : Int32} (ho : isX1 K R o) (ha1 : isX2 K R a1 a1h) {post : mI → Prop} {k131 : mI → Int32 → Int32 → Prop} (hk131 : ∀ (I : mI) (v4 : Int32) (v5 : Int32) (H : Heap) (locs : List Loc) (ls : Array Slot), k131 I v4 v5 → mm D cA bs (n, K, R, I, L) H → va_S (Ab bs) s.heap H locs → lv_has ls 8 [(0, .ref (ad bs o)), (3, .int a3), (4, .int v4), (5, .int v5)] → W p l e ({ frames := 2, cells := 0, slots := 0, locals := 63 } : Room) s m args below meth c H locs 0 0 (MQ below (QV D cA bs (fun u => ∃ I', u = (n, K, R, I', L) ∧ post I')) args s 0 0 (Ab bs)) (F0 m 131 ls [])) {I : mI} {v4 : Int32} {v5 : Int32} {v6 : Int32} {v7 : Int32} {H : Heap} {locs : List Loc} {ls : Array Slot} (hw : w_X1_addTread_92 o a1 a1h a2 a3 post k131 I v4 v5 v6 v7) (hM : mm D cA bs (n, K, R, I, L) H) (hS : va_S (Ab bs) s.heap H locs) (hl : lv_has ls 8 [(0, .ref (ad bs o)), (1, .ref (ad bs a1)), (3, .int a3), (4, .int v4), (5, .int v5), (6, .int v6), (7, .int v7)]) : W p l e ({ frames := 2, cells := 0, slots := 0, locals := 63 } : Room) s m args below meth c H locs 0 0 (MQ below (QV D cA bs (fun u => ∃ I', u = (n, K, R, I', L) ∧ post I')) args s 0 0 (Ab bs)) (F0 m 92 ls []) := by
  have hx := E.1.1
  have hb := E.1.2.1
  refine hw (fun I v4 v5 v6 v7 => ∀ (H : Heap) (locs : List Loc) (ls : Array Slot), mm D cA bs (n, K, R, I, L) H → va_S (Ab bs) s.heap H locs → lv_has ls 8 [(0, .ref (ad bs o)), (1, .ref (ad bs a1)), (3, .int a3), (4, .int v4), (5, .int v5), (6, .int v6), (7, .int v7)] → W p l e ({ frames := 2, cells := 0, slots := 0, locals := 63 } : Room) s m args below meth c H locs 0 0 (MQ below (QV D cA bs (fun u => ∃ I', u = (n, K, R, I', L) ∧ post I')) args s 0 0 (Ab bs)) (F0 m 92 ls [])) ?_ H locs ls hM hS hl
  clear hw hM hS hl
  intro I v4 v5 v6 v7 hw H locs ls hM hS hl
  refine lv_iload hx hb dX1_addTread_92 (lv_at hl 6 rfl) ?_
  refine lv_aload_n hx hb dX1_addTread_94 rfl (lv_at hl 1 rfl) ?_
  refine m_getr E hM fs_X1_37 ha1.1.1 ha1.2.1 dX1_addTread_95 ?_
  refine m_geti E hM fs_X1_89 ha1.2.2.1 dX1_addTread_98 ?_
  refine lv_icmp_ge (tgt := 131) hx hb dX1_addTread_101 (by decide) (fun cq => ?_) (fun cq => ?_)
  · have hw := hw.1 cq
    exact hk131 _ _ _ H locs ls  hw hM hS (lv_sub hl [0, 2, 3, 4] rfl)
  · have hw := hw.2 cq
    refine lv_iload hx hb dX1_addTread_104 (lv_at hl 5 rfl) ?_
    refine lv_iload hx hb dX1_addTread_106 (lv_at hl 6 rfl) ?_
    refine m_ci (m_runSN E hM hS cs_X1_92 (c_X11_has  hw) rfl rfl ⟨Nat.le_of_ble_eq_true rfl, Nat.le_of_ble_eq_true rfl⟩ rfl hl.1 rfl (Nat.le_of_ble_eq_true rfl) dX1_addTread_108 ⟨Nat.le_of_ble_eq_true rfl, Nat.le_of_ble_eq_true rfl⟩) hS (fun r9 u H locs hp hM hS => ?_)
    obtain ⟨b7, rfl, rfl, hw⟩ := hp
    refine lv_if_eq (tgt := 125) hx hb dX1_addTread_111 (by decide) (fun cq => ?_) (fun cq => ?_)
    · have hw := hw.1 (bI_f cq)
      obtain ⟨x8, ex8⟩ : ∃ y : Int32, y = v7 + 1 := ⟨_, rfl⟩
      have hw := hw x8 ex8
      refine lv_iinc (v := x8) (lv' := [(7, .int x8), (0, .ref (ad bs o)), (1, .ref (ad bs a1)), (3, .int a3), (4, .int v4), (5, .int v5), (6, .int v6)]) hx hb dX1_addTread_125 hl (k := 6) rfl (by rw [ex8]; rfl) (by decide) rfl (fun ls hl => ?_)
      refine lv_goto (tgt := 92) hx hb dX1_addTread_128 (by decide) ?_
      exact hw H locs ls  hM hS (lv_sub hl [1, 2, 3, 4, 5, 6, 0] rfl)
    · have hw := hw.2 (bI_t cq)
      refine lv_aload_n hx hb dX1_addTread_114 rfl (lv_at hl 0 rfl) ?_
      refine m_getr E hM fs_X1_15 ho.1 (isO_at ho 1 rfl).1 dX1_addTread_115 ?_
      refine lv_iload hx hb dX1_addTread_118 (lv_at hl 6 rfl) ?_
      refine lv_dup2_11 hx hb dX1_addTread_120 rfl rfl ?_
      obtain ⟨hv, hw⟩ := hw
      refine m_iald E hM (isO_at ho 1 rfl).2 hv dX1_addTread_121 ?_
      refine lv_iconst (v := 1) hx hb dX1_addTread_122 (by decide) ?_
      refine lv_iadd hx hb dX1_addTread_123 ?_
      obtain ⟨hv, hw⟩ := hw
      refine m_iast E hM hS (isO_at ho 1 rfl).2 hv dX1_addTread_124 (fun I9 H locs eI9 hM hS => ?_)
      have hw := hw I9 eI9
      obtain ⟨x10, ex10⟩ : ∃ y : Int32, y = v7 + 1 := ⟨_, rfl⟩
      have hw := hw x10 ex10
      refine lv_iinc (v := x10) (lv' := [(7, .int x10), (0, .ref (ad bs o)), (1, .ref (ad bs a1)), (3, .int a3), (4, .int v4), (5, .int v5), (6, .int v6)]) hx hb dX1_addTread_125 hl (k := 6) rfl (by rw [ex10]; rfl) (by decide) rfl (fun ls hl => ?_)
      refine lv_goto (tgt := 92) hx hb dX1_addTread_128 (by decide) ?_
      exact hw H locs ls  hM hS (lv_sub hl [1, 2, 3, 4, 5, 6, 0] rfl)
def w_X1_addTread_131 (o : Nat) (a1 : Nat) (a1h : Nat) (a2 : Int32) (a3 : Int32) (post : mI → Prop) (I : mI) (v4 : Int32) (v5 : Int32) : Prop := vp_in v4 24 ∧ ∀ I11, I11 = up2 I (o + 3) v4.toNatClampNeg a3 → vp_in v4 24 ∧ ∀ I12, I12 = up2 I11 (o + 4) v4.toNatClampNeg v5 → ∀ I13, I13 = up2 I12 o 0 ((I12 o 0) + 1) → post I13
set_option maxRecDepth 100000 in
set_option maxHeartbeats 4000000 in
theorem s_X1_addTread_131 {p : Program} {l : Launch} {e : Env} {s : State} {m : MethodId} {args : Array Value} {below : List Frame} {meth : Method} {c : Code} {D : va_G} {cA : Nat → ClassId} {Z : mZ} {bs : Ad} {n : Nat} {K : mK} {R : mR} {L : mL} (E : Ev p s m args c cX1_addTread 8 RX1 D cA Z bs) (hr : meth.sig.returnType = none) (hlk : meth.locks = false) {o : Nat} {a1 : Nat} {a1h : Nat} {a2 : Int32} {a3 : Int32} (ho : isX1 K R o) (ha1 : isX2 K R a1 a1h) {post : mI → Prop} {I : mI} {v4 : Int32} {v5 : Int32} {H : Heap} {locs : List Loc} {ls : Array Slot} (hw : w_X1_addTread_131 o a1 a1h a2 a3 post I v4 v5) (hM : mm D cA bs (n, K, R, I, L) H) (hS : va_S (Ab bs) s.heap H locs) (hl : lv_has ls 8 [(0, .ref (ad bs o)), (3, .int a3), (4, .int v4), (5, .int v5)]) : W p l e ({ frames := 2, cells := 0, slots := 0, locals := 63 } : Room) s m args below meth c H locs 0 0 (MQ below (QV D cA bs (fun u => ∃ I', u = (n, K, R, I', L) ∧ post I')) args s 0 0 (Ab bs)) (F0 m 131 ls []) := by
  have hx := E.1.1
  have hb := E.1.2.1
  refine lv_aload_n hx hb dX1_addTread_131 rfl (lv_at hl 0 rfl) ?_
  refine m_getr E hM fs_X1_18 ho.1 (isO_at ho 2 rfl).1 dX1_addTread_132 ?_
  refine lv_iload hx hb dX1_addTread_135 (lv_at hl 2 rfl) ?_
  refine lv_iload_n hx hb dX1_addTread_137 rfl (lv_at hl 1 rfl) ?_
  obtain ⟨hv, hw⟩ := hw
  refine m_iast E hM hS (isO_at ho 2 rfl).2 hv dX1_addTread_138 (fun I11 H locs eI11 hM hS => ?_)
  have hw := hw I11 eI11
  refine lv_aload_n hx hb dX1_addTread_139 rfl (lv_at hl 0 rfl) ?_
  refine m_getr E hM fs_X1_21 ho.1 (isO_at ho 3 rfl).1 dX1_addTread_140 ?_
  refine lv_iload hx hb dX1_addTread_143 (lv_at hl 2 rfl) ?_
  refine lv_iload hx hb dX1_addTread_145 (lv_at hl 3 rfl) ?_
  obtain ⟨hv, hw⟩ := hw
  refine m_iast E hM hS (isO_at ho 3 rfl).2 hv dX1_addTread_147 (fun I12 H locs eI12 hM hS => ?_)
  have hw := hw I12 eI12
  refine lv_aload_n hx hb dX1_addTread_148 rfl (lv_at hl 0 rfl) ?_
  refine lv_dup hx hb dX1_addTread_149 rfl ?_
  refine m_geti E hM fs_X1_28 ho.1 dX1_addTread_150 ?_
  refine lv_iconst (v := 1) hx hb dX1_addTread_153 (by decide) ?_
  refine lv_iadd hx hb dX1_addTread_154 ?_
  refine m_puti E hM hS fp_X1_28 ho.1 rfl rfl dX1_addTread_155 (fun I13 H locs eI13 hM hS => ?_)
  have hw := hw I13 eI13
  exact m_retv hx hb hr hlk hM hS ⟨_, rfl, hw⟩ dX1_addTread_158
def w_X1_addTread (I : mI) (o : Nat) (a1 : Nat) (a1h : Nat) (a2 : Int32) (a3 : Int32) (post : mI → Prop) : Prop := vp_in a2 6 ∧ ∀ x1, x1 = (I (o + 1) a2.toNatClampNeg) → w_X3_shoeAt I a1h a2 a3 (fun r2 => w_X3_loudOf I a1h a2 x1 r2 (fun r3 => w_X2_hearers I a1 a1h x1 r3 (fun r4 => vp_in x1 24 ∧ ((I (o + 3) x1.toNatClampNeg) = (-1) → (w_X1_addTread_92 o a1 a1h a2 a3 post (w_X1_addTread_131 o a1 a1h a2 a3 post)) I x1 r3 r4 0) ∧ (¬ (I (o + 3) x1.toNatClampNeg) = (-1) → vp_in x1 24 ∧ ((I a1h 1) < (a3 - (I (o + 3) x1.toNatClampNeg)) → (w_X1_addTread_92 o a1 a1h a2 a3 post (w_X1_addTread_131 o a1 a1h a2 a3 post)) I x1 r3 r4 0) ∧ (¬ (I a1h 1) < (a3 - (I (o + 3) x1.toNatClampNeg)) → vp_in x1 24 ∧ w_X2_hearers I a1 a1h x1 ((I (o + 4) x1.toNatClampNeg) / 2) (fun r5 => ∀ x6, x6 = (r4 ||| r5) → (w_X1_addTread_92 o a1 a1h a2 a3 post (w_X1_addTread_131 o a1 a1h a2 a3 post)) I x1 r3 x6 0))))))
set_option maxRecDepth 100000 in
set_option maxHeartbeats 4000000 in
theorem c_X1_addTread {l : Launch} {D : va_G} {cA : Nat → ClassId} {Z : mZ} {bs : Ad} {n : Nat} {K : mK} {R : mR} {I : mI} {L : mL} {o : Nat} {a1 : Nat} {a1h : Nat} {a2 : Int32} {a3 : Int32} {post : mI → Prop} (ho : isX1 K R o) (ha1 : isX2 K R a1 a1h) (hw : w_X1_addTread I o a1 a1h a2 a3 post) : Met l yX1_addTread (.code yX1_addTread cX1_addTread 8 none :: gw) ({ frames := 2, cells := 0, slots := 0, locals := 63 } : Room) (PreM D cA Z bs (n, K, R, I, L) [.ref (ad bs o), .ref (ad bs a1), .int a2, .int a3]) (QV D cA bs (fun u => ∃ I', u = (n, K, R, I', L) ∧ post I')) 0 0 (Ab bs) := by
  refine m_met (by decide) (Nat.le_of_ble_eq_true rfl) (fun p e s m below meth c ls E hr hlk hM hS hl => ?_)
  have E : Ev p s m _ c cX1_addTread 8 RX1 D cA Z bs := E
  have hl : lv_has ls 8 [(0, .ref (ad bs o)), (1, .ref (ad bs a1)), (2, .int a2), (3, .int a3)] := hl
  have hx := E.1.1
  have hb := E.1.2.1
  generalize hHe : s.heap = H at hM ⊢
  have hS : va_S (Ab bs) s.heap H [] := by rw [← hHe]; exact va_S.rf
  clear hHe
  refine lv_aload_n hx hb dX1_addTread_0 rfl (lv_at hl 0 rfl) ?_
  refine m_getr E hM fs_X1_9 ho.1 (isO_at ho 0 rfl).1 dX1_addTread_1 ?_
  refine lv_iload_n hx hb dX1_addTread_4 rfl (lv_at hl 2 rfl) ?_
  obtain ⟨hv, hw⟩ := hw
  refine m_iald E hM (isO_at ho 0 rfl).2 hv dX1_addTread_5 ?_
  refine lv_topi (fun x1 ex1 => ?_)
  have hw := hw x1 ex1
  refine lv_istore (lv' := [(4, .int x1), (0, .ref (ad bs o)), (1, .ref (ad bs a1)), (2, .int a2), (3, .int a3)]) hx hb dX1_addTread_6 hl (by decide) rfl (fun ls hl => ?_)
  refine lv_aload_n hx hb dX1_addTread_8 rfl (lv_at hl 2 rfl) ?_
  refine m_getr E hM fs_X1_37 ha1.1.1 ha1.2.1 dX1_addTread_9 ?_
  refine lv_iload_n hx hb dX1_addTread_12 rfl (lv_at hl 3 rfl) ?_
  refine lv_iload hx hb dX1_addTread_13 (lv_at hl 0 rfl) ?_
  refine lv_aload_n hx hb dX1_addTread_15 rfl (lv_at hl 2 rfl) ?_
  refine m_getr E hM fs_X1_37 ha1.1.1 ha1.2.1 dX1_addTread_16 ?_
  refine lv_iload_n hx hb dX1_addTread_19 rfl (lv_at hl 3 rfl) ?_
  refine lv_iload_n hx hb dX1_addTread_20 rfl (lv_at hl 4 rfl) ?_
  refine m_ci (m_runV E hM hS cs_X1_76 ha1.2.2.1 (by decide) rfl rfl (c_X3_shoeAt ha1.2.2 hw) rfl rfl ⟨Nat.le_of_ble_eq_true rfl, Nat.le_of_ble_eq_true rfl⟩ rfl hl.1 rfl (Nat.le_of_ble_eq_true rfl) dX1_addTread_21 ⟨Nat.le_of_ble_eq_true rfl, Nat.le_of_ble_eq_true rfl⟩) hS (fun r2 u H locs hp hM hS => ?_)
  obtain ⟨rfl, hw⟩ := hp
  refine m_ci (m_runV E hM hS cs_X1_79 ha1.2.2.1 (by decide) rfl rfl (c_X3_loudOf ha1.2.2 hw) rfl rfl ⟨Nat.le_of_ble_eq_true rfl, Nat.le_of_ble_eq_true rfl⟩ rfl hl.1 rfl (Nat.le_of_ble_eq_true rfl) dX1_addTread_24 ⟨Nat.le_of_ble_eq_true rfl, Nat.le_of_ble_eq_true rfl⟩) hS (fun r3 u H locs hp hM hS => ?_)
  obtain ⟨rfl, hw⟩ := hp
  refine lv_istore (lv' := [(5, .int r3), (4, .int x1), (0, .ref (ad bs o)), (1, .ref (ad bs a1)), (2, .int a2), (3, .int a3)]) hx hb dX1_addTread_27 hl (by decide) rfl (fun ls hl => ?_)
  refine lv_aload_n hx hb dX1_addTread_29 rfl (lv_at hl 3 rfl) ?_
  refine lv_iload hx hb dX1_addTread_30 (lv_at hl 1 rfl) ?_
  refine lv_iload hx hb dX1_addTread_32 (lv_at hl 0 rfl) ?_
  refine m_ci (m_runV E hM hS cs_X1_83 ha1.1.1 (by decide) rfl rfl (c_X2_hearers ha1 hw) rfl rfl ⟨Nat.le_of_ble_eq_true rfl, Nat.le_of_ble_eq_true rfl⟩ rfl hl.1 rfl (Nat.le_of_ble_eq_true rfl) dX1_addTread_34 ⟨Nat.le_of_ble_eq_true rfl, Nat.le_of_ble_eq_true rfl⟩) hS (fun r4 u H locs hp hM hS => ?_)
  obtain ⟨rfl, hw⟩ := hp
  refine lv_istore (lv' := [(6, .int r4), (5, .int r3), (4, .int x1), (0, .ref (ad bs o)), (1, .ref (ad bs a1)), (2, .int a2), (3, .int a3)]) hx hb dX1_addTread_37 hl (by decide) rfl (fun ls hl => ?_)
  refine lv_aload_n hx hb dX1_addTread_39 rfl (lv_at hl 3 rfl) ?_
  refine m_getr E hM fs_X1_18 ho.1 (isO_at ho 2 rfl).1 dX1_addTread_40 ?_
  refine lv_iload hx hb dX1_addTread_43 (lv_at hl 2 rfl) ?_
  obtain ⟨hv, hw⟩ := hw
  refine m_iald E hM (isO_at ho 2 rfl).2 hv dX1_addTread_45 ?_
  refine lv_iconst (v := (-1)) hx hb dX1_addTread_46 (by decide) ?_
  refine lv_icmp_eq (tgt := 89) hx hb dX1_addTread_47 (by decide) (fun cq => ?_) (fun cq => ?_)
  · have hw := hw.1 cq
    refine lv_iconst (v := 0) hx hb dX1_addTread_89 (by decide) ?_
    refine lv_istore (lv' := [(7, .int 0), (6, .int r4), (5, .int r3), (4, .int x1), (0, .ref (ad bs o)), (1, .ref (ad bs a1)), (2, .int a2), (3, .int a3)]) hx hb dX1_addTread_90 hl (by decide) rfl (fun ls hl => ?_)
    exact s_X1_addTread_92 E hr hlk ho ha1 (fun I v4 v5 H locs ls  hw hM hS hl => s_X1_addTread_131 E hr hlk ho ha1  hw hM hS hl)  hw hM hS (lv_sub hl [4, 5, 7, 3, 2, 1, 0] rfl)
  · have hw := hw.2 cq
    refine lv_iload_n hx hb dX1_addTread_50 rfl (lv_at hl 6 rfl) ?_
    refine lv_aload_n hx hb dX1_addTread_51 rfl (lv_at hl 3 rfl) ?_
    refine m_getr E hM fs_X1_18 ho.1 (isO_at ho 2 rfl).1 dX1_addTread_52 ?_
    refine lv_iload hx hb dX1_addTread_55 (lv_at hl 2 rfl) ?_
    obtain ⟨hv, hw⟩ := hw
    refine m_iald E hM (isO_at ho 2 rfl).2 hv dX1_addTread_57 ?_
    refine lv_isub hx hb dX1_addTread_58 ?_
    refine lv_aload_n hx hb dX1_addTread_59 rfl (lv_at hl 4 rfl) ?_
    refine m_getr E hM fs_X1_37 ha1.1.1 ha1.2.1 dX1_addTread_60 ?_
    refine m_geti E hM fs_X1_86 ha1.2.2.1 dX1_addTread_63 ?_
    refine lv_icmp_gt (tgt := 89) hx hb dX1_addTread_66 (by decide) (fun cq => ?_) (fun cq => ?_)
    · have hw := hw.1 cq
      refine lv_iconst (v := 0) hx hb dX1_addTread_89 (by decide) ?_
      refine lv_istore (lv' := [(7, .int 0), (6, .int r4), (5, .int r3), (4, .int x1), (0, .ref (ad bs o)), (1, .ref (ad bs a1)), (2, .int a2), (3, .int a3)]) hx hb dX1_addTread_90 hl (by decide) rfl (fun ls hl => ?_)
      exact s_X1_addTread_92 E hr hlk ho ha1 (fun I v4 v5 H locs ls  hw hM hS hl => s_X1_addTread_131 E hr hlk ho ha1  hw hM hS hl)  hw hM hS (lv_sub hl [4, 5, 7, 3, 2, 1, 0] rfl)
    · have hw := hw.2 cq
      refine lv_iload hx hb dX1_addTread_69 (lv_at hl 0 rfl) ?_
      refine lv_aload_n hx hb dX1_addTread_71 rfl (lv_at hl 4 rfl) ?_
      refine lv_iload hx hb dX1_addTread_72 (lv_at hl 2 rfl) ?_
      refine lv_aload_n hx hb dX1_addTread_74 rfl (lv_at hl 3 rfl) ?_
      refine m_getr E hM fs_X1_21 ho.1 (isO_at ho 3 rfl).1 dX1_addTread_75 ?_
      refine lv_iload hx hb dX1_addTread_78 (lv_at hl 2 rfl) ?_
      obtain ⟨hv, hw⟩ := hw
      refine m_iald E hM (isO_at ho 3 rfl).2 hv dX1_addTread_80 ?_
      refine lv_iconst (v := 2) hx hb dX1_addTread_81 (by decide) ?_
      refine lv_idiv hx hb dX1_addTread_82 (by decide) ?_
      refine m_ci (m_runV E hM hS cs_X1_83 ha1.1.1 (by decide) rfl rfl (c_X2_hearers ha1 hw) rfl rfl ⟨Nat.le_of_ble_eq_true rfl, Nat.le_of_ble_eq_true rfl⟩ rfl hl.1 rfl (Nat.le_of_ble_eq_true rfl) dX1_addTread_83 ⟨Nat.le_of_ble_eq_true rfl, Nat.le_of_ble_eq_true rfl⟩) hS (fun r5 u H locs hp hM hS => ?_)
      obtain ⟨rfl, hw⟩ := hp
      refine lv_ior hx hb dX1_addTread_86 ?_
      refine lv_topi (fun x6 ex6 => ?_)
      have hw := hw x6 ex6
      refine lv_istore (lv' := [(6, .int x6), (5, .int r3), (4, .int x1), (0, .ref (ad bs o)), (1, .ref (ad bs a1)), (2, .int a2), (3, .int a3)]) hx hb dX1_addTread_87 hl (by decide) rfl (fun ls hl => ?_)
      refine lv_iconst (v := 0) hx hb dX1_addTread_89 (by decide) ?_
      refine lv_istore (lv' := [(7, .int 0), (6, .int x6), (5, .int r3), (4, .int x1), (0, .ref (ad bs o)), (1, .ref (ad bs a1)), (2, .int a2), (3, .int a3)]) hx hb dX1_addTread_90 hl (by decide) rfl (fun ls hl => ?_)
      exact s_X1_addTread_92 E hr hlk ho ha1 (fun I v4 v5 H locs ls  hw hM hS hl => s_X1_addTread_131 E hr hlk ho ha1  hw hM hS hl)  hw hM hS (lv_sub hl [4, 5, 7, 3, 2, 1, 0] rfl)
theorem dX1_play_0 : decode cX1_play 0 = .ok (.aload_n 0, 1) := by decide +kernel
theorem dX1_play_1 : decode cX1_play 1 = .ok (.iload_n 2, 1) := by decide +kernel
theorem dX1_play_2 : decode cX1_play 2 = .ok (.putfield 24, 3) := by decide +kernel
theorem dX1_play_5 : decode cX1_play 5 = .ok (.aload_n 0, 1) := by decide +kernel
theorem dX1_play_6 : decode cX1_play 6 = .ok (.iconst 0, 1) := by decide +kernel
theorem dX1_play_7 : decode cX1_play 7 = .ok (.putfield 28, 3) := by decide +kernel
theorem dX1_play_10 : decode cX1_play 10 = .ok (.aload_n 0, 1) := by decide +kernel
theorem dX1_play_11 : decode cX1_play 11 = .ok (.getfield 9, 3) := by decide +kernel
theorem dX1_play_14 : decode cX1_play 14 = .ok (.iconst 0, 1) := by decide +kernel
theorem dX1_play_15 : decode cX1_play 15 = .ok (.invokestatic 31, 3) := by decide +kernel
theorem dX1_play_18 : decode cX1_play 18 = .ok (.aload_n 0, 1) := by decide +kernel
theorem dX1_play_19 : decode cX1_play 19 = .ok (.getfield 15, 3) := by decide +kernel
theorem dX1_play_22 : decode cX1_play 22 = .ok (.iconst 0, 1) := by decide +kernel
theorem dX1_play_23 : decode cX1_play 23 = .ok (.invokestatic 31, 3) := by decide +kernel
theorem dX1_play_26 : decode cX1_play 26 = .ok (.aload_n 0, 1) := by decide +kernel
theorem dX1_play_27 : decode cX1_play 27 = .ok (.getfield 18, 3) := by decide +kernel
theorem dX1_play_30 : decode cX1_play 30 = .ok (.iconst (-1), 1) := by decide +kernel
theorem dX1_play_31 : decode cX1_play 31 = .ok (.invokestatic 31, 3) := by decide +kernel
theorem dX1_play_34 : decode cX1_play 34 = .ok (.iconst 0, 1) := by decide +kernel
theorem dX1_play_35 : decode cX1_play 35 = .ok (.istore 4, 2) := by decide +kernel
theorem dX1_play_37 : decode cX1_play 37 = .ok (.iload 4, 2) := by decide +kernel
theorem dX1_play_39 : decode cX1_play 39 = .ok (.bipush 60, 2) := by decide +kernel
theorem dX1_play_41 : decode cX1_play 41 = .ok (.if_icmp .ge 62, 3) := by decide +kernel
theorem dX1_play_44 : decode cX1_play 44 = .ok (.iconst 0, 1) := by decide +kernel
theorem dX1_play_45 : decode cX1_play 45 = .ok (.istore 5, 2) := by decide +kernel
theorem dX1_play_47 : decode cX1_play 47 = .ok (.iload 5, 2) := by decide +kernel
theorem dX1_play_49 : decode cX1_play 49 = .ok (.aload_n 1, 1) := by decide +kernel
theorem dX1_play_50 : decode cX1_play 50 = .ok (.getfield 37, 3) := by decide +kernel
theorem dX1_play_53 : decode cX1_play 53 = .ok (.getfield 43, 3) := by decide +kernel
theorem dX1_play_56 : decode cX1_play 56 = .ok (.if_icmp .ge 41, 3) := by decide +kernel
theorem dX1_play_59 : decode cX1_play 59 = .ok (.aload_n 0, 1) := by decide +kernel
theorem dX1_play_60 : decode cX1_play 60 = .ok (.bipush 100, 2) := by decide +kernel
theorem dX1_play_62 : decode cX1_play 62 = .ok (.invokevirtual 48, 3) := by decide +kernel
theorem dX1_play_65 : decode cX1_play 65 = .ok (.iload_n 3, 1) := by decide +kernel
theorem dX1_play_66 : decode cX1_play 66 = .ok (.if_icmp .ge 25, 3) := by decide +kernel
theorem dX1_play_69 : decode cX1_play 69 = .ok (.aload_n 0, 1) := by decide +kernel
theorem dX1_play_70 : decode cX1_play 70 = .ok (.aload_n 1, 1) := by decide +kernel
theorem dX1_play_71 : decode cX1_play 71 = .ok (.getfield 37, 3) := by decide +kernel
theorem dX1_play_74 : decode cX1_play 74 = .ok (.iload 5, 2) := by decide +kernel
theorem dX1_play_76 : decode cX1_play 76 = .ok (.invokevirtual 52, 3) := by decide +kernel
theorem dX1_play_79 : decode cX1_play 79 = .ok (.ifCond .eq 12, 3) := by decide +kernel
theorem dX1_play_82 : decode cX1_play 82 = .ok (.aload_n 0, 1) := by decide +kernel
theorem dX1_play_83 : decode cX1_play 83 = .ok (.aload_n 1, 1) := by decide +kernel
theorem dX1_play_84 : decode cX1_play 84 = .ok (.iload 5, 2) := by decide +kernel
theorem dX1_play_86 : decode cX1_play 86 = .ok (.iload 4, 2) := by decide +kernel
theorem dX1_play_88 : decode cX1_play 88 = .ok (.invokevirtual 56, 3) := by decide +kernel
theorem dX1_play_91 : decode cX1_play 91 = .ok (.iinc 5 1, 3) := by decide +kernel
theorem dX1_play_94 : decode cX1_play 94 = .ok (.goto (-47), 3) := by decide +kernel
theorem dX1_play_97 : decode cX1_play 97 = .ok (.iinc 4 1, 3) := by decide +kernel
theorem dX1_play_100 : decode cX1_play 100 = .ok (.goto (-63), 3) := by decide +kernel
theorem dX1_play_103 : decode cX1_play 103 = .ok (.return_, 1) := by decide +kernel
def w_X1_play_47 (o : Nat) (a1 : Nat) (a1h : Nat) (a2 : Int32) (a3 : Int32) (post : mI → Prop) (k37 : mI → Int32 → Prop) (I : mI) (v4 : Int32) (v5 : Int32) : Prop := ∀ ZZ : (mI → Int32 → Int32 → Prop), (∀ (I : mI) (v4 : Int32) (v5 : Int32), (((I a1h 3) ≤ v5 → ∀ x6, x6 = v4 + 1 → k37 I x6) ∧ (¬ (I a1h 3) ≤ v5 → w_X1_below I o 100 (fun r7 I8 => (a3 ≤ r7 → ∀ x9, x9 = v5 + 1 → ZZ I8 v4 x9) ∧ (¬ a3 ≤ r7 → w_X1_goes I8 o a1h v5 (fun b10 I11 => (b10 = false → ∀ x12, x12 = v5 + 1 → ZZ I11 v4 x12) ∧ (b10 = true → w_X1_addTread I11 o a1 a1h v5 v4 (fun I13 => ∀ x14, x14 = v5 + 1 → ZZ I13 v4 x14))))))) → ZZ I v4 v5) → ZZ I v4 v5
set_option maxRecDepth 100000 in
set_option maxHeartbeats 4000000 in
theorem s_X1_play_47 {p : Program} {l : Launch} {e : Env} {s : State} {m : MethodId} {args : Array Value} {below : List Frame} {meth : Method} {c : Code} {D : va_G} {cA : Nat → ClassId} {Z : mZ} {bs : Ad} {n : Nat} {K : mK} {R : mR} {L : mL} (E : Ev p s m args c cX1_play 6 RX1 D cA Z bs) (hr : meth.sig.returnType = none) (hlk : meth.locks = false) {o : Nat} {a1 : Nat} {a1h : Nat} {a2 : Int32} {a3 : Int32} (ho : isX1 K R o) (ha1 : isX2 K R a1 a1h) {post : mI → Prop} {k37 : mI → Int32 → Prop} (hk37 : ∀ (I : mI) (v4 : Int32) (H : Heap) (locs : List Loc) (ls : Array Slot), k37 I v4 → mm D cA bs (n, K, R, I, L) H → va_S (Ab bs) s.heap H locs → lv_has ls 6 [(0, .ref (ad bs o)), (1, .ref (ad bs a1)), (3, .int a3), (4, .int v4)] → W p l e ({ frames := 3, cells := 0, slots := 0, locals := 90 } : Room) s m args below meth c H locs 0 0 (MQ below (QV D cA bs (fun u => ∃ I', u = (n, K, R, I', L) ∧ post I')) args s 0 0 (Ab bs)) (F0 m 37 ls [])) {I : mI} {v4 : Int32} {v5 : Int32} {H : Heap} {locs : List Loc} {ls : Array Slot} (hw : w_X1_play_47 o a1 a1h a2 a3 post k37 I v4 v5) (hM : mm D cA bs (n, K, R, I, L) H) (hS : va_S (Ab bs) s.heap H locs) (hl : lv_has ls 6 [(0, .ref (ad bs o)), (1, .ref (ad bs a1)), (3, .int a3), (4, .int v4), (5, .int v5)]) : W p l e ({ frames := 3, cells := 0, slots := 0, locals := 90 } : Room) s m args below meth c H locs 0 0 (MQ below (QV D cA bs (fun u => ∃ I', u = (n, K, R, I', L) ∧ post I')) args s 0 0 (Ab bs)) (F0 m 47 ls []) := by
  have hx := E.1.1
  have hb := E.1.2.1
  refine hw (fun I v4 v5 => ∀ (H : Heap) (locs : List Loc) (ls : Array Slot), mm D cA bs (n, K, R, I, L) H → va_S (Ab bs) s.heap H locs → lv_has ls 6 [(0, .ref (ad bs o)), (1, .ref (ad bs a1)), (3, .int a3), (4, .int v4), (5, .int v5)] → W p l e ({ frames := 3, cells := 0, slots := 0, locals := 90 } : Room) s m args below meth c H locs 0 0 (MQ below (QV D cA bs (fun u => ∃ I', u = (n, K, R, I', L) ∧ post I')) args s 0 0 (Ab bs)) (F0 m 47 ls [])) ?_ H locs ls hM hS hl
  clear hw hM hS hl
  intro I v4 v5 hw H locs ls hM hS hl
  refine lv_iload hx hb dX1_play_47 (lv_at hl 4 rfl) ?_
  refine lv_aload_n hx hb dX1_play_49 rfl (lv_at hl 1 rfl) ?_
  refine m_getr E hM fs_X1_37 ha1.1.1 ha1.2.1 dX1_play_50 ?_
  refine m_geti E hM fs_X1_43 ha1.2.2.1 dX1_play_53 ?_
  refine lv_icmp_ge (tgt := 97) hx hb dX1_play_56 (by decide) (fun cq => ?_) (fun cq => ?_)
  · have hw := hw.1 cq
    obtain ⟨x6, ex6⟩ : ∃ y : Int32, y = v4 + 1 := ⟨_, rfl⟩
    have hw := hw x6 ex6
    refine lv_iinc (v := x6) (lv' := [(4, .int x6), (0, .ref (ad bs o)), (1, .ref (ad bs a1)), (3, .int a3), (5, .int v5)]) hx hb dX1_play_97 hl (k := 3) rfl (by rw [ex6]; rfl) (by decide) rfl (fun ls hl => ?_)
    refine lv_goto (tgt := 37) hx hb dX1_play_100 (by decide) ?_
    exact hk37 _ _ H locs ls  hw hM hS (lv_sub hl [1, 2, 3, 0] rfl)
  · have hw := hw.2 cq
    refine lv_aload_n hx hb dX1_play_59 rfl (lv_at hl 0 rfl) ?_
    refine lv_bipush (v := 100) hx hb dX1_play_60 (by decide) ?_
    refine m_ci (m_runV E hM hS cs_X1_48 ho.1 (by decide) rfl rfl (c_X1_below ho hw) rfl rfl ⟨Nat.le_of_ble_eq_true rfl, Nat.le_of_ble_eq_true rfl⟩ rfl hl.1 rfl (Nat.le_of_ble_eq_true rfl) dX1_play_62 ⟨Nat.le_of_ble_eq_true rfl, Nat.le_of_ble_eq_true rfl⟩) hS (fun r7 u H locs hp hM hS => ?_)
    obtain ⟨I8, rfl, hw⟩ := hp
    refine lv_iload_n hx hb dX1_play_65 rfl (lv_at hl 2 rfl) ?_
    refine lv_icmp_ge (tgt := 91) hx hb dX1_play_66 (by decide) (fun cq => ?_) (fun cq => ?_)
    · have hw := hw.1 cq
      obtain ⟨x9, ex9⟩ : ∃ y : Int32, y = v5 + 1 := ⟨_, rfl⟩
      have hw := hw x9 ex9
      refine lv_iinc (v := x9) (lv' := [(5, .int x9), (0, .ref (ad bs o)), (1, .ref (ad bs a1)), (3, .int a3), (4, .int v4)]) hx hb dX1_play_91 hl (k := 4) rfl (by rw [ex9]; rfl) (by decide) rfl (fun ls hl => ?_)
      refine lv_goto (tgt := 47) hx hb dX1_play_94 (by decide) ?_
      exact hw H locs ls  hM hS (lv_sub hl [1, 2, 3, 4, 0] rfl)
    · have hw := hw.2 cq
      refine lv_aload_n hx hb dX1_play_69 rfl (lv_at hl 0 rfl) ?_
      refine lv_aload_n hx hb dX1_play_70 rfl (lv_at hl 1 rfl) ?_
      refine m_getr E hM fs_X1_37 ha1.1.1 ha1.2.1 dX1_play_71 ?_
      refine lv_iload hx hb dX1_play_74 (lv_at hl 4 rfl) ?_
      refine m_ci (m_runV E hM hS cs_X1_52 ho.1 (by decide) rfl rfl (c_X1_goes ho ha1.2.2 hw) rfl rfl ⟨Nat.le_of_ble_eq_true rfl, Nat.le_of_ble_eq_true rfl⟩ rfl hl.1 rfl (Nat.le_of_ble_eq_true rfl) dX1_play_76 ⟨Nat.le_of_ble_eq_true rfl, Nat.le_of_ble_eq_true rfl⟩) hS (fun r9 u H locs hp hM hS => ?_)
      obtain ⟨b10, rfl, I11, rfl, hw⟩ := hp
      refine lv_if_eq (tgt := 91) hx hb dX1_play_79 (by decide) (fun cq => ?_) (fun cq => ?_)
      · have hw := hw.1 (bI_f cq)
        obtain ⟨x12, ex12⟩ : ∃ y : Int32, y = v5 + 1 := ⟨_, rfl⟩
        have hw := hw x12 ex12
        refine lv_iinc (v := x12) (lv' := [(5, .int x12), (0, .ref (ad bs o)), (1, .ref (ad bs a1)), (3, .int a3), (4, .int v4)]) hx hb dX1_play_91 hl (k := 4) rfl (by rw [ex12]; rfl) (by decide) rfl (fun ls hl => ?_)
        refine lv_goto (tgt := 47) hx hb dX1_play_94 (by decide) ?_
        exact hw H locs ls  hM hS (lv_sub hl [1, 2, 3, 4, 0] rfl)
      · have hw := hw.2 (bI_t cq)
        refine lv_aload_n hx hb dX1_play_82 rfl (lv_at hl 0 rfl) ?_
        refine lv_aload_n hx hb dX1_play_83 rfl (lv_at hl 1 rfl) ?_
        refine lv_iload hx hb dX1_play_84 (lv_at hl 4 rfl) ?_
        refine lv_iload hx hb dX1_play_86 (lv_at hl 3 rfl) ?_
        refine m_cv (m_runV E hM hS cs_X1_56 ho.1 (by decide) rfl rfl (c_X1_addTread ho ha1 hw) rfl rfl ⟨Nat.le_of_ble_eq_true rfl, Nat.le_of_ble_eq_true rfl⟩ rfl hl.1 rfl (Nat.le_of_ble_eq_true rfl) dX1_play_88 ⟨Nat.le_of_ble_eq_true rfl, Nat.le_of_ble_eq_true rfl⟩) hS (fun u H locs hp hM hS => ?_)
        obtain ⟨I13, rfl, hw⟩ := hp
        obtain ⟨x14, ex14⟩ : ∃ y : Int32, y = v5 + 1 := ⟨_, rfl⟩
        have hw := hw x14 ex14
        refine lv_iinc (v := x14) (lv' := [(5, .int x14), (0, .ref (ad bs o)), (1, .ref (ad bs a1)), (3, .int a3), (4, .int v4)]) hx hb dX1_play_91 hl (k := 4) rfl (by rw [ex14]; rfl) (by decide) rfl (fun ls hl => ?_)
        refine lv_goto (tgt := 47) hx hb dX1_play_94 (by decide) ?_
        exact hw H locs ls  hM hS (lv_sub hl [1, 2, 3, 4, 0] rfl)
def w_X1_play_37 (o : Nat) (a1 : Nat) (a1h : Nat) (a2 : Int32) (a3 : Int32) (post : mI → Prop) (I : mI) (v4 : Int32) : Prop := ∀ ZZ : (mI → Int32 → Prop), (∀ (I : mI) (v4 : Int32), ((60 ≤ v4 → post I) ∧ (¬ 60 ≤ v4 → (w_X1_play_47 o a1 a1h a2 a3 post ZZ) I v4 0)) → ZZ I v4) → ZZ I v4
set_option maxRecDepth 100000 in
set_option maxHeartbeats 4000000 in
theorem s_X1_play_37 {p : Program} {l : Launch} {e : Env} {s : State} {m : MethodId} {args : Array Value} {below : List Frame} {meth : Method} {c : Code} {D : va_G} {cA : Nat → ClassId} {Z : mZ} {bs : Ad} {n : Nat} {K : mK} {R : mR} {L : mL} (E : Ev p s m args c cX1_play 6 RX1 D cA Z bs) (hr : meth.sig.returnType = none) (hlk : meth.locks = false) {o : Nat} {a1 : Nat} {a1h : Nat} {a2 : Int32} {a3 : Int32} (ho : isX1 K R o) (ha1 : isX2 K R a1 a1h) {post : mI → Prop} {I : mI} {v4 : Int32} {H : Heap} {locs : List Loc} {ls : Array Slot} (hw : w_X1_play_37 o a1 a1h a2 a3 post I v4) (hM : mm D cA bs (n, K, R, I, L) H) (hS : va_S (Ab bs) s.heap H locs) (hl : lv_has ls 6 [(0, .ref (ad bs o)), (1, .ref (ad bs a1)), (3, .int a3), (4, .int v4)]) : W p l e ({ frames := 3, cells := 0, slots := 0, locals := 90 } : Room) s m args below meth c H locs 0 0 (MQ below (QV D cA bs (fun u => ∃ I', u = (n, K, R, I', L) ∧ post I')) args s 0 0 (Ab bs)) (F0 m 37 ls []) := by
  have hx := E.1.1
  have hb := E.1.2.1
  refine hw (fun I v4 => ∀ (H : Heap) (locs : List Loc) (ls : Array Slot), mm D cA bs (n, K, R, I, L) H → va_S (Ab bs) s.heap H locs → lv_has ls 6 [(0, .ref (ad bs o)), (1, .ref (ad bs a1)), (3, .int a3), (4, .int v4)] → W p l e ({ frames := 3, cells := 0, slots := 0, locals := 90 } : Room) s m args below meth c H locs 0 0 (MQ below (QV D cA bs (fun u => ∃ I', u = (n, K, R, I', L) ∧ post I')) args s 0 0 (Ab bs)) (F0 m 37 ls [])) ?_ H locs ls hM hS hl
  clear hw hM hS hl
  intro I v4 hw H locs ls hM hS hl
  refine lv_iload hx hb dX1_play_37 (lv_at hl 3 rfl) ?_
  refine lv_bipush (v := 60) hx hb dX1_play_39 (by decide) ?_
  refine lv_icmp_ge (tgt := 103) hx hb dX1_play_41 (by decide) (fun cq => ?_) (fun cq => ?_)
  · have hw := hw.1 cq
    exact m_retv hx hb hr hlk hM hS ⟨_, rfl, hw⟩ dX1_play_103
  · have hw := hw.2 cq
    refine lv_iconst (v := 0) hx hb dX1_play_44 (by decide) ?_
    refine lv_istore (lv' := [(5, .int 0), (0, .ref (ad bs o)), (1, .ref (ad bs a1)), (3, .int a3), (4, .int v4)]) hx hb dX1_play_45 hl (by decide) rfl (fun ls hl => ?_)
    exact s_X1_play_47 E hr hlk ho ha1 (fun I v4 H locs ls  hw hM hS hl => hw H locs ls  hM hS hl)  hw hM hS (lv_sub hl [1, 2, 3, 4, 0] rfl)
def w_X1_play (I : mI) (o : Nat) (a1 : Nat) (a1h : Nat) (a2 : Int32) (a3 : Int32) (post : mI → Prop) : Prop := ∀ I1, I1 = up2 I o 3 a2 → ∀ I2, I2 = up2 I1 o 0 0 → w_J7_fill_53178 I2 (o + 1) 6 0 (fun I3 => w_J7_fill_53178 I3 (o + 2) 6 0 (fun I4 => w_J7_fill_53178 I4 (o + 3) 24 (-1) (fun I5 => (w_X1_play_37 o a1 a1h a2 a3 post) I5 0)))
set_option maxRecDepth 100000 in
set_option maxHeartbeats 4000000 in
theorem c_X1_play {l : Launch} {D : va_G} {cA : Nat → ClassId} {Z : mZ} {bs : Ad} {n : Nat} {K : mK} {R : mR} {I : mI} {L : mL} {o : Nat} {a1 : Nat} {a1h : Nat} {a2 : Int32} {a3 : Int32} {post : mI → Prop} (ho : isX1 K R o) (ha1 : isX2 K R a1 a1h) (hw : w_X1_play I o a1 a1h a2 a3 post) : Met l yX1_play (.code yX1_play cX1_play 6 none :: gw) ({ frames := 3, cells := 0, slots := 0, locals := 90 } : Room) (PreM D cA Z bs (n, K, R, I, L) [.ref (ad bs o), .ref (ad bs a1), .int a2, .int a3]) (QV D cA bs (fun u => ∃ I', u = (n, K, R, I', L) ∧ post I')) 0 0 (Ab bs) := by
  refine m_met (by decide) (Nat.le_of_ble_eq_true rfl) (fun p e s m below meth c ls E hr hlk hM hS hl => ?_)
  have E : Ev p s m _ c cX1_play 6 RX1 D cA Z bs := E
  have hl : lv_has ls 6 [(0, .ref (ad bs o)), (1, .ref (ad bs a1)), (2, .int a2), (3, .int a3)] := hl
  have hx := E.1.1
  have hb := E.1.2.1
  generalize hHe : s.heap = H at hM ⊢
  have hS : va_S (Ab bs) s.heap H [] := by rw [← hHe]; exact va_S.rf
  clear hHe
  refine lv_aload_n hx hb dX1_play_0 rfl (lv_at hl 0 rfl) ?_
  refine lv_iload_n hx hb dX1_play_1 rfl (lv_at hl 2 rfl) ?_
  refine m_puti E hM hS fp_X1_24 ho.1 rfl rfl dX1_play_2 (fun I1 H locs eI1 hM hS => ?_)
  have hw := hw I1 eI1
  refine lv_aload_n hx hb dX1_play_5 rfl (lv_at hl 0 rfl) ?_
  refine lv_iconst (v := 0) hx hb dX1_play_6 (by decide) ?_
  refine m_puti E hM hS fp_X1_28 ho.1 rfl rfl dX1_play_7 (fun I2 H locs eI2 hM hS => ?_)
  have hw := hw I2 eI2
  refine lv_aload_n hx hb dX1_play_10 rfl (lv_at hl 0 rfl) ?_
  refine m_getr E hM fs_X1_9 ho.1 (isO_at ho 0 rfl).1 dX1_play_11 ?_
  refine lv_iconst (v := 0) hx hb dX1_play_14 (by decide) ?_
  refine m_cv (m_runS E hM hS cs_X1_31 (c_J7_fill_53178 ((isO_at ho 0 rfl).2) hw) rfl rfl ⟨Nat.le_of_ble_eq_true rfl, Nat.le_of_ble_eq_true rfl⟩ rfl hl.1 rfl (Nat.le_of_ble_eq_true rfl) dX1_play_15 ⟨Nat.le_of_ble_eq_true rfl, Nat.le_of_ble_eq_true rfl⟩) hS (fun u H locs hp hM hS => ?_)
  obtain ⟨I3, rfl, hw⟩ := hp
  refine lv_aload_n hx hb dX1_play_18 rfl (lv_at hl 0 rfl) ?_
  refine m_getr E hM fs_X1_15 ho.1 (isO_at ho 1 rfl).1 dX1_play_19 ?_
  refine lv_iconst (v := 0) hx hb dX1_play_22 (by decide) ?_
  refine m_cv (m_runS E hM hS cs_X1_31 (c_J7_fill_53178 ((isO_at ho 1 rfl).2) hw) rfl rfl ⟨Nat.le_of_ble_eq_true rfl, Nat.le_of_ble_eq_true rfl⟩ rfl hl.1 rfl (Nat.le_of_ble_eq_true rfl) dX1_play_23 ⟨Nat.le_of_ble_eq_true rfl, Nat.le_of_ble_eq_true rfl⟩) hS (fun u H locs hp hM hS => ?_)
  obtain ⟨I4, rfl, hw⟩ := hp
  refine lv_aload_n hx hb dX1_play_26 rfl (lv_at hl 0 rfl) ?_
  refine m_getr E hM fs_X1_18 ho.1 (isO_at ho 2 rfl).1 dX1_play_27 ?_
  refine lv_iconst (v := (-1)) hx hb dX1_play_30 (by decide) ?_
  refine m_cv (m_runS E hM hS cs_X1_31 (c_J7_fill_53178 ((isO_at ho 2 rfl).2) hw) rfl rfl ⟨Nat.le_of_ble_eq_true rfl, Nat.le_of_ble_eq_true rfl⟩ rfl hl.1 rfl (Nat.le_of_ble_eq_true rfl) dX1_play_31 ⟨Nat.le_of_ble_eq_true rfl, Nat.le_of_ble_eq_true rfl⟩) hS (fun u H locs hp hM hS => ?_)
  obtain ⟨I5, rfl, hw⟩ := hp
  refine lv_iconst (v := 0) hx hb dX1_play_34 (by decide) ?_
  refine lv_istore (lv' := [(4, .int 0), (0, .ref (ad bs o)), (1, .ref (ad bs a1)), (2, .int a2), (3, .int a3)]) hx hb dX1_play_35 hl (by decide) rfl (fun ls hl => ?_)
  exact s_X1_play_37 E hr hlk ho ha1  hw hM hS (lv_sub hl [1, 2, 4, 0] rfl)
theorem dX1_allNotes_0 : decode cX1_allNotes 0 = .ok (.iconst 0, 1) := by decide +kernel
theorem dX1_allNotes_1 : decode cX1_allNotes 1 = .ok (.istore_n 1, 1) := by decide +kernel
theorem dX1_allNotes_2 : decode cX1_allNotes 2 = .ok (.iconst 0, 1) := by decide +kernel
theorem dX1_allNotes_3 : decode cX1_allNotes 3 = .ok (.istore_n 2, 1) := by decide +kernel
theorem dX1_allNotes_4 : decode cX1_allNotes 4 = .ok (.iload_n 2, 1) := by decide +kernel
theorem dX1_allNotes_5 : decode cX1_allNotes 5 = .ok (.bipush 6, 2) := by decide +kernel
theorem dX1_allNotes_7 : decode cX1_allNotes 7 = .ok (.if_icmp .ge 18, 3) := by decide +kernel
theorem dX1_allNotes_10 : decode cX1_allNotes 10 = .ok (.iload_n 1, 1) := by decide +kernel
theorem dX1_allNotes_11 : decode cX1_allNotes 11 = .ok (.aload_n 0, 1) := by decide +kernel
theorem dX1_allNotes_12 : decode cX1_allNotes 12 = .ok (.getfield 15, 3) := by decide +kernel
theorem dX1_allNotes_15 : decode cX1_allNotes 15 = .ok (.iload_n 2, 1) := by decide +kernel
theorem dX1_allNotes_16 : decode cX1_allNotes 16 = .ok (.iaload, 1) := by decide +kernel
theorem dX1_allNotes_17 : decode cX1_allNotes 17 = .ok (.iadd, 1) := by decide +kernel
theorem dX1_allNotes_18 : decode cX1_allNotes 18 = .ok (.istore_n 1, 1) := by decide +kernel
theorem dX1_allNotes_19 : decode cX1_allNotes 19 = .ok (.iinc 2 1, 3) := by decide +kernel
theorem dX1_allNotes_22 : decode cX1_allNotes 22 = .ok (.goto (-18), 3) := by decide +kernel
theorem dX1_allNotes_25 : decode cX1_allNotes 25 = .ok (.iload_n 1, 1) := by decide +kernel
theorem dX1_allNotes_26 : decode cX1_allNotes 26 = .ok (.ireturn, 1) := by decide +kernel
def w_X1_allNotes_4 (I : mI) (o : Nat) (post : Int32 → Prop) (v1 : Int32) (v2 : Int32) : Prop := ∀ ZZ : (Int32 → Int32 → Prop), (∀ (v1 : Int32) (v2 : Int32), ((6 ≤ v2 → post v1) ∧ (¬ 6 ≤ v2 → vp_in v2 6 ∧ ∀ x1, x1 = (v1 + (I (o + 2) v2.toNatClampNeg)) → ∀ x2, x2 = v2 + 1 → ZZ x1 x2)) → ZZ v1 v2) → ZZ v1 v2
set_option maxRecDepth 100000 in
set_option maxHeartbeats 4000000 in
theorem s_X1_allNotes_4 {p : Program} {l : Launch} {e : Env} {s : State} {m : MethodId} {args : Array Value} {below : List Frame} {meth : Method} {c : Code} {D : va_G} {cA : Nat → ClassId} {Z : mZ} {bs : Ad} {n : Nat} {K : mK} {R : mR} {I : mI} {L : mL} (E : Ev p s m args c cX1_allNotes 3 RX1 D cA Z bs) (hr : meth.sig.returnType = (some .int)) (hlk : meth.locks = false) {o : Nat} (ho : isX1 K R o) {post : Int32 → Prop} {v1 : Int32} {v2 : Int32} {H : Heap} {locs : List Loc} {ls : Array Slot} (hw : w_X1_allNotes_4 I o post v1 v2) (hM : mm D cA bs (n, K, R, I, L) H) (hS : va_S (Ab bs) s.heap H locs) (hl : lv_has ls 3 [(0, .ref (ad bs o)), (1, .int v1), (2, .int v2)]) : W p l e ({ frames := 0, cells := 0, slots := 0, locals := 0 } : Room) s m args below meth c H locs 0 0 (MQ below (QI D cA bs (fun r u => u = (n, K, R, I, L) ∧ post r)) args s 0 0 (Ab bs)) (F0 m 4 ls []) := by
  have hx := E.1.1
  have hb := E.1.2.1
  refine hw (fun v1 v2 => ∀ (H : Heap) (locs : List Loc) (ls : Array Slot), mm D cA bs (n, K, R, I, L) H → va_S (Ab bs) s.heap H locs → lv_has ls 3 [(0, .ref (ad bs o)), (1, .int v1), (2, .int v2)] → W p l e ({ frames := 0, cells := 0, slots := 0, locals := 0 } : Room) s m args below meth c H locs 0 0 (MQ below (QI D cA bs (fun r u => u = (n, K, R, I, L) ∧ post r)) args s 0 0 (Ab bs)) (F0 m 4 ls [])) ?_ H locs ls hM hS hl
  clear hw hM hS hl
  intro v1 v2 hw H locs ls hM hS hl
  refine lv_iload_n hx hb dX1_allNotes_4 rfl (lv_at hl 2 rfl) ?_
  refine lv_bipush (v := 6) hx hb dX1_allNotes_5 (by decide) ?_
  refine lv_icmp_ge (tgt := 25) hx hb dX1_allNotes_7 (by decide) (fun cq => ?_) (fun cq => ?_)
  · have hw := hw.1 cq
    refine lv_iload_n hx hb dX1_allNotes_25 rfl (lv_at hl 1 rfl) ?_
    exact m_reti hx hb hr hlk hM hS ⟨rfl, hw⟩ dX1_allNotes_26
  · have hw := hw.2 cq
    refine lv_iload_n hx hb dX1_allNotes_10 rfl (lv_at hl 1 rfl) ?_
    refine lv_aload_n hx hb dX1_allNotes_11 rfl (lv_at hl 0 rfl) ?_
    refine m_getr E hM fs_X1_15 ho.1 (isO_at ho 1 rfl).1 dX1_allNotes_12 ?_
    refine lv_iload_n hx hb dX1_allNotes_15 rfl (lv_at hl 2 rfl) ?_
    obtain ⟨hv, hw⟩ := hw
    refine m_iald E hM (isO_at ho 1 rfl).2 hv dX1_allNotes_16 ?_
    refine lv_iadd hx hb dX1_allNotes_17 ?_
    refine lv_topi (fun x1 ex1 => ?_)
    have hw := hw x1 ex1
    refine lv_istore_n (lv' := [(1, .int x1), (0, .ref (ad bs o)), (2, .int v2)]) hx hb dX1_allNotes_18 rfl hl (by decide) rfl (fun ls hl => ?_)
    obtain ⟨x2, ex2⟩ : ∃ y : Int32, y = v2 + 1 := ⟨_, rfl⟩
    have hw := hw x2 ex2
    refine lv_iinc (v := x2) (lv' := [(2, .int x2), (1, .int x1), (0, .ref (ad bs o))]) hx hb dX1_allNotes_19 hl (k := 2) rfl (by rw [ex2]; rfl) (by decide) rfl (fun ls hl => ?_)
    refine lv_goto (tgt := 4) hx hb dX1_allNotes_22 (by decide) ?_
    exact hw H locs ls  hM hS (lv_sub hl [2, 1, 0] rfl)
def w_X1_allNotes (I : mI) (o : Nat) (post : Int32 → Prop) : Prop := (w_X1_allNotes_4 I o post) 0 0
set_option maxRecDepth 100000 in
set_option maxHeartbeats 4000000 in
theorem c_X1_allNotes {l : Launch} {D : va_G} {cA : Nat → ClassId} {Z : mZ} {bs : Ad} {n : Nat} {K : mK} {R : mR} {I : mI} {L : mL} {o : Nat} {post : Int32 → Prop} (ho : isX1 K R o) (hw : w_X1_allNotes I o post) : Met l yX1_allNotes (.code yX1_allNotes cX1_allNotes 3 (some .int) :: gw) ({ frames := 0, cells := 0, slots := 0, locals := 0 } : Room) (PreM D cA Z bs (n, K, R, I, L) [.ref (ad bs o)]) (QI D cA bs (fun r u => u = (n, K, R, I, L) ∧ post r)) 0 0 (Ab bs) := by
  refine m_met (by decide) (Nat.le_of_ble_eq_true rfl) (fun p e s m below meth c ls E hr hlk hM hS hl => ?_)
  have E : Ev p s m _ c cX1_allNotes 3 RX1 D cA Z bs := E
  have hl : lv_has ls 3 [(0, .ref (ad bs o))] := hl
  have hx := E.1.1
  have hb := E.1.2.1
  generalize hHe : s.heap = H at hM ⊢
  have hS : va_S (Ab bs) s.heap H [] := by rw [← hHe]; exact va_S.rf
  clear hHe
  refine lv_iconst (v := 0) hx hb dX1_allNotes_0 (by decide) ?_
  refine lv_istore_n (lv' := [(1, .int 0), (0, .ref (ad bs o))]) hx hb dX1_allNotes_1 rfl hl (by decide) rfl (fun ls hl => ?_)
  refine lv_iconst (v := 0) hx hb dX1_allNotes_2 (by decide) ?_
  refine lv_istore_n (lv' := [(2, .int 0), (1, .int 0), (0, .ref (ad bs o))]) hx hb dX1_allNotes_3 rfl hl (by decide) rfl (fun ls hl => ?_)
  exact s_X1_allNotes_4 E hr hlk ho  hw hM hS (lv_sub hl [2, 1, 0] rfl)
theorem dX2_listen_0 : decode cX2_listen 0 = .ok (.aload_n 0, 1) := by decide +kernel
theorem dX2_listen_1 : decode cX2_listen 1 = .ok (.getfield 45, 3) := by decide +kernel
theorem dX2_listen_4 : decode cX2_listen 4 = .ok (.iconst 0, 1) := by decide +kernel
theorem dX2_listen_5 : decode cX2_listen 5 = .ok (.invokestatic 68, 3) := by decide +kernel
theorem dX2_listen_8 : decode cX2_listen 8 = .ok (.iconst 0, 1) := by decide +kernel
theorem dX2_listen_9 : decode cX2_listen 9 = .ok (.istore_n 1, 1) := by decide +kernel
theorem dX2_listen_10 : decode cX2_listen 10 = .ok (.iload_n 1, 1) := by decide +kernel
theorem dX2_listen_11 : decode cX2_listen 11 = .ok (.aload_n 0, 1) := by decide +kernel
theorem dX2_listen_12 : decode cX2_listen 12 = .ok (.getfield 60, 3) := by decide +kernel
theorem dX2_listen_15 : decode cX2_listen 15 = .ok (.getfield 94, 3) := by decide +kernel
theorem dX2_listen_18 : decode cX2_listen 18 = .ok (.if_icmp .ge 91, 3) := by decide +kernel
theorem dX2_listen_21 : decode cX2_listen 21 = .ok (.iconst 0, 1) := by decide +kernel
theorem dX2_listen_22 : decode cX2_listen 22 = .ok (.istore_n 2, 1) := by decide +kernel
theorem dX2_listen_23 : decode cX2_listen 23 = .ok (.iload_n 2, 1) := by decide +kernel
theorem dX2_listen_24 : decode cX2_listen 24 = .ok (.aload_n 0, 1) := by decide +kernel
theorem dX2_listen_25 : decode cX2_listen 25 = .ok (.getfield 60, 3) := by decide +kernel
theorem dX2_listen_28 : decode cX2_listen 28 = .ok (.getfield 97, 3) := by decide +kernel
theorem dX2_listen_31 : decode cX2_listen 31 = .ok (.if_icmp .ge 72, 3) := by decide +kernel
theorem dX2_listen_34 : decode cX2_listen 34 = .ok (.aload_n 0, 1) := by decide +kernel
theorem dX2_listen_35 : decode cX2_listen 35 = .ok (.getfield 60, 3) := by decide +kernel
theorem dX2_listen_38 : decode cX2_listen 38 = .ok (.getfield 100, 3) := by decide +kernel
theorem dX2_listen_41 : decode cX2_listen 41 = .ok (.iload_n 2, 1) := by decide +kernel
theorem dX2_listen_42 : decode cX2_listen 42 = .ok (.iaload, 1) := by decide +kernel
theorem dX2_listen_43 : decode cX2_listen 43 = .ok (.iload_n 1, 1) := by decide +kernel
theorem dX2_listen_44 : decode cX2_listen 44 = .ok (.isub, 1) := by decide +kernel
theorem dX2_listen_45 : decode cX2_listen 45 = .ok (.invokestatic 103, 3) := by decide +kernel
theorem dX2_listen_48 : decode cX2_listen 48 = .ok (.istore_n 3, 1) := by decide +kernel
theorem dX2_listen_49 : decode cX2_listen 49 = .ok (.iconst 1, 1) := by decide +kernel
theorem dX2_listen_50 : decode cX2_listen 50 = .ok (.iload_n 3, 1) := by decide +kernel
theorem dX2_listen_51 : decode cX2_listen 51 = .ok (.aload_n 0, 1) := by decide +kernel
theorem dX2_listen_52 : decode cX2_listen 52 = .ok (.getfield 60, 3) := by decide +kernel
theorem dX2_listen_55 : decode cX2_listen 55 = .ok (.getfield 109, 3) := by decide +kernel
theorem dX2_listen_58 : decode cX2_listen 58 = .ok (.iload_n 2, 1) := by decide +kernel
theorem dX2_listen_59 : decode cX2_listen 59 = .ok (.iaload, 1) := by decide +kernel
theorem dX2_listen_60 : decode cX2_listen 60 = .ok (.isub, 1) := by decide +kernel
theorem dX2_listen_61 : decode cX2_listen 61 = .ok (.invokestatic 112, 3) := by decide +kernel
theorem dX2_listen_64 : decode cX2_listen 64 = .ok (.istore 4, 2) := by decide +kernel
theorem dX2_listen_66 : decode cX2_listen 66 = .ok (.iload 4, 2) := by decide +kernel
theorem dX2_listen_68 : decode cX2_listen 68 = .ok (.bipush 18, 2) := by decide +kernel
theorem dX2_listen_70 : decode cX2_listen 70 = .ok (.if_icmp .gt 27, 3) := by decide +kernel
theorem dX2_listen_73 : decode cX2_listen 73 = .ok (.aload_n 0, 1) := by decide +kernel
theorem dX2_listen_74 : decode cX2_listen 74 = .ok (.getfield 45, 3) := by decide +kernel
theorem dX2_listen_77 : decode cX2_listen 77 = .ok (.iload_n 1, 1) := by decide +kernel
theorem dX2_listen_78 : decode cX2_listen 78 = .ok (.bipush 19, 2) := by decide +kernel
theorem dX2_listen_80 : decode cX2_listen 80 = .ok (.imul, 1) := by decide +kernel
theorem dX2_listen_81 : decode cX2_listen 81 = .ok (.iload 4, 2) := by decide +kernel
theorem dX2_listen_83 : decode cX2_listen 83 = .ok (.iadd, 1) := by decide +kernel
theorem dX2_listen_84 : decode cX2_listen 84 = .ok (.dup2, 1) := by decide +kernel
theorem dX2_listen_85 : decode cX2_listen 85 = .ok (.iaload, 1) := by decide +kernel
theorem dX2_listen_86 : decode cX2_listen 86 = .ok (.iconst 1, 1) := by decide +kernel
theorem dX2_listen_87 : decode cX2_listen 87 = .ok (.iload_n 2, 1) := by decide +kernel
theorem dX2_listen_88 : decode cX2_listen 88 = .ok (.ishl, 1) := by decide +kernel
theorem dX2_listen_89 : decode cX2_listen 89 = .ok (.ior, 1) := by decide +kernel
theorem dX2_listen_90 : decode cX2_listen 90 = .ok (.iastore, 1) := by decide +kernel
theorem dX2_listen_91 : decode cX2_listen 91 = .ok (.iinc 4 1, 3) := by decide +kernel
theorem dX2_listen_94 : decode cX2_listen 94 = .ok (.goto (-28), 3) := by decide +kernel
theorem dX2_listen_97 : decode cX2_listen 97 = .ok (.iinc 2 1, 3) := by decide +kernel
theorem dX2_listen_100 : decode cX2_listen 100 = .ok (.goto (-77), 3) := by decide +kernel
theorem dX2_listen_103 : decode cX2_listen 103 = .ok (.iinc 1 1, 3) := by decide +kernel
theorem dX2_listen_106 : decode cX2_listen 106 = .ok (.goto (-96), 3) := by decide +kernel
theorem dX2_listen_109 : decode cX2_listen 109 = .ok (.return_, 1) := by decide +kernel
def w_X2_listen_66 (o : Nat) (oh : Nat) (post : mI → Prop) (k23 : mI → Int32 → Int32 → Prop) (I : mI) (v1 : Int32) (v2 : Int32) (v4 : Int32) : Prop := ∀ ZZ : (mI → Int32 → Int32 → Int32 → Prop), (∀ (I : mI) (v1 : Int32) (v2 : Int32) (v4 : Int32), ((18 < v4 → ∀ x5, x5 = v2 + 1 → k23 I v1 x5) ∧ (¬ 18 < v4 → vp_in ((v1 * 19) + v4) 456 ∧ vp_in ((v1 * 19) + v4) 456 ∧ ∀ I6, I6 = up2 I (o + 12) (((v1 * 19) + v4).toNatClampNeg) ((I (o + 12) ((v1 * 19) + v4).toNatClampNeg) ||| (1 <<< (v2 &&& 31))) → ∀ x7, x7 = v4 + 1 → ZZ I6 v1 v2 x7)) → ZZ I v1 v2 v4) → ZZ I v1 v2 v4
set_option maxRecDepth 100000 in
set_option maxHeartbeats 4000000 in
theorem s_X2_listen_66 {p : Program} {l : Launch} {e : Env} {s : State} {m : MethodId} {args : Array Value} {below : List Frame} {meth : Method} {c : Code} {D : va_G} {cA : Nat → ClassId} {Z : mZ} {bs : Ad} {n : Nat} {K : mK} {R : mR} {L : mL} (E : Ev p s m args c cX2_listen 5 RX2 D cA Z bs) (hr : meth.sig.returnType = none) (hlk : meth.locks = false) {o : Nat} {oh : Nat} (ho : isX2 K R o oh) {post : mI → Prop} {k23 : mI → Int32 → Int32 → Prop} (hk23 : ∀ (I : mI) (v1 : Int32) (v2 : Int32) (H : Heap) (locs : List Loc) (ls : Array Slot), k23 I v1 v2 → mm D cA bs (n, K, R, I, L) H → va_S (Ab bs) s.heap H locs → lv_has ls 5 [(0, .ref (ad bs o)), (1, .int v1), (2, .int v2)] → W p l e ({ frames := 1, cells := 0, slots := 0, locals := 40 } : Room) s m args below meth c H locs 0 0 (MQ below (QV D cA bs (fun u => ∃ I', u = (n, K, R, I', L) ∧ post I')) args s 0 0 (Ab bs)) (F0 m 23 ls [])) {I : mI} {v1 : Int32} {v2 : Int32} {v4 : Int32} {H : Heap} {locs : List Loc} {ls : Array Slot} (hw : w_X2_listen_66 o oh post k23 I v1 v2 v4) (hM : mm D cA bs (n, K, R, I, L) H) (hS : va_S (Ab bs) s.heap H locs) (hl : lv_has ls 5 [(0, .ref (ad bs o)), (1, .int v1), (2, .int v2), (4, .int v4)]) : W p l e ({ frames := 1, cells := 0, slots := 0, locals := 40 } : Room) s m args below meth c H locs 0 0 (MQ below (QV D cA bs (fun u => ∃ I', u = (n, K, R, I', L) ∧ post I')) args s 0 0 (Ab bs)) (F0 m 66 ls []) := by
  have hx := E.1.1
  have hb := E.1.2.1
  refine hw (fun I v1 v2 v4 => ∀ (H : Heap) (locs : List Loc) (ls : Array Slot), mm D cA bs (n, K, R, I, L) H → va_S (Ab bs) s.heap H locs → lv_has ls 5 [(0, .ref (ad bs o)), (1, .int v1), (2, .int v2), (4, .int v4)] → W p l e ({ frames := 1, cells := 0, slots := 0, locals := 40 } : Room) s m args below meth c H locs 0 0 (MQ below (QV D cA bs (fun u => ∃ I', u = (n, K, R, I', L) ∧ post I')) args s 0 0 (Ab bs)) (F0 m 66 ls [])) ?_ H locs ls hM hS hl
  clear hw hM hS hl
  intro I v1 v2 v4 hw H locs ls hM hS hl
  refine lv_iload hx hb dX2_listen_66 (lv_at hl 3 rfl) ?_
  refine lv_bipush (v := 18) hx hb dX2_listen_68 (by decide) ?_
  refine lv_icmp_gt (tgt := 97) hx hb dX2_listen_70 (by decide) (fun cq => ?_) (fun cq => ?_)
  · have hw := hw.1 cq
    obtain ⟨x5, ex5⟩ : ∃ y : Int32, y = v2 + 1 := ⟨_, rfl⟩
    have hw := hw x5 ex5
    refine lv_iinc (v := x5) (lv' := [(2, .int x5), (0, .ref (ad bs o)), (1, .int v1), (4, .int v4)]) hx hb dX2_listen_97 hl (k := 2) rfl (by rw [ex5]; rfl) (by decide) rfl (fun ls hl => ?_)
    refine lv_goto (tgt := 23) hx hb dX2_listen_100 (by decide) ?_
    exact hk23 _ _ _ H locs ls  hw hM hS (lv_sub hl [1, 2, 0] rfl)
  · have hw := hw.2 cq
    refine lv_aload_n hx hb dX2_listen_73 rfl (lv_at hl 0 rfl) ?_
    refine m_getr E hM fs_X2_45 ho.1.1 (isO_at ho.1 11 rfl).1 dX2_listen_74 ?_
    refine lv_iload_n hx hb dX2_listen_77 rfl (lv_at hl 1 rfl) ?_
    refine lv_bipush (v := 19) hx hb dX2_listen_78 (by decide) ?_
    refine lv_imul hx hb dX2_listen_80 ?_
    refine lv_iload hx hb dX2_listen_81 (lv_at hl 3 rfl) ?_
    refine lv_iadd hx hb dX2_listen_83 ?_
    refine lv_dup2_11 hx hb dX2_listen_84 rfl rfl ?_
    obtain ⟨hv, hw⟩ := hw
    refine m_iald E hM (isO_at ho.1 11 rfl).2 hv dX2_listen_85 ?_
    refine lv_iconst (v := 1) hx hb dX2_listen_86 (by decide) ?_
    refine lv_iload_n hx hb dX2_listen_87 rfl (lv_at hl 2 rfl) ?_
    refine lv_ishl hx hb dX2_listen_88 ?_
    refine lv_ior hx hb dX2_listen_89 ?_
    obtain ⟨hv, hw⟩ := hw
    refine m_iast E hM hS (isO_at ho.1 11 rfl).2 hv dX2_listen_90 (fun I6 H locs eI6 hM hS => ?_)
    have hw := hw I6 eI6
    obtain ⟨x7, ex7⟩ : ∃ y : Int32, y = v4 + 1 := ⟨_, rfl⟩
    have hw := hw x7 ex7
    refine lv_iinc (v := x7) (lv' := [(4, .int x7), (0, .ref (ad bs o)), (1, .int v1), (2, .int v2)]) hx hb dX2_listen_91 hl (k := 3) rfl (by rw [ex7]; rfl) (by decide) rfl (fun ls hl => ?_)
    refine lv_goto (tgt := 66) hx hb dX2_listen_94 (by decide) ?_
    exact hw H locs ls  hM hS (lv_sub hl [1, 2, 3, 0] rfl)
def w_X2_listen_23 (o : Nat) (oh : Nat) (post : mI → Prop) (k10 : mI → Int32 → Prop) (I : mI) (v1 : Int32) (v2 : Int32) : Prop := ∀ ZZ : (mI → Int32 → Int32 → Prop), (∀ (I : mI) (v1 : Int32) (v2 : Int32), (((I oh 2) ≤ v2 → ∀ x2, x2 = v1 + 1 → k10 I x2) ∧ (¬ (I oh 2) ≤ v2 → vp_in v2 6 ∧ ∀ x3, x3 = (iabs ((I (oh + 2) v2.toNatClampNeg) - v1)) → vp_in v2 6 ∧ ∀ x4, x4 = (imax 1 (x3 - (I (oh + 3) v2.toNatClampNeg))) → (w_X2_listen_66 o oh post ZZ) I v1 v2 x4)) → ZZ I v1 v2) → ZZ I v1 v2
set_option maxRecDepth 100000 in
set_option maxHeartbeats 4000000 in
theorem s_X2_listen_23 {p : Program} {l : Launch} {e : Env} {s : State} {m : MethodId} {args : Array Value} {below : List Frame} {meth : Method} {c : Code} {D : va_G} {cA : Nat → ClassId} {Z : mZ} {bs : Ad} {n : Nat} {K : mK} {R : mR} {L : mL} (E : Ev p s m args c cX2_listen 5 RX2 D cA Z bs) (hr : meth.sig.returnType = none) (hlk : meth.locks = false) {o : Nat} {oh : Nat} (ho : isX2 K R o oh) {post : mI → Prop} {k10 : mI → Int32 → Prop} (hk10 : ∀ (I : mI) (v1 : Int32) (H : Heap) (locs : List Loc) (ls : Array Slot), k10 I v1 → mm D cA bs (n, K, R, I, L) H → va_S (Ab bs) s.heap H locs → lv_has ls 5 [(0, .ref (ad bs o)), (1, .int v1)] → W p l e ({ frames := 1, cells := 0, slots := 0, locals := 40 } : Room) s m args below meth c H locs 0 0 (MQ below (QV D cA bs (fun u => ∃ I', u = (n, K, R, I', L) ∧ post I')) args s 0 0 (Ab bs)) (F0 m 10 ls [])) {I : mI} {v1 : Int32} {v2 : Int32} {H : Heap} {locs : List Loc} {ls : Array Slot} (hw : w_X2_listen_23 o oh post k10 I v1 v2) (hM : mm D cA bs (n, K, R, I, L) H) (hS : va_S (Ab bs) s.heap H locs) (hl : lv_has ls 5 [(0, .ref (ad bs o)), (1, .int v1), (2, .int v2)]) : W p l e ({ frames := 1, cells := 0, slots := 0, locals := 40 } : Room) s m args below meth c H locs 0 0 (MQ below (QV D cA bs (fun u => ∃ I', u = (n, K, R, I', L) ∧ post I')) args s 0 0 (Ab bs)) (F0 m 23 ls []) := by
  have hx := E.1.1
  have hb := E.1.2.1
  refine hw (fun I v1 v2 => ∀ (H : Heap) (locs : List Loc) (ls : Array Slot), mm D cA bs (n, K, R, I, L) H → va_S (Ab bs) s.heap H locs → lv_has ls 5 [(0, .ref (ad bs o)), (1, .int v1), (2, .int v2)] → W p l e ({ frames := 1, cells := 0, slots := 0, locals := 40 } : Room) s m args below meth c H locs 0 0 (MQ below (QV D cA bs (fun u => ∃ I', u = (n, K, R, I', L) ∧ post I')) args s 0 0 (Ab bs)) (F0 m 23 ls [])) ?_ H locs ls hM hS hl
  clear hw hM hS hl
  intro I v1 v2 hw H locs ls hM hS hl
  refine lv_iload_n hx hb dX2_listen_23 rfl (lv_at hl 2 rfl) ?_
  refine lv_aload_n hx hb dX2_listen_24 rfl (lv_at hl 0 rfl) ?_
  refine m_getr E hM fs_X2_60 ho.1.1 ho.2.1 dX2_listen_25 ?_
  refine m_geti E hM fs_X2_97 ho.2.2.1 dX2_listen_28 ?_
  refine lv_icmp_ge (tgt := 103) hx hb dX2_listen_31 (by decide) (fun cq => ?_) (fun cq => ?_)
  · have hw := hw.1 cq
    obtain ⟨x2, ex2⟩ : ∃ y : Int32, y = v1 + 1 := ⟨_, rfl⟩
    have hw := hw x2 ex2
    refine lv_iinc (v := x2) (lv' := [(1, .int x2), (0, .ref (ad bs o)), (2, .int v2)]) hx hb dX2_listen_103 hl (k := 1) rfl (by rw [ex2]; rfl) (by decide) rfl (fun ls hl => ?_)
    refine lv_goto (tgt := 10) hx hb dX2_listen_106 (by decide) ?_
    exact hk10 _ _ H locs ls  hw hM hS (lv_sub hl [1, 0] rfl)
  · have hw := hw.2 cq
    refine lv_aload_n hx hb dX2_listen_34 rfl (lv_at hl 0 rfl) ?_
    refine m_getr E hM fs_X2_60 ho.1.1 ho.2.1 dX2_listen_35 ?_
    refine m_getr E hM fs_X2_100 ho.2.2.1 (isO_at ho.2.2 1 rfl).1 dX2_listen_38 ?_
    refine lv_iload_n hx hb dX2_listen_41 rfl (lv_at hl 2 rfl) ?_
    obtain ⟨hv, hw⟩ := hw
    refine m_iald E hM (isO_at ho.2.2 1 rfl).2 hv dX2_listen_42 ?_
    refine lv_iload_n hx hb dX2_listen_43 rfl (lv_at hl 1 rfl) ?_
    refine lv_isub hx hb dX2_listen_44 ?_
    refine m_abs E ml_X2_103 hl.1 (Nat.le_of_ble_eq_true rfl) (Nat.le_of_ble_eq_true rfl) (Nat.le_of_ble_eq_true rfl) (Nat.le_of_ble_eq_true rfl) dX2_listen_45 ?_
    refine lv_topi (fun x3 ex3 => ?_)
    have hw := hw x3 ex3
    refine lv_istore_n (lv' := [(3, .int x3), (0, .ref (ad bs o)), (1, .int v1), (2, .int v2)]) hx hb dX2_listen_48 rfl hl (by decide) rfl (fun ls hl => ?_)
    refine lv_iconst (v := 1) hx hb dX2_listen_49 (by decide) ?_
    refine lv_iload_n hx hb dX2_listen_50 rfl (lv_at hl 0 rfl) ?_
    refine lv_aload_n hx hb dX2_listen_51 rfl (lv_at hl 1 rfl) ?_
    refine m_getr E hM fs_X2_60 ho.1.1 ho.2.1 dX2_listen_52 ?_
    refine m_getr E hM fs_X2_109 ho.2.2.1 (isO_at ho.2.2 2 rfl).1 dX2_listen_55 ?_
    refine lv_iload_n hx hb dX2_listen_58 rfl (lv_at hl 3 rfl) ?_
    obtain ⟨hv, hw⟩ := hw
    refine m_iald E hM (isO_at ho.2.2 2 rfl).2 hv dX2_listen_59 ?_
    refine lv_isub hx hb dX2_listen_60 ?_
    refine m_max E ml_X2_112 hl.1 (Nat.le_of_ble_eq_true rfl) (Nat.le_of_ble_eq_true rfl) (Nat.le_of_ble_eq_true rfl) (Nat.le_of_ble_eq_true rfl) dX2_listen_61 ?_
    refine lv_topi (fun x4 ex4 => ?_)
    have hw := hw x4 ex4
    refine lv_istore (lv' := [(4, .int x4), (3, .int x3), (0, .ref (ad bs o)), (1, .int v1), (2, .int v2)]) hx hb dX2_listen_64 hl (by decide) rfl (fun ls hl => ?_)
    exact s_X2_listen_66 E hr hlk ho (fun I v1 v2 H locs ls  hw hM hS hl => hw H locs ls  hM hS hl)  hw hM hS (lv_sub hl [2, 3, 4, 0] rfl)
def w_X2_listen_10 (o : Nat) (oh : Nat) (post : mI → Prop) (I : mI) (v1 : Int32) : Prop := ∀ ZZ : (mI → Int32 → Prop), (∀ (I : mI) (v1 : Int32), (((I oh 0) ≤ v1 → post I) ∧ (¬ (I oh 0) ≤ v1 → (w_X2_listen_23 o oh post ZZ) I v1 0)) → ZZ I v1) → ZZ I v1
set_option maxRecDepth 100000 in
set_option maxHeartbeats 4000000 in
theorem s_X2_listen_10 {p : Program} {l : Launch} {e : Env} {s : State} {m : MethodId} {args : Array Value} {below : List Frame} {meth : Method} {c : Code} {D : va_G} {cA : Nat → ClassId} {Z : mZ} {bs : Ad} {n : Nat} {K : mK} {R : mR} {L : mL} (E : Ev p s m args c cX2_listen 5 RX2 D cA Z bs) (hr : meth.sig.returnType = none) (hlk : meth.locks = false) {o : Nat} {oh : Nat} (ho : isX2 K R o oh) {post : mI → Prop} {I : mI} {v1 : Int32} {H : Heap} {locs : List Loc} {ls : Array Slot} (hw : w_X2_listen_10 o oh post I v1) (hM : mm D cA bs (n, K, R, I, L) H) (hS : va_S (Ab bs) s.heap H locs) (hl : lv_has ls 5 [(0, .ref (ad bs o)), (1, .int v1)]) : W p l e ({ frames := 1, cells := 0, slots := 0, locals := 40 } : Room) s m args below meth c H locs 0 0 (MQ below (QV D cA bs (fun u => ∃ I', u = (n, K, R, I', L) ∧ post I')) args s 0 0 (Ab bs)) (F0 m 10 ls []) := by
  have hx := E.1.1
  have hb := E.1.2.1
  refine hw (fun I v1 => ∀ (H : Heap) (locs : List Loc) (ls : Array Slot), mm D cA bs (n, K, R, I, L) H → va_S (Ab bs) s.heap H locs → lv_has ls 5 [(0, .ref (ad bs o)), (1, .int v1)] → W p l e ({ frames := 1, cells := 0, slots := 0, locals := 40 } : Room) s m args below meth c H locs 0 0 (MQ below (QV D cA bs (fun u => ∃ I', u = (n, K, R, I', L) ∧ post I')) args s 0 0 (Ab bs)) (F0 m 10 ls [])) ?_ H locs ls hM hS hl
  clear hw hM hS hl
  intro I v1 hw H locs ls hM hS hl
  refine lv_iload_n hx hb dX2_listen_10 rfl (lv_at hl 1 rfl) ?_
  refine lv_aload_n hx hb dX2_listen_11 rfl (lv_at hl 0 rfl) ?_
  refine m_getr E hM fs_X2_60 ho.1.1 ho.2.1 dX2_listen_12 ?_
  refine m_geti E hM fs_X2_94 ho.2.2.1 dX2_listen_15 ?_
  refine lv_icmp_ge (tgt := 109) hx hb dX2_listen_18 (by decide) (fun cq => ?_) (fun cq => ?_)
  · have hw := hw.1 cq
    exact m_retv hx hb hr hlk hM hS ⟨_, rfl, hw⟩ dX2_listen_109
  · have hw := hw.2 cq
    refine lv_iconst (v := 0) hx hb dX2_listen_21 (by decide) ?_
    refine lv_istore_n (lv' := [(2, .int 0), (0, .ref (ad bs o)), (1, .int v1)]) hx hb dX2_listen_22 rfl hl (by decide) rfl (fun ls hl => ?_)
    exact s_X2_listen_23 E hr hlk ho (fun I v1 H locs ls  hw hM hS hl => hw H locs ls  hM hS hl)  hw hM hS (lv_sub hl [1, 2, 0] rfl)
def w_X2_listen (I : mI) (o : Nat) (oh : Nat) (post : mI → Prop) : Prop := w_J7_fill_53178 I (o + 12) 456 0 (fun I1 => (w_X2_listen_10 o oh post) I1 0)
set_option maxRecDepth 100000 in
set_option maxHeartbeats 4000000 in
theorem c_X2_listen {l : Launch} {D : va_G} {cA : Nat → ClassId} {Z : mZ} {bs : Ad} {n : Nat} {K : mK} {R : mR} {I : mI} {L : mL} {o : Nat} {oh : Nat} {post : mI → Prop} (ho : isX2 K R o oh) (hw : w_X2_listen I o oh post) : Met l yX2_listen (.code yX2_listen cX2_listen 5 none :: gw) ({ frames := 1, cells := 0, slots := 0, locals := 40 } : Room) (PreM D cA Z bs (n, K, R, I, L) [.ref (ad bs o)]) (QV D cA bs (fun u => ∃ I', u = (n, K, R, I', L) ∧ post I')) 0 0 (Ab bs) := by
  refine m_met (by decide) (Nat.le_of_ble_eq_true rfl) (fun p e s m below meth c ls E hr hlk hM hS hl => ?_)
  have E : Ev p s m _ c cX2_listen 5 RX2 D cA Z bs := E
  have hl : lv_has ls 5 [(0, .ref (ad bs o))] := hl
  have hx := E.1.1
  have hb := E.1.2.1
  generalize hHe : s.heap = H at hM ⊢
  have hS : va_S (Ab bs) s.heap H [] := by rw [← hHe]; exact va_S.rf
  clear hHe
  refine lv_aload_n hx hb dX2_listen_0 rfl (lv_at hl 0 rfl) ?_
  refine m_getr E hM fs_X2_45 ho.1.1 (isO_at ho.1 11 rfl).1 dX2_listen_1 ?_
  refine lv_iconst (v := 0) hx hb dX2_listen_4 (by decide) ?_
  refine m_cv (m_runS E hM hS cs_X2_68 (c_J7_fill_53178 ((isO_at ho.1 11 rfl).2) hw) rfl rfl ⟨Nat.le_of_ble_eq_true rfl, Nat.le_of_ble_eq_true rfl⟩ rfl hl.1 rfl (Nat.le_of_ble_eq_true rfl) dX2_listen_5 ⟨Nat.le_of_ble_eq_true rfl, Nat.le_of_ble_eq_true rfl⟩) hS (fun u H locs hp hM hS => ?_)
  obtain ⟨I1, rfl, hw⟩ := hp
  refine lv_iconst (v := 0) hx hb dX2_listen_8 (by decide) ?_
  refine lv_istore_n (lv' := [(1, .int 0), (0, .ref (ad bs o))]) hx hb dX2_listen_9 rfl hl (by decide) rfl (fun ls hl => ?_)
  exact s_X2_listen_10 E hr hlk ho  hw hM hS (lv_sub hl [1, 0] rfl)
theorem dX3_walks_0 : decode cX3_walks 0 = .ok (.aload_n 0, 1) := by decide +kernel
theorem dX3_walks_1 : decode cX3_walks 1 = .ok (.getfield 36, 3) := by decide +kernel
theorem dX3_walks_4 : decode cX3_walks 4 = .ok (.iload_n 1, 1) := by decide +kernel
theorem dX3_walks_5 : decode cX3_walks 5 = .ok (.iaload, 1) := by decide +kernel
theorem dX3_walks_6 : decode cX3_walks 6 = .ok (.ifCond .le 7, 3) := by decide +kernel
theorem dX3_walks_9 : decode cX3_walks 9 = .ok (.iconst 1, 1) := by decide +kernel
theorem dX3_walks_10 : decode cX3_walks 10 = .ok (.goto 4, 3) := by decide +kernel
theorem dX3_walks_13 : decode cX3_walks 13 = .ok (.iconst 0, 1) := by decide +kernel
theorem dX3_walks_14 : decode cX3_walks 14 = .ok (.ireturn, 1) := by decide +kernel
def w_X3_walks (I : mI) (o : Nat) (a1 : Int32) (post : Bool → Prop) : Prop := vp_in a1 6 ∧ ((I (o + 9) a1.toNatClampNeg) ≤ 0 → post false) ∧ (¬ (I (o + 9) a1.toNatClampNeg) ≤ 0 → post true)
set_option maxRecDepth 100000 in
set_option maxHeartbeats 4000000 in
theorem c_X3_walks {l : Launch} {D : va_G} {cA : Nat → ClassId} {Z : mZ} {bs : Ad} {n : Nat} {K : mK} {R : mR} {I : mI} {L : mL} {o : Nat} {a1 : Int32} {post : Bool → Prop} (ho : isX3 K R o) (hw : w_X3_walks I o a1 post) : Met l yX3_walks (.code yX3_walks cX3_walks 2 (some .boolean) :: gw) ({ frames := 0, cells := 0, slots := 0, locals := 0 } : Room) (PreM D cA Z bs (n, K, R, I, L) [.ref (ad bs o), .int a1]) (QI D cA bs (fun r u => ∃ b, r = bI b ∧ u = (n, K, R, I, L) ∧ post b)) 0 0 (Ab bs) := by
  refine m_met (by decide) (Nat.le_of_ble_eq_true rfl) (fun p e s m below meth c ls E hr hlk hM hS hl => ?_)
  have E : Ev p s m _ c cX3_walks 2 RX3 D cA Z bs := E
  have hl : lv_has ls 2 [(0, .ref (ad bs o)), (1, .int a1)] := hl
  have hx := E.1.1
  have hb := E.1.2.1
  generalize hHe : s.heap = H at hM ⊢
  have hS : va_S (Ab bs) s.heap H [] := by rw [← hHe]; exact va_S.rf
  clear hHe
  refine lv_aload_n hx hb dX3_walks_0 rfl (lv_at hl 0 rfl) ?_
  refine m_getr E hM fs_X3_36 ho.1 (isO_at ho 8 rfl).1 dX3_walks_1 ?_
  refine lv_iload_n hx hb dX3_walks_4 rfl (lv_at hl 1 rfl) ?_
  obtain ⟨hv, hw⟩ := hw
  refine m_iald E hM (isO_at ho 8 rfl).2 hv dX3_walks_5 ?_
  refine lv_if_le (tgt := 13) hx hb dX3_walks_6 (by decide) (fun cq => ?_) (fun cq => ?_)
  · have hw := hw.1 cq
    refine lv_iconst (v := 0) hx hb dX3_walks_13 (by decide) ?_
    exact m_retz hx hb hr hlk (Or.inl rfl) hM hS ⟨false, rfl, rfl, hw⟩ dX3_walks_14
  · have hw := hw.2 cq
    refine lv_iconst (v := 1) hx hb dX3_walks_9 (by decide) ?_
    refine lv_goto (tgt := 14) hx hb dX3_walks_10 (by decide) ?_
    exact m_retz hx hb hr hlk (Or.inr rfl) hM hS ⟨true, rfl, rfl, hw⟩ dX3_walks_14
