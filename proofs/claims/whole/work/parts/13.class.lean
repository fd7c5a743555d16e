theorem dX5_readFurtherGoals_0 : decode cX5_readFurtherGoals 0 = .ok (.aload_n 0, 1) := by decide +kernel
theorem dX5_readFurtherGoals_1 : decode cX5_readFurtherGoals 1 = .ok (.iconst 1, 1) := by decide +kernel
theorem dX5_readFurtherGoals_2 : decode cX5_readFurtherGoals 2 = .ok (.putfield 156, 3) := by decide +kernel
theorem dX5_readFurtherGoals_5 : decode cX5_readFurtherGoals 5 = .ok (.iconst 0, 1) := by decide +kernel
theorem dX5_readFurtherGoals_6 : decode cX5_readFurtherGoals 6 = .ok (.istore_n 1, 1) := by decide +kernel
theorem dX5_readFurtherGoals_7 : decode cX5_readFurtherGoals 7 = .ok (.iload_n 1, 1) := by decide +kernel
theorem dX5_readFurtherGoals_8 : decode cX5_readFurtherGoals 8 = .ok (.aload_n 0, 1) := by decide +kernel
theorem dX5_readFurtherGoals_9 : decode cX5_readFurtherGoals 9 = .ok (.getfield 39, 3) := by decide +kernel
theorem dX5_readFurtherGoals_12 : decode cX5_readFurtherGoals 12 = .ok (.if_icmp .ge 73, 3) := by decide +kernel
theorem dX5_readFurtherGoals_15 : decode cX5_readFurtherGoals 15 = .ok (.aload_n 0, 1) := by decide +kernel
theorem dX5_readFurtherGoals_16 : decode cX5_readFurtherGoals 16 = .ok (.getfield 67, 3) := by decide +kernel
theorem dX5_readFurtherGoals_19 : decode cX5_readFurtherGoals 19 = .ok (.iconst 2, 1) := by decide +kernel
theorem dX5_readFurtherGoals_20 : decode cX5_readFurtherGoals 20 = .ok (.if_icmp .ne 65, 3) := by decide +kernel
theorem dX5_readFurtherGoals_23 : decode cX5_readFurtherGoals 23 = .ok (.aload_n 0, 1) := by decide +kernel
theorem dX5_readFurtherGoals_24 : decode cX5_readFurtherGoals 24 = .ok (.iconst 5, 1) := by decide +kernel
theorem dX5_readFurtherGoals_25 : decode cX5_readFurtherGoals 25 = .ok (.iconst 3, 1) := by decide +kernel
theorem dX5_readFurtherGoals_26 : decode cX5_readFurtherGoals 26 = .ok (.invokevirtual 150, 3) := by decide +kernel
theorem dX5_readFurtherGoals_29 : decode cX5_readFurtherGoals 29 = .ok (.aload_n 0, 1) := by decide +kernel
theorem dX5_readFurtherGoals_30 : decode cX5_readFurtherGoals 30 = .ok (.getfield 156, 3) := by decide +kernel
theorem dX5_readFurtherGoals_33 : decode cX5_readFurtherGoals 33 = .ok (.bipush 8, 2) := by decide +kernel
theorem dX5_readFurtherGoals_35 : decode cX5_readFurtherGoals 35 = .ok (.if_icmp .ge 31, 3) := by decide +kernel
theorem dX5_readFurtherGoals_38 : decode cX5_readFurtherGoals 38 = .ok (.aload_n 0, 1) := by decide +kernel
theorem dX5_readFurtherGoals_39 : decode cX5_readFurtherGoals 39 = .ok (.getfield 25, 3) := by decide +kernel
theorem dX5_readFurtherGoals_42 : decode cX5_readFurtherGoals 42 = .ok (.iconst 3, 1) := by decide +kernel
theorem dX5_readFurtherGoals_43 : decode cX5_readFurtherGoals 43 = .ok (.aload_n 0, 1) := by decide +kernel
theorem dX5_readFurtherGoals_44 : decode cX5_readFurtherGoals 44 = .ok (.getfield 156, 3) := by decide +kernel
theorem dX5_readFurtherGoals_47 : decode cX5_readFurtherGoals 47 = .ok (.iadd, 1) := by decide +kernel
theorem dX5_readFurtherGoals_48 : decode cX5_readFurtherGoals 48 = .ok (.aload_n 0, 1) := by decide +kernel
theorem dX5_readFurtherGoals_49 : decode cX5_readFurtherGoals 49 = .ok (.getfield 153, 3) := by decide +kernel
theorem dX5_readFurtherGoals_52 : decode cX5_readFurtherGoals 52 = .ok (.iastore, 1) := by decide +kernel
theorem dX5_readFurtherGoals_53 : decode cX5_readFurtherGoals 53 = .ok (.aload_n 0, 1) := by decide +kernel
theorem dX5_readFurtherGoals_54 : decode cX5_readFurtherGoals 54 = .ok (.dup, 1) := by decide +kernel
theorem dX5_readFurtherGoals_55 : decode cX5_readFurtherGoals 55 = .ok (.getfield 156, 3) := by decide +kernel
theorem dX5_readFurtherGoals_58 : decode cX5_readFurtherGoals 58 = .ok (.iconst 1, 1) := by decide +kernel
theorem dX5_readFurtherGoals_59 : decode cX5_readFurtherGoals 59 = .ok (.iadd, 1) := by decide +kernel
theorem dX5_readFurtherGoals_60 : decode cX5_readFurtherGoals 60 = .ok (.putfield 156, 3) := by decide +kernel
theorem dX5_readFurtherGoals_63 : decode cX5_readFurtherGoals 63 = .ok (.goto 12, 3) := by decide +kernel
theorem dX5_readFurtherGoals_66 : decode cX5_readFurtherGoals 66 = .ok (.aload_n 0, 1) := by decide +kernel
theorem dX5_readFurtherGoals_67 : decode cX5_readFurtherGoals 67 = .ok (.iconst 3, 1) := by decide +kernel
theorem dX5_readFurtherGoals_68 : decode cX5_readFurtherGoals 68 = .ok (.aload_n 0, 1) := by decide +kernel
theorem dX5_readFurtherGoals_69 : decode cX5_readFurtherGoals 69 = .ok (.getfield 95, 3) := by decide +kernel
theorem dX5_readFurtherGoals_72 : decode cX5_readFurtherGoals 72 = .ok (.invokevirtual 80, 3) := by decide +kernel
theorem dX5_readFurtherGoals_75 : decode cX5_readFurtherGoals 75 = .ok (.aload_n 0, 1) := by decide +kernel
theorem dX5_readFurtherGoals_76 : decode cX5_readFurtherGoals 76 = .ok (.invokevirtual 64, 3) := by decide +kernel
theorem dX5_readFurtherGoals_79 : decode cX5_readFurtherGoals 79 = .ok (.iinc 1 1, 3) := by decide +kernel
theorem dX5_readFurtherGoals_82 : decode cX5_readFurtherGoals 82 = .ok (.goto (-75), 3) := by decide +kernel
theorem dX5_readFurtherGoals_85 : decode cX5_readFurtherGoals 85 = .ok (.return_, 1) := by decide +kernel
def w_X5_readFurtherGoals_75 (o : Nat) (otp : Nat) (post : mI → Prop) (k7 : mI → Int32 → Prop) (I : mI) (v1 : Int32) : Prop := w_X5_nextToken I o otp (fun I6 => ∀ x7, x7 = v1 + 1 → k7 I6 x7)
set_option maxRecDepth 100000 in
set_option maxHeartbeats 4000000 in
theorem s_X5_readFurtherGoals_75 {p : Program} {l : Launch} {e : Env} {s : State} {m : MethodId} {args : Array Value} {below : List Frame} {meth : Method} {c : Code} {D : va_G} {cA : Nat → ClassId} {Z : mZ} {bs : Ad} {n : Nat} {K : mK} {R : mR} {L : mL} (E : Ev p s m args c cX5_readFurtherGoals 2 RX5 D cA Z bs) (hr : meth.sig.returnType = none) (hlk : meth.locks = false) {o : Nat} {otp : Nat} (ho : isX5 K R o otp) {post : mI → Prop} {k7 : mI → Int32 → Prop} (hk7 : ∀ (I : mI) (v1 : Int32) (H : Heap) (locs : List Loc) (ls : Array Slot), k7 I v1 → mm D cA bs (n, K, R, I, L) H → va_S (Ab bs) s.heap H locs → lv_has ls 2 [(0, .ref (ad bs o)), (1, .int v1)] → W p l e ({ frames := 3, cells := 0, slots := 0, locals := 60 } : Room) s m args below meth c H locs 0 0 (MQ below (QV D cA bs (fun u => ∃ I', u = (n, K, R, I', L) ∧ post I')) args s 0 0 (Ab bs)) (F0 m 7 ls [])) {I : mI} {v1 : Int32} {H : Heap} {locs : List Loc} {ls : Array Slot} (hw : w_X5_readFurtherGoals_75 o otp post k7 I v1) (hM : mm D cA bs (n, K, R, I, L) H) (hS : va_S (Ab bs) s.heap H locs) (hl : lv_has ls 2 [(0, .ref (ad bs o)), (1, .int v1)]) : W p l e ({ frames := 3, cells := 0, slots := 0, locals := 60 } : Room) s m args below meth c H locs 0 0 (MQ below (QV D cA bs (fun u => ∃ I', u = (n, K, R, I', L) ∧ post I')) args s 0 0 (Ab bs)) (F0 m 75 ls []) := by
  have hx := E.1.1
  have hb := E.1.2.1
  refine lv_aload_n hx hb dX5_readFurtherGoals_75 rfl (lv_at hl 0 rfl) ?_
  refine m_cv (m_runV E hM hS cs_X5_64 ho.1.1 (by decide) rfl rfl (c_X5_nextToken ho hw) rfl rfl ⟨Nat.le_of_ble_eq_true rfl, Nat.le_of_ble_eq_true rfl⟩ rfl hl.1 rfl (Nat.le_of_ble_eq_true rfl) dX5_readFurtherGoals_76 ⟨Nat.le_of_ble_eq_true rfl, Nat.le_of_ble_eq_true rfl⟩) hS (fun u H locs hp hM hS => ?_)
  obtain ⟨I6, rfl, hw⟩ := hp
  obtain ⟨x7, ex7⟩ : ∃ y : Int32, y = v1 + 1 := ⟨_, rfl⟩
  have hw := hw x7 ex7
  refine lv_iinc (v := x7) (lv' := [(1, .int x7), (0, .ref (ad bs o))]) hx hb dX5_readFurtherGoals_79 hl (k := 1) rfl (by rw [ex7]; rfl) (by decide) rfl (fun ls hl => ?_)
  refine lv_goto (tgt := 7) hx hb dX5_readFurtherGoals_82 (by decide) ?_
  exact hk7 _ _ H locs ls  hw hM hS (lv_sub hl [1, 0] rfl)
def w_X5_readFurtherGoals_7 (o : Nat) (otp : Nat) (post : mI → Prop) (I : mI) (v1 : Int32) : Prop := ∀ ZZ : (mI → Int32 → Prop), (∀ (I : mI) (v1 : Int32), (((I o 5) ≤ v1 → post I) ∧ (¬ (I o 5) ≤ v1 → (¬ (I o 7) = 2 → post I) ∧ ((I o 7) = 2 → w_X5_weigh I o otp 5 3 (fun I2 => (8 ≤ (I2 o 11) → w_X5_blame I2 o otp 3 (I2 o 8) (fun I3 => (w_X5_readFurtherGoals_75 o otp post ZZ) I3 v1)) ∧ (¬ 8 ≤ (I2 o 11) → vp_in (3 + (I2 o 11)) 11 ∧ ∀ I4, I4 = up2 I2 (o + 20) ((3 + (I2 o 11)).toNatClampNeg) (I2 o 9) → ∀ I5, I5 = up2 I4 o 11 ((I4 o 11) + 1) → (w_X5_readFurtherGoals_75 o otp post ZZ) I5 v1))))) → ZZ I v1) → ZZ I v1
set_option maxRecDepth 100000 in
set_option maxHeartbeats 4000000 in
theorem s_X5_readFurtherGoals_7 {p : Program} {l : Launch} {e : Env} {s : State} {m : MethodId} {args : Array Value} {below : List Frame} {meth : Method} {c : Code} {D : va_G} {cA : Nat → ClassId} {Z : mZ} {bs : Ad} {n : Nat} {K : mK} {R : mR} {L : mL} (E : Ev p s m args c cX5_readFurtherGoals 2 RX5 D cA Z bs) (hr : meth.sig.returnType = none) (hlk : meth.locks = false) {o : Nat} {otp : Nat} (ho : isX5 K R o otp) {post : mI → Prop} {I : mI} {v1 : Int32} {H : Heap} {locs : List Loc} {ls : Array Slot} (hw : w_X5_readFurtherGoals_7 o otp post I v1) (hM : mm D cA bs (n, K, R, I, L) H) (hS : va_S (Ab bs) s.heap H locs) (hl : lv_has ls 2 [(0, .ref (ad bs o)), (1, .int v1)]) : W p l e ({ frames := 3, cells := 0, slots := 0, locals := 60 } : Room) s m args below meth c H locs 0 0 (MQ below (QV D cA bs (fun u => ∃ I', u = (n, K, R, I', L) ∧ post I')) args s 0 0 (Ab bs)) (F0 m 7 ls []) := by
  have hx := E.1.1
  have hb := E.1.2.1
  refine hw (fun I v1 => ∀ (H : Heap) (locs : List Loc) (ls : Array Slot), mm D cA bs (n, K, R, I, L) H → va_S (Ab bs) s.heap H locs → lv_has ls 2 [(0, .ref (ad bs o)), (1, .int v1)] → W p l e ({ frames := 3, cells := 0, slots := 0, locals := 60 } : Room) s m args below meth c H locs 0 0 (MQ below (QV D cA bs (fun u => ∃ I', u = (n, K, R, I', L) ∧ post I')) args s 0 0 (Ab bs)) (F0 m 7 ls [])) ?_ H locs ls hM hS hl
  clear hw hM hS hl
  intro I v1 hw H locs ls hM hS hl
  refine lv_iload_n hx hb dX5_readFurtherGoals_7 rfl (lv_at hl 1 rfl) ?_
  refine lv_aload_n hx hb dX5_readFurtherGoals_8 rfl (lv_at hl 0 rfl) ?_
  refine m_geti E hM fs_X5_39 ho.1.1 dX5_readFurtherGoals_9 ?_
  refine lv_icmp_ge (tgt := 85) hx hb dX5_readFurtherGoals_12 (by decide) (fun cq => ?_) (fun cq => ?_)
  · have hw := hw.1 cq
    exact m_retv hx hb hr hlk hM hS ⟨_, rfl, hw⟩ dX5_readFurtherGoals_85
  · have hw := hw.2 cq
    refine lv_aload_n hx hb dX5_readFurtherGoals_15 rfl (lv_at hl 0 rfl) ?_
    refine m_geti E hM fs_X5_67 ho.1.1 dX5_readFurtherGoals_16 ?_
    refine lv_iconst (v := 2) hx hb dX5_readFurtherGoals_19 (by decide) ?_
    refine lv_icmp_ne (tgt := 85) hx hb dX5_readFurtherGoals_20 (by decide) (fun cq => ?_) (fun cq => ?_)
    · have hw := hw.1 cq
      exact m_retv hx hb hr hlk hM hS ⟨_, rfl, hw⟩ dX5_readFurtherGoals_85
    · have hw := hw.2 cq
      refine lv_aload_n hx hb dX5_readFurtherGoals_23 rfl (lv_at hl 0 rfl) ?_
      refine lv_iconst (v := 5) hx hb dX5_readFurtherGoals_24 (by decide) ?_
      refine lv_iconst (v := 3) hx hb dX5_readFurtherGoals_25 (by decide) ?_
      refine m_cv (m_runV E hM hS cs_X5_150 ho.1.1 (by decide) rfl rfl (c_X5_weigh ho hw) rfl rfl ⟨Nat.le_of_ble_eq_true rfl, Nat.le_of_ble_eq_true rfl⟩ rfl hl.1 rfl (Nat.le_of_ble_eq_true rfl) dX5_readFurtherGoals_26 ⟨Nat.le_of_ble_eq_true rfl, Nat.le_of_ble_eq_true rfl⟩) hS (fun u H locs hp hM hS => ?_)
      obtain ⟨I2, rfl, hw⟩ := hp
      refine lv_aload_n hx hb dX5_readFurtherGoals_29 rfl (lv_at hl 0 rfl) ?_
      refine m_geti E hM fs_X5_156 ho.1.1 dX5_readFurtherGoals_30 ?_
      refine lv_bipush (v := 8) hx hb dX5_readFurtherGoals_33 (by decide) ?_
      refine lv_icmp_ge (tgt := 66) hx hb dX5_readFurtherGoals_35 (by decide) (fun cq => ?_) (fun cq => ?_)
      · have hw := hw.1 cq
        refine lv_aload_n hx hb dX5_readFurtherGoals_66 rfl (lv_at hl 0 rfl) ?_
        refine lv_iconst (v := 3) hx hb dX5_readFurtherGoals_67 (by decide) ?_
        refine lv_aload_n hx hb dX5_readFurtherGoals_68 rfl (lv_at hl 0 rfl) ?_
        refine m_geti E hM fs_X5_95 ho.1.1 dX5_readFurtherGoals_69 ?_
        refine m_cv (m_runV E hM hS cs_X5_80 ho.1.1 (by decide) rfl rfl (c_X5_blame ho hw) rfl rfl ⟨Nat.le_of_ble_eq_true rfl, Nat.le_of_ble_eq_true rfl⟩ rfl hl.1 rfl (Nat.le_of_ble_eq_true rfl) dX5_readFurtherGoals_72 ⟨Nat.le_of_ble_eq_true rfl, Nat.le_of_ble_eq_true rfl⟩) hS (fun u H locs hp hM hS => ?_)
        obtain ⟨I3, rfl, hw⟩ := hp
        exact s_X5_readFurtherGoals_75 E hr hlk ho (fun I v1 H locs ls  hw hM hS hl => hw H locs ls  hM hS hl)  hw hM hS (lv_sub hl [0, 1] rfl)
      · have hw := hw.2 cq
        refine lv_aload_n hx hb dX5_readFurtherGoals_38 rfl (lv_at hl 0 rfl) ?_
        refine m_getr E hM fs_X5_25 ho.1.1 (isO_at ho.1 0 rfl).1 dX5_readFurtherGoals_39 ?_
        refine lv_iconst (v := 3) hx hb dX5_readFurtherGoals_42 (by decide) ?_
        refine lv_aload_n hx hb dX5_readFurtherGoals_43 rfl (lv_at hl 0 rfl) ?_
        refine m_geti E hM fs_X5_156 ho.1.1 dX5_readFurtherGoals_44 ?_
        refine lv_iadd hx hb dX5_readFurtherGoals_47 ?_
        refine lv_aload_n hx hb dX5_readFurtherGoals_48 rfl (lv_at hl 0 rfl) ?_
        refine m_geti E hM fs_X5_153 ho.1.1 dX5_readFurtherGoals_49 ?_
        obtain ⟨hv, hw⟩ := hw
        refine m_iast E hM hS (isO_at ho.1 0 rfl).2 hv dX5_readFurtherGoals_52 (fun I4 H locs eI4 hM hS => ?_)
        have hw := hw I4 eI4
        refine lv_aload_n hx hb dX5_readFurtherGoals_53 rfl (lv_at hl 0 rfl) ?_
        refine lv_dup hx hb dX5_readFurtherGoals_54 rfl ?_
        refine m_geti E hM fs_X5_156 ho.1.1 dX5_readFurtherGoals_55 ?_
        refine lv_iconst (v := 1) hx hb dX5_readFurtherGoals_58 (by decide) ?_
        refine lv_iadd hx hb dX5_readFurtherGoals_59 ?_
        refine m_puti E hM hS fp_X5_156 ho.1.1 rfl rfl dX5_readFurtherGoals_60 (fun I5 H locs eI5 hM hS => ?_)
        have hw := hw I5 eI5
        refine lv_goto (tgt := 75) hx hb dX5_readFurtherGoals_63 (by decide) ?_
        exact s_X5_readFurtherGoals_75 E hr hlk ho (fun I v1 H locs ls  hw hM hS hl => hw H locs ls  hM hS hl)  hw hM hS (lv_sub hl [0, 1] rfl)
def w_X5_readFurtherGoals (I : mI) (o : Nat) (otp : Nat) (post : mI → Prop) : Prop := ∀ I1, I1 = up2 I o 11 1 → (w_X5_readFurtherGoals_7 o otp post) I1 0
set_option maxRecDepth 100000 in
set_option maxHeartbeats 4000000 in
theorem c_X5_readFurtherGoals {l : Launch} {D : va_G} {cA : Nat → ClassId} {Z : mZ} {bs : Ad} {n : Nat} {K : mK} {R : mR} {I : mI} {L : mL} {o : Nat} {otp : Nat} {post : mI → Prop} (ho : isX5 K R o otp) (hw : w_X5_readFurtherGoals I o otp post) : Met l yX5_readFurtherGoals (.code yX5_readFurtherGoals cX5_readFurtherGoals 2 none :: gw) ({ frames := 3, cells := 0, slots := 0, locals := 60 } : Room) (PreM D cA Z bs (n, K, R, I, L) [.ref (ad bs o)]) (QV D cA bs (fun u => ∃ I', u = (n, K, R, I', L) ∧ post I')) 0 0 (Ab bs) := by
  refine m_met (by decide) (Nat.le_of_ble_eq_true rfl) (fun p e s m below meth c ls E hr hlk hM hS hl => ?_)
  have E : Ev p s m _ c cX5_readFurtherGoals 2 RX5 D cA Z bs := E
  have hl : lv_has ls 2 [(0, .ref (ad bs o))] := hl
  have hx := E.1.1
  have hb := E.1.2.1
  generalize hHe : s.heap = H at hM ⊢
  have hS : va_S (Ab bs) s.heap H [] := by rw [← hHe]; exact va_S.rf
  clear hHe
  refine lv_aload_n hx hb dX5_readFurtherGoals_0 rfl (lv_at hl 0 rfl) ?_
  refine lv_iconst (v := 1) hx hb dX5_readFurtherGoals_1 (by decide) ?_
  refine m_puti E hM hS fp_X5_156 ho.1.1 rfl rfl dX5_readFurtherGoals_2 (fun I1 H locs eI1 hM hS => ?_)
  have hw := hw I1 eI1
  refine lv_iconst (v := 0) hx hb dX5_readFurtherGoals_5 (by decide) ?_
  refine lv_istore_n (lv' := [(1, .int 0), (0, .ref (ad bs o))]) hx hb dX5_readFurtherGoals_6 rfl hl (by decide) rfl (fun ls hl => ?_)
  exact s_X5_readFurtherGoals_7 E hr hlk ho  hw hM hS (lv_sub hl [1, 0] rfl)
theorem dX5_tellCarpet_0 : decode cX5_tellCarpet 0 = .ok (.aload_n 0, 1) := by decide +kernel
theorem dX5_tellCarpet_1 : decode cX5_tellCarpet 1 = .ok (.getfield 12, 3) := by decide +kernel
theorem dX5_tellCarpet_4 : decode cX5_tellCarpet 4 = .ok (.getfield 185, 3) := by decide +kernel
theorem dX5_tellCarpet_7 : decode cX5_tellCarpet 7 = .ok (.aload_n 0, 1) := by decide +kernel
theorem dX5_tellCarpet_8 : decode cX5_tellCarpet 8 = .ok (.getfield 25, 3) := by decide +kernel
theorem dX5_tellCarpet_11 : decode cX5_tellCarpet 11 = .ok (.iconst 0, 1) := by decide +kernel
theorem dX5_tellCarpet_12 : decode cX5_tellCarpet 12 = .ok (.iaload, 1) := by decide +kernel
theorem dX5_tellCarpet_13 : decode cX5_tellCarpet 13 = .ok (.aload_n 0, 1) := by decide +kernel
theorem dX5_tellCarpet_14 : decode cX5_tellCarpet 14 = .ok (.getfield 25, 3) := by decide +kernel
theorem dX5_tellCarpet_17 : decode cX5_tellCarpet 17 = .ok (.iconst 1, 1) := by decide +kernel
theorem dX5_tellCarpet_18 : decode cX5_tellCarpet 18 = .ok (.iaload, 1) := by decide +kernel
theorem dX5_tellCarpet_19 : decode cX5_tellCarpet 19 = .ok (.iastore, 1) := by decide +kernel
theorem dX5_tellCarpet_20 : decode cX5_tellCarpet 20 = .ok (.aload_n 0, 1) := by decide +kernel
theorem dX5_tellCarpet_21 : decode cX5_tellCarpet 21 = .ok (.aload_n 0, 1) := by decide +kernel
theorem dX5_tellCarpet_22 : decode cX5_tellCarpet 22 = .ok (.getfield 52, 3) := by decide +kernel
theorem dX5_tellCarpet_25 : decode cX5_tellCarpet 25 = .ok (.aload_n 0, 1) := by decide +kernel
theorem dX5_tellCarpet_26 : decode cX5_tellCarpet 26 = .ok (.getfield 25, 3) := by decide +kernel
theorem dX5_tellCarpet_29 : decode cX5_tellCarpet 29 = .ok (.iconst 0, 1) := by decide +kernel
theorem dX5_tellCarpet_30 : decode cX5_tellCarpet 30 = .ok (.iaload, 1) := by decide +kernel
theorem dX5_tellCarpet_31 : decode cX5_tellCarpet 31 = .ok (.invokestatic 187, 3) := by decide +kernel
theorem dX5_tellCarpet_34 : decode cX5_tellCarpet 34 = .ok (.putfield 52, 3) := by decide +kernel
theorem dX5_tellCarpet_37 : decode cX5_tellCarpet 37 = .ok (.return_, 1) := by decide +kernel
def w_X5_tellCarpet (I : mI) (o : Nat) (otp : Nat) (post : mI → Prop) : Prop := vp_in (I (o + 20) (0 : Int32).toNatClampNeg) 24 ∧ ∀ I1, I1 = up2 I ((o + 1) + 1) ((I (o + 20) (0 : Int32).toNatClampNeg).toNatClampNeg) (I (o + 20) (1 : Int32).toNatClampNeg) → ∀ I2, I2 = up2 I1 o 12 (imax (I1 o 12) (I1 (o + 20) (0 : Int32).toNatClampNeg)) → post I2
set_option maxRecDepth 100000 in
set_option maxHeartbeats 4000000 in
theorem c_X5_tellCarpet {l : Launch} {D : va_G} {cA : Nat → ClassId} {Z : mZ} {bs : Ad} {n : Nat} {K : mK} {R : mR} {I : mI} {L : mL} {o : Nat} {otp : Nat} {post : mI → Prop} (ho : isX5 K R o otp) (hw : w_X5_tellCarpet I o otp post) : Met l yX5_tellCarpet (.code yX5_tellCarpet cX5_tellCarpet 1 none :: gw) ({ frames := 1, cells := 0, slots := 0, locals := 40 } : Room) (PreM D cA Z bs (n, K, R, I, L) [.ref (ad bs o)]) (QV D cA bs (fun u => ∃ I', u = (n, K, R, I', L) ∧ post I')) 0 0 (Ab bs) := by
  refine m_met (by decide) (Nat.le_of_ble_eq_true rfl) (fun p e s m below meth c ls E hr hlk hM hS hl => ?_)
  have E : Ev p s m _ c cX5_tellCarpet 1 RX5 D cA Z bs := E
  have hl : lv_has ls 1 [(0, .ref (ad bs o))] := hl
  have hx := E.1.1
  have hb := E.1.2.1
  generalize hHe : s.heap = H at hM ⊢
  have hS : va_S (Ab bs) s.heap H [] := by rw [← hHe]; exact va_S.rf
  clear hHe
  refine lv_aload_n hx hb dX5_tellCarpet_0 rfl (lv_at hl 0 rfl) ?_
  refine m_getr E hM fs_X5_12 ho.1.1 ho.2.1.1 dX5_tellCarpet_1 ?_
  refine m_getr E hM fs_X5_185 ho.2.1.2.1 (isO_at ho.2.1.2 0 rfl).1 dX5_tellCarpet_4 ?_
  refine lv_aload_n hx hb dX5_tellCarpet_7 rfl (lv_at hl 0 rfl) ?_
  refine m_getr E hM fs_X5_25 ho.1.1 (isO_at ho.1 0 rfl).1 dX5_tellCarpet_8 ?_
  refine lv_iconst (v := 0) hx hb dX5_tellCarpet_11 (by decide) ?_
  refine m_iald E hM (isO_at ho.1 0 rfl).2 (by unfold vp_in; decide) dX5_tellCarpet_12 ?_
  refine lv_aload_n hx hb dX5_tellCarpet_13 rfl (lv_at hl 0 rfl) ?_
  refine m_getr E hM fs_X5_25 ho.1.1 (isO_at ho.1 0 rfl).1 dX5_tellCarpet_14 ?_
  refine lv_iconst (v := 1) hx hb dX5_tellCarpet_17 (by decide) ?_
  refine m_iald E hM (isO_at ho.1 0 rfl).2 (by unfold vp_in; decide) dX5_tellCarpet_18 ?_
  obtain ⟨hv, hw⟩ := hw
  refine m_iast E hM hS (isO_at ho.2.1.2 0 rfl).2 hv dX5_tellCarpet_19 (fun I1 H locs eI1 hM hS => ?_)
  have hw := hw I1 eI1
  refine lv_aload_n hx hb dX5_tellCarpet_20 rfl (lv_at hl 0 rfl) ?_
  refine lv_aload_n hx hb dX5_tellCarpet_21 rfl (lv_at hl 0 rfl) ?_
  refine m_geti E hM fs_X5_52 ho.1.1 dX5_tellCarpet_22 ?_
  refine lv_aload_n hx hb dX5_tellCarpet_25 rfl (lv_at hl 0 rfl) ?_
  refine m_getr E hM fs_X5_25 ho.1.1 (isO_at ho.1 0 rfl).1 dX5_tellCarpet_26 ?_
  refine lv_iconst (v := 0) hx hb dX5_tellCarpet_29 (by decide) ?_
  refine m_iald E hM (isO_at ho.1 0 rfl).2 (by unfold vp_in; decide) dX5_tellCarpet_30 ?_
  refine m_max E ml_X5_187 hl.1 (Nat.le_of_ble_eq_true rfl) (Nat.le_of_ble_eq_true rfl) (Nat.le_of_ble_eq_true rfl) (Nat.le_of_ble_eq_true rfl) dX5_tellCarpet_31 ?_
  refine m_puti E hM hS fp_X5_52 ho.1.1 rfl rfl dX5_tellCarpet_34 (fun I2 H locs eI2 hM hS => ?_)
  have hw := hw I2 eI2
  exact m_retv hx hb hr hlk hM hS ⟨_, rfl, hw⟩ dX5_tellCarpet_37
theorem dX5_tellFlat_0 : decode cX5_tellFlat 0 = .ok (.aload_n 0, 1) := by decide +kernel
theorem dX5_tellFlat_1 : decode cX5_tellFlat 1 = .ok (.getfield 12, 3) := by decide +kernel
theorem dX5_tellFlat_4 : decode cX5_tellFlat 4 = .ok (.getfield 190, 3) := by decide +kernel
theorem dX5_tellFlat_7 : decode cX5_tellFlat 7 = .ok (.aload_n 0, 1) := by decide +kernel
theorem dX5_tellFlat_8 : decode cX5_tellFlat 8 = .ok (.getfield 12, 3) := by decide +kernel
theorem dX5_tellFlat_11 : decode cX5_tellFlat 11 = .ok (.getfield 144, 3) := by decide +kernel
theorem dX5_tellFlat_14 : decode cX5_tellFlat 14 = .ok (.aload_n 0, 1) := by decide +kernel
theorem dX5_tellFlat_15 : decode cX5_tellFlat 15 = .ok (.getfield 25, 3) := by decide +kernel
theorem dX5_tellFlat_18 : decode cX5_tellFlat 18 = .ok (.iconst 0, 1) := by decide +kernel
theorem dX5_tellFlat_19 : decode cX5_tellFlat 19 = .ok (.iaload, 1) := by decide +kernel
theorem dX5_tellFlat_20 : decode cX5_tellFlat 20 = .ok (.iastore, 1) := by decide +kernel
theorem dX5_tellFlat_21 : decode cX5_tellFlat 21 = .ok (.aload_n 0, 1) := by decide +kernel
theorem dX5_tellFlat_22 : decode cX5_tellFlat 22 = .ok (.getfield 12, 3) := by decide +kernel
theorem dX5_tellFlat_25 : decode cX5_tellFlat 25 = .ok (.getfield 193, 3) := by decide +kernel
theorem dX5_tellFlat_28 : decode cX5_tellFlat 28 = .ok (.aload_n 0, 1) := by decide +kernel
theorem dX5_tellFlat_29 : decode cX5_tellFlat 29 = .ok (.getfield 12, 3) := by decide +kernel
theorem dX5_tellFlat_32 : decode cX5_tellFlat 32 = .ok (.getfield 144, 3) := by decide +kernel
theorem dX5_tellFlat_35 : decode cX5_tellFlat 35 = .ok (.aload_n 0, 1) := by decide +kernel
theorem dX5_tellFlat_36 : decode cX5_tellFlat 36 = .ok (.getfield 25, 3) := by decide +kernel
theorem dX5_tellFlat_39 : decode cX5_tellFlat 39 = .ok (.iconst 1, 1) := by decide +kernel
theorem dX5_tellFlat_40 : decode cX5_tellFlat 40 = .ok (.iaload, 1) := by decide +kernel
theorem dX5_tellFlat_41 : decode cX5_tellFlat 41 = .ok (.iastore, 1) := by decide +kernel
theorem dX5_tellFlat_42 : decode cX5_tellFlat 42 = .ok (.aload_n 0, 1) := by decide +kernel
theorem dX5_tellFlat_43 : decode cX5_tellFlat 43 = .ok (.getfield 12, 3) := by decide +kernel
theorem dX5_tellFlat_46 : decode cX5_tellFlat 46 = .ok (.dup, 1) := by decide +kernel
theorem dX5_tellFlat_47 : decode cX5_tellFlat 47 = .ok (.getfield 144, 3) := by decide +kernel
theorem dX5_tellFlat_50 : decode cX5_tellFlat 50 = .ok (.iconst 1, 1) := by decide +kernel
theorem dX5_tellFlat_51 : decode cX5_tellFlat 51 = .ok (.iadd, 1) := by decide +kernel
theorem dX5_tellFlat_52 : decode cX5_tellFlat 52 = .ok (.putfield 144, 3) := by decide +kernel
theorem dX5_tellFlat_55 : decode cX5_tellFlat 55 = .ok (.aload_n 0, 1) := by decide +kernel
theorem dX5_tellFlat_56 : decode cX5_tellFlat 56 = .ok (.aload_n 0, 1) := by decide +kernel
theorem dX5_tellFlat_57 : decode cX5_tellFlat 57 = .ok (.getfield 52, 3) := by decide +kernel
theorem dX5_tellFlat_60 : decode cX5_tellFlat 60 = .ok (.aload_n 0, 1) := by decide +kernel
theorem dX5_tellFlat_61 : decode cX5_tellFlat 61 = .ok (.getfield 25, 3) := by decide +kernel
theorem dX5_tellFlat_64 : decode cX5_tellFlat 64 = .ok (.iconst 0, 1) := by decide +kernel
theorem dX5_tellFlat_65 : decode cX5_tellFlat 65 = .ok (.iaload, 1) := by decide +kernel
theorem dX5_tellFlat_66 : decode cX5_tellFlat 66 = .ok (.invokestatic 187, 3) := by decide +kernel
theorem dX5_tellFlat_69 : decode cX5_tellFlat 69 = .ok (.putfield 52, 3) := by decide +kernel
theorem dX5_tellFlat_72 : decode cX5_tellFlat 72 = .ok (.return_, 1) := by decide +kernel
def w_X5_tellFlat (I : mI) (o : Nat) (otp : Nat) (post : mI → Prop) : Prop := vp_in (I (o + 1) 2) 6 ∧ ∀ I1, I1 = up2 I ((o + 1) + 2) ((I (o + 1) 2).toNatClampNeg) (I (o + 20) (0 : Int32).toNatClampNeg) → vp_in (I1 (o + 1) 2) 6 ∧ ∀ I2, I2 = up2 I1 ((o + 1) + 3) ((I1 (o + 1) 2).toNatClampNeg) (I1 (o + 20) (1 : Int32).toNatClampNeg) → ∀ I3, I3 = up2 I2 (o + 1) 2 ((I2 (o + 1) 2) + 1) → ∀ I4, I4 = up2 I3 o 12 (imax (I3 o 12) (I3 (o + 20) (0 : Int32).toNatClampNeg)) → post I4
set_option maxRecDepth 100000 in
set_option maxHeartbeats 4000000 in
theorem c_X5_tellFlat {l : Launch} {D : va_G} {cA : Nat → ClassId} {Z : mZ} {bs : Ad} {n : Nat} {K : mK} {R : mR} {I : mI} {L : mL} {o : Nat} {otp : Nat} {post : mI → Prop} (ho : isX5 K R o otp) (hw : w_X5_tellFlat I o otp post) : Met l yX5_tellFlat (.code yX5_tellFlat cX5_tellFlat 1 none :: gw) ({ frames := 1, cells := 0, slots := 0, locals := 40 } : Room) (PreM D cA Z bs (n, K, R, I, L) [.ref (ad bs o)]) (QV D cA bs (fun u => ∃ I', u = (n, K, R, I', L) ∧ post I')) 0 0 (Ab bs) := by
  refine m_met (by decide) (Nat.le_of_ble_eq_true rfl) (fun p e s m below meth c ls E hr hlk hM hS hl => ?_)
  have E : Ev p s m _ c cX5_tellFlat 1 RX5 D cA Z bs := E
  have hl : lv_has ls 1 [(0, .ref (ad bs o))] := hl
  have hx := E.1.1
  have hb := E.1.2.1
  generalize hHe : s.heap = H at hM ⊢
  have hS : va_S (Ab bs) s.heap H [] := by rw [← hHe]; exact va_S.rf
  clear hHe
  refine lv_aload_n hx hb dX5_tellFlat_0 rfl (lv_at hl 0 rfl) ?_
  refine m_getr E hM fs_X5_12 ho.1.1 ho.2.1.1 dX5_tellFlat_1 ?_
  refine m_getr E hM fs_X5_190 ho.2.1.2.1 (isO_at ho.2.1.2 1 rfl).1 dX5_tellFlat_4 ?_
  refine lv_aload_n hx hb dX5_tellFlat_7 rfl (lv_at hl 0 rfl) ?_
  refine m_getr E hM fs_X5_12 ho.1.1 ho.2.1.1 dX5_tellFlat_8 ?_
  refine m_geti E hM fs_X5_144 ho.2.1.2.1 dX5_tellFlat_11 ?_
  refine lv_aload_n hx hb dX5_tellFlat_14 rfl (lv_at hl 0 rfl) ?_
  refine m_getr E hM fs_X5_25 ho.1.1 (isO_at ho.1 0 rfl).1 dX5_tellFlat_15 ?_
  refine lv_iconst (v := 0) hx hb dX5_tellFlat_18 (by decide) ?_
  refine m_iald E hM (isO_at ho.1 0 rfl).2 (by unfold vp_in; decide) dX5_tellFlat_19 ?_
  obtain ⟨hv, hw⟩ := hw
  refine m_iast E hM hS (isO_at ho.2.1.2 1 rfl).2 hv dX5_tellFlat_20 (fun I1 H locs eI1 hM hS => ?_)
  have hw := hw I1 eI1
  refine lv_aload_n hx hb dX5_tellFlat_21 rfl (lv_at hl 0 rfl) ?_
  refine m_getr E hM fs_X5_12 ho.1.1 ho.2.1.1 dX5_tellFlat_22 ?_
  refine m_getr E hM fs_X5_193 ho.2.1.2.1 (isO_at ho.2.1.2 2 rfl).1 dX5_tellFlat_25 ?_
  refine lv_aload_n hx hb dX5_tellFlat_28 rfl (lv_at hl 0 rfl) ?_
  refine m_getr E hM fs_X5_12 ho.1.1 ho.2.1.1 dX5_tellFlat_29 ?_
  refine m_geti E hM fs_X5_144 ho.2.1.2.1 dX5_tellFlat_32 ?_
  refine lv_aload_n hx hb dX5_tellFlat_35 rfl (lv_at hl 0 rfl) ?_
  refine m_getr E hM fs_X5_25 ho.1.1 (isO_at ho.1 0 rfl).1 dX5_tellFlat_36 ?_
  refine lv_iconst (v := 1) hx hb dX5_tellFlat_39 (by decide) ?_
  refine m_iald E hM (isO_at ho.1 0 rfl).2 (by unfold vp_in; decide) dX5_tellFlat_40 ?_
  obtain ⟨hv, hw⟩ := hw
  refine m_iast E hM hS (isO_at ho.2.1.2 2 rfl).2 hv dX5_tellFlat_41 (fun I2 H locs eI2 hM hS => ?_)
  have hw := hw I2 eI2
  refine lv_aload_n hx hb dX5_tellFlat_42 rfl (lv_at hl 0 rfl) ?_
  refine m_getr E hM fs_X5_12 ho.1.1 ho.2.1.1 dX5_tellFlat_43 ?_
  refine lv_dup hx hb dX5_tellFlat_46 rfl ?_
  refine m_geti E hM fs_X5_144 ho.2.1.2.1 dX5_tellFlat_47 ?_
  refine lv_iconst (v := 1) hx hb dX5_tellFlat_50 (by decide) ?_
  refine lv_iadd hx hb dX5_tellFlat_51 ?_
  refine m_puti E hM hS fp_X5_144 ho.2.1.2.1 rfl rfl dX5_tellFlat_52 (fun I3 H locs eI3 hM hS => ?_)
  have hw := hw I3 eI3
  refine lv_aload_n hx hb dX5_tellFlat_55 rfl (lv_at hl 0 rfl) ?_
  refine lv_aload_n hx hb dX5_tellFlat_56 rfl (lv_at hl 0 rfl) ?_
  refine m_geti E hM fs_X5_52 ho.1.1 dX5_tellFlat_57 ?_
  refine lv_aload_n hx hb dX5_tellFlat_60 rfl (lv_at hl 0 rfl) ?_
  refine m_getr E hM fs_X5_25 ho.1.1 (isO_at ho.1 0 rfl).1 dX5_tellFlat_61 ?_
  refine lv_iconst (v := 0) hx hb dX5_tellFlat_64 (by decide) ?_
  refine m_iald E hM (isO_at ho.1 0 rfl).2 (by unfold vp_in; decide) dX5_tellFlat_65 ?_
  refine m_max E ml_X5_187 hl.1 (Nat.le_of_ble_eq_true rfl) (Nat.le_of_ble_eq_true rfl) (Nat.le_of_ble_eq_true rfl) (Nat.le_of_ble_eq_true rfl) dX5_tellFlat_66 ?_
  refine m_puti E hM hS fp_X5_52 ho.1.1 rfl rfl dX5_tellFlat_69 (fun I4 H locs eI4 hM hS => ?_)
  have hw := hw I4 eI4
  exact m_retv hx hb hr hlk hM hS ⟨_, rfl, hw⟩ dX5_tellFlat_72
theorem dX5_tellPerson_0 : decode cX5_tellPerson 0 = .ok (.aload_n 0, 1) := by decide +kernel
theorem dX5_tellPerson_1 : decode cX5_tellPerson 1 = .ok (.getfield 12, 3) := by decide +kernel
theorem dX5_tellPerson_4 : decode cX5_tellPerson 4 = .ok (.getfield 196, 3) := by decide +kernel
theorem dX5_tellPerson_7 : decode cX5_tellPerson 7 = .ok (.aload_n 0, 1) := by decide +kernel
theorem dX5_tellPerson_8 : decode cX5_tellPerson 8 = .ok (.getfield 12, 3) := by decide +kernel
theorem dX5_tellPerson_11 : decode cX5_tellPerson 11 = .ok (.getfield 77, 3) := by decide +kernel
theorem dX5_tellPerson_14 : decode cX5_tellPerson 14 = .ok (.aload_n 0, 1) := by decide +kernel
theorem dX5_tellPerson_15 : decode cX5_tellPerson 15 = .ok (.getfield 25, 3) := by decide +kernel
theorem dX5_tellPerson_18 : decode cX5_tellPerson 18 = .ok (.iconst 0, 1) := by decide +kernel
theorem dX5_tellPerson_19 : decode cX5_tellPerson 19 = .ok (.iaload, 1) := by decide +kernel
theorem dX5_tellPerson_20 : decode cX5_tellPerson 20 = .ok (.iastore, 1) := by decide +kernel
theorem dX5_tellPerson_21 : decode cX5_tellPerson 21 = .ok (.aload_n 0, 1) := by decide +kernel
theorem dX5_tellPerson_22 : decode cX5_tellPerson 22 = .ok (.getfield 12, 3) := by decide +kernel
theorem dX5_tellPerson_25 : decode cX5_tellPerson 25 = .ok (.getfield 199, 3) := by decide +kernel
theorem dX5_tellPerson_28 : decode cX5_tellPerson 28 = .ok (.aload_n 0, 1) := by decide +kernel
theorem dX5_tellPerson_29 : decode cX5_tellPerson 29 = .ok (.getfield 12, 3) := by decide +kernel
theorem dX5_tellPerson_32 : decode cX5_tellPerson 32 = .ok (.getfield 77, 3) := by decide +kernel
theorem dX5_tellPerson_35 : decode cX5_tellPerson 35 = .ok (.aload_n 0, 1) := by decide +kernel
theorem dX5_tellPerson_36 : decode cX5_tellPerson 36 = .ok (.getfield 25, 3) := by decide +kernel
theorem dX5_tellPerson_39 : decode cX5_tellPerson 39 = .ok (.iconst 1, 1) := by decide +kernel
theorem dX5_tellPerson_40 : decode cX5_tellPerson 40 = .ok (.iaload, 1) := by decide +kernel
theorem dX5_tellPerson_41 : decode cX5_tellPerson 41 = .ok (.iastore, 1) := by decide +kernel
theorem dX5_tellPerson_42 : decode cX5_tellPerson 42 = .ok (.aload_n 0, 1) := by decide +kernel
theorem dX5_tellPerson_43 : decode cX5_tellPerson 43 = .ok (.getfield 12, 3) := by decide +kernel
theorem dX5_tellPerson_46 : decode cX5_tellPerson 46 = .ok (.getfield 202, 3) := by decide +kernel
theorem dX5_tellPerson_49 : decode cX5_tellPerson 49 = .ok (.aload_n 0, 1) := by decide +kernel
theorem dX5_tellPerson_50 : decode cX5_tellPerson 50 = .ok (.getfield 12, 3) := by decide +kernel
theorem dX5_tellPerson_53 : decode cX5_tellPerson 53 = .ok (.getfield 77, 3) := by decide +kernel
theorem dX5_tellPerson_56 : decode cX5_tellPerson 56 = .ok (.aload_n 0, 1) := by decide +kernel
theorem dX5_tellPerson_57 : decode cX5_tellPerson 57 = .ok (.getfield 25, 3) := by decide +kernel
theorem dX5_tellPerson_60 : decode cX5_tellPerson 60 = .ok (.iconst 2, 1) := by decide +kernel
theorem dX5_tellPerson_61 : decode cX5_tellPerson 61 = .ok (.iaload, 1) := by decide +kernel
theorem dX5_tellPerson_62 : decode cX5_tellPerson 62 = .ok (.iastore, 1) := by decide +kernel
theorem dX5_tellPerson_63 : decode cX5_tellPerson 63 = .ok (.aload_n 0, 1) := by decide +kernel
theorem dX5_tellPerson_64 : decode cX5_tellPerson 64 = .ok (.getfield 12, 3) := by decide +kernel
theorem dX5_tellPerson_67 : decode cX5_tellPerson 67 = .ok (.dup, 1) := by decide +kernel
theorem dX5_tellPerson_68 : decode cX5_tellPerson 68 = .ok (.getfield 77, 3) := by decide +kernel
theorem dX5_tellPerson_71 : decode cX5_tellPerson 71 = .ok (.iconst 1, 1) := by decide +kernel
theorem dX5_tellPerson_72 : decode cX5_tellPerson 72 = .ok (.iadd, 1) := by decide +kernel
theorem dX5_tellPerson_73 : decode cX5_tellPerson 73 = .ok (.putfield 77, 3) := by decide +kernel
theorem dX5_tellPerson_76 : decode cX5_tellPerson 76 = .ok (.return_, 1) := by decide +kernel
def w_X5_tellPerson (I : mI) (o : Nat) (otp : Nat) (post : mI → Prop) : Prop := vp_in (I (o + 1) 3) 6 ∧ ∀ I1, I1 = up2 I ((o + 1) + 4) ((I (o + 1) 3).toNatClampNeg) (I (o + 20) (0 : Int32).toNatClampNeg) → vp_in (I1 (o + 1) 3) 6 ∧ ∀ I2, I2 = up2 I1 ((o + 1) + 5) ((I1 (o + 1) 3).toNatClampNeg) (I1 (o + 20) (1 : Int32).toNatClampNeg) → vp_in (I2 (o + 1) 3) 6 ∧ ∀ I3, I3 = up2 I2 ((o + 1) + 6) ((I2 (o + 1) 3).toNatClampNeg) (I2 (o + 20) (2 : Int32).toNatClampNeg) → ∀ I4, I4 = up2 I3 (o + 1) 3 ((I3 (o + 1) 3) + 1) → post I4
set_option maxRecDepth 100000 in
set_option maxHeartbeats 4000000 in
theorem c_X5_tellPerson {l : Launch} {D : va_G} {cA : Nat → ClassId} {Z : mZ} {bs : Ad} {n : Nat} {K : mK} {R : mR} {I : mI} {L : mL} {o : Nat} {otp : Nat} {post : mI → Prop} (ho : isX5 K R o otp) (hw : w_X5_tellPerson I o otp post) : Met l yX5_tellPerson (.code yX5_tellPerson cX5_tellPerson 1 none :: gw) ({ frames := 0, cells := 0, slots := 0, locals := 0 } : Room) (PreM D cA Z bs (n, K, R, I, L) [.ref (ad bs o)]) (QV D cA bs (fun u => ∃ I', u = (n, K, R, I', L) ∧ post I')) 0 0 (Ab bs) := by
  refine m_met (by decide) (Nat.le_of_ble_eq_true rfl) (fun p e s m below meth c ls E hr hlk hM hS hl => ?_)
  have E : Ev p s m _ c cX5_tellPerson 1 RX5 D cA Z bs := E
  have hl : lv_has ls 1 [(0, .ref (ad bs o))] := hl
  have hx := E.1.1
  have hb := E.1.2.1
  generalize hHe : s.heap = H at hM ⊢
  have hS : va_S (Ab bs) s.heap H [] := by rw [← hHe]; exact va_S.rf
  clear hHe
  refine lv_aload_n hx hb dX5_tellPerson_0 rfl (lv_at hl 0 rfl) ?_
  refine m_getr E hM fs_X5_12 ho.1.1 ho.2.1.1 dX5_tellPerson_1 ?_
  refine m_getr E hM fs_X5_196 ho.2.1.2.1 (isO_at ho.2.1.2 3 rfl).1 dX5_tellPerson_4 ?_
  refine lv_aload_n hx hb dX5_tellPerson_7 rfl (lv_at hl 0 rfl) ?_
  refine m_getr E hM fs_X5_12 ho.1.1 ho.2.1.1 dX5_tellPerson_8 ?_
  refine m_geti E hM fs_X5_77 ho.2.1.2.1 dX5_tellPerson_11 ?_
  refine lv_aload_n hx hb dX5_tellPerson_14 rfl (lv_at hl 0 rfl) ?_
  refine m_getr E hM fs_X5_25 ho.1.1 (isO_at ho.1 0 rfl).1 dX5_tellPerson_15 ?_
  refine lv_iconst (v := 0) hx hb dX5_tellPerson_18 (by decide) ?_
  refine m_iald E hM (isO_at ho.1 0 rfl).2 (by unfold vp_in; decide) dX5_tellPerson_19 ?_
  obtain ⟨hv, hw⟩ := hw
  refine m_iast E hM hS (isO_at ho.2.1.2 3 rfl).2 hv dX5_tellPerson_20 (fun I1 H locs eI1 hM hS => ?_)
  have hw := hw I1 eI1
  refine lv_aload_n hx hb dX5_tellPerson_21 rfl (lv_at hl 0 rfl) ?_
  refine m_getr E hM fs_X5_12 ho.1.1 ho.2.1.1 dX5_tellPerson_22 ?_
  refine m_getr E hM fs_X5_199 ho.2.1.2.1 (isO_at ho.2.1.2 4 rfl).1 dX5_tellPerson_25 ?_
  refine lv_aload_n hx hb dX5_tellPerson_28 rfl (lv_at hl 0 rfl) ?_
  refine m_getr E hM fs_X5_12 ho.1.1 ho.2.1.1 dX5_tellPerson_29 ?_
  refine m_geti E hM fs_X5_77 ho.2.1.2.1 dX5_tellPerson_32 ?_
  refine lv_aload_n hx hb dX5_tellPerson_35 rfl (lv_at hl 0 rfl) ?_
  refine m_getr E hM fs_X5_25 ho.1.1 (isO_at ho.1 0 rfl).1 dX5_tellPerson_36 ?_
  refine lv_iconst (v := 1) hx hb dX5_tellPerson_39 (by decide) ?_
  refine m_iald E hM (isO_at ho.1 0 rfl).2 (by unfold vp_in; decide) dX5_tellPerson_40 ?_
  obtain ⟨hv, hw⟩ := hw
  refine m_iast E hM hS (isO_at ho.2.1.2 4 rfl).2 hv dX5_tellPerson_41 (fun I2 H locs eI2 hM hS => ?_)
  have hw := hw I2 eI2
  refine lv_aload_n hx hb dX5_tellPerson_42 rfl (lv_at hl 0 rfl) ?_
  refine m_getr E hM fs_X5_12 ho.1.1 ho.2.1.1 dX5_tellPerson_43 ?_
  refine m_getr E hM fs_X5_202 ho.2.1.2.1 (isO_at ho.2.1.2 5 rfl).1 dX5_tellPerson_46 ?_
  refine lv_aload_n hx hb dX5_tellPerson_49 rfl (lv_at hl 0 rfl) ?_
  refine m_getr E hM fs_X5_12 ho.1.1 ho.2.1.1 dX5_tellPerson_50 ?_
  refine m_geti E hM fs_X5_77 ho.2.1.2.1 dX5_tellPerson_53 ?_
  refine lv_aload_n hx hb dX5_tellPerson_56 rfl (lv_at hl 0 rfl) ?_
  refine m_getr E hM fs_X5_25 ho.1.1 (isO_at ho.1 0 rfl).1 dX5_tellPerson_57 ?_
  refine lv_iconst (v := 2) hx hb dX5_tellPerson_60 (by decide) ?_
  refine m_iald E hM (isO_at ho.1 0 rfl).2 (by unfold vp_in; decide) dX5_tellPerson_61 ?_
  obtain ⟨hv, hw⟩ := hw
  refine m_iast E hM hS (isO_at ho.2.1.2 5 rfl).2 hv dX5_tellPerson_62 (fun I3 H locs eI3 hM hS => ?_)
  have hw := hw I3 eI3
  refine lv_aload_n hx hb dX5_tellPerson_63 rfl (lv_at hl 0 rfl) ?_
  refine m_getr E hM fs_X5_12 ho.1.1 ho.2.1.1 dX5_tellPerson_64 ?_
  refine lv_dup hx hb dX5_tellPerson_67 rfl ?_
  refine m_geti E hM fs_X5_77 ho.2.1.2.1 dX5_tellPerson_68 ?_
  refine lv_iconst (v := 1) hx hb dX5_tellPerson_71 (by decide) ?_
  refine lv_iadd hx hb dX5_tellPerson_72 ?_
  refine m_puti E hM hS fp_X5_77 ho.2.1.2.1 rfl rfl dX5_tellPerson_73 (fun I4 H locs eI4 hM hS => ?_)
  have hw := hw I4 eI4
  exact m_retv hx hb hr hlk hM hS ⟨_, rfl, hw⟩ dX5_tellPerson_76
theorem dX5_tellWalk_0 : decode cX5_tellWalk 0 = .ok (.aload_n 0, 1) := by decide +kernel
theorem dX5_tellWalk_1 : decode cX5_tellWalk 1 = .ok (.getfield 25, 3) := by decide +kernel
theorem dX5_tellWalk_4 : decode cX5_tellWalk 4 = .ok (.iconst 0, 1) := by decide +kernel
theorem dX5_tellWalk_5 : decode cX5_tellWalk 5 = .ok (.iaload, 1) := by decide +kernel
theorem dX5_tellWalk_6 : decode cX5_tellWalk 6 = .ok (.istore_n 1, 1) := by decide +kernel
theorem dX5_tellWalk_7 : decode cX5_tellWalk 7 = .ok (.aload_n 0, 1) := by decide +kernel
theorem dX5_tellWalk_8 : decode cX5_tellWalk 8 = .ok (.getfield 12, 3) := by decide +kernel
theorem dX5_tellWalk_11 : decode cX5_tellWalk 11 = .ok (.getfield 205, 3) := by decide +kernel
theorem dX5_tellWalk_14 : decode cX5_tellWalk 14 = .ok (.iload_n 1, 1) := by decide +kernel
theorem dX5_tellWalk_15 : decode cX5_tellWalk 15 = .ok (.aload_n 0, 1) := by decide +kernel
theorem dX5_tellWalk_16 : decode cX5_tellWalk 16 = .ok (.getfield 25, 3) := by decide +kernel
theorem dX5_tellWalk_19 : decode cX5_tellWalk 19 = .ok (.iconst 1, 1) := by decide +kernel
theorem dX5_tellWalk_20 : decode cX5_tellWalk 20 = .ok (.iaload, 1) := by decide +kernel
theorem dX5_tellWalk_21 : decode cX5_tellWalk 21 = .ok (.iastore, 1) := by decide +kernel
theorem dX5_tellWalk_22 : decode cX5_tellWalk 22 = .ok (.aload_n 0, 1) := by decide +kernel
theorem dX5_tellWalk_23 : decode cX5_tellWalk 23 = .ok (.getfield 12, 3) := by decide +kernel
theorem dX5_tellWalk_26 : decode cX5_tellWalk 26 = .ok (.getfield 208, 3) := by decide +kernel
theorem dX5_tellWalk_29 : decode cX5_tellWalk 29 = .ok (.iload_n 1, 1) := by decide +kernel
theorem dX5_tellWalk_30 : decode cX5_tellWalk 30 = .ok (.aload_n 0, 1) := by decide +kernel
theorem dX5_tellWalk_31 : decode cX5_tellWalk 31 = .ok (.getfield 25, 3) := by decide +kernel
theorem dX5_tellWalk_34 : decode cX5_tellWalk 34 = .ok (.iconst 2, 1) := by decide +kernel
theorem dX5_tellWalk_35 : decode cX5_tellWalk 35 = .ok (.iaload, 1) := by decide +kernel
theorem dX5_tellWalk_36 : decode cX5_tellWalk 36 = .ok (.iastore, 1) := by decide +kernel
theorem dX5_tellWalk_37 : decode cX5_tellWalk 37 = .ok (.aload_n 0, 1) := by decide +kernel
theorem dX5_tellWalk_38 : decode cX5_tellWalk 38 = .ok (.getfield 12, 3) := by decide +kernel
theorem dX5_tellWalk_41 : decode cX5_tellWalk 41 = .ok (.getfield 211, 3) := by decide +kernel
theorem dX5_tellWalk_44 : decode cX5_tellWalk 44 = .ok (.iload_n 1, 1) := by decide +kernel
theorem dX5_tellWalk_45 : decode cX5_tellWalk 45 = .ok (.aload_n 0, 1) := by decide +kernel
theorem dX5_tellWalk_46 : decode cX5_tellWalk 46 = .ok (.getfield 156, 3) := by decide +kernel
theorem dX5_tellWalk_49 : decode cX5_tellWalk 49 = .ok (.iastore, 1) := by decide +kernel
theorem dX5_tellWalk_50 : decode cX5_tellWalk 50 = .ok (.aload_n 0, 1) := by decide +kernel
theorem dX5_tellWalk_51 : decode cX5_tellWalk 51 = .ok (.aload_n 0, 1) := by decide +kernel
theorem dX5_tellWalk_52 : decode cX5_tellWalk 52 = .ok (.getfield 55, 3) := by decide +kernel
theorem dX5_tellWalk_55 : decode cX5_tellWalk 55 = .ok (.iload_n 1, 1) := by decide +kernel
theorem dX5_tellWalk_56 : decode cX5_tellWalk 56 = .ok (.invokestatic 187, 3) := by decide +kernel
theorem dX5_tellWalk_59 : decode cX5_tellWalk 59 = .ok (.putfield 55, 3) := by decide +kernel
theorem dX5_tellWalk_62 : decode cX5_tellWalk 62 = .ok (.aload_n 0, 1) := by decide +kernel
theorem dX5_tellWalk_63 : decode cX5_tellWalk 63 = .ok (.aload_n 0, 1) := by decide +kernel
theorem dX5_tellWalk_64 : decode cX5_tellWalk 64 = .ok (.getfield 52, 3) := by decide +kernel
theorem dX5_tellWalk_67 : decode cX5_tellWalk 67 = .ok (.aload_n 0, 1) := by decide +kernel
theorem dX5_tellWalk_68 : decode cX5_tellWalk 68 = .ok (.getfield 25, 3) := by decide +kernel
theorem dX5_tellWalk_71 : decode cX5_tellWalk 71 = .ok (.iconst 2, 1) := by decide +kernel
theorem dX5_tellWalk_72 : decode cX5_tellWalk 72 = .ok (.iaload, 1) := by decide +kernel
theorem dX5_tellWalk_73 : decode cX5_tellWalk 73 = .ok (.invokestatic 187, 3) := by decide +kernel
theorem dX5_tellWalk_76 : decode cX5_tellWalk 76 = .ok (.putfield 52, 3) := by decide +kernel
theorem dX5_tellWalk_79 : decode cX5_tellWalk 79 = .ok (.iconst 0, 1) := by decide +kernel
theorem dX5_tellWalk_80 : decode cX5_tellWalk 80 = .ok (.istore_n 2, 1) := by decide +kernel
theorem dX5_tellWalk_81 : decode cX5_tellWalk 81 = .ok (.iload_n 2, 1) := by decide +kernel
theorem dX5_tellWalk_82 : decode cX5_tellWalk 82 = .ok (.aload_n 0, 1) := by decide +kernel
theorem dX5_tellWalk_83 : decode cX5_tellWalk 83 = .ok (.getfield 156, 3) := by decide +kernel
theorem dX5_tellWalk_86 : decode cX5_tellWalk 86 = .ok (.if_icmp .ge 50, 3) := by decide +kernel
theorem dX5_tellWalk_89 : decode cX5_tellWalk 89 = .ok (.aload_n 0, 1) := by decide +kernel
theorem dX5_tellWalk_90 : decode cX5_tellWalk 90 = .ok (.getfield 12, 3) := by decide +kernel
theorem dX5_tellWalk_93 : decode cX5_tellWalk 93 = .ok (.getfield 213, 3) := by decide +kernel
theorem dX5_tellWalk_96 : decode cX5_tellWalk 96 = .ok (.iload_n 1, 1) := by decide +kernel
theorem dX5_tellWalk_97 : decode cX5_tellWalk 97 = .ok (.bipush 8, 2) := by decide +kernel
theorem dX5_tellWalk_99 : decode cX5_tellWalk 99 = .ok (.imul, 1) := by decide +kernel
theorem dX5_tellWalk_100 : decode cX5_tellWalk 100 = .ok (.iload_n 2, 1) := by decide +kernel
theorem dX5_tellWalk_101 : decode cX5_tellWalk 101 = .ok (.iadd, 1) := by decide +kernel
theorem dX5_tellWalk_102 : decode cX5_tellWalk 102 = .ok (.aload_n 0, 1) := by decide +kernel
theorem dX5_tellWalk_103 : decode cX5_tellWalk 103 = .ok (.getfield 25, 3) := by decide +kernel
theorem dX5_tellWalk_106 : decode cX5_tellWalk 106 = .ok (.iconst 3, 1) := by decide +kernel
theorem dX5_tellWalk_107 : decode cX5_tellWalk 107 = .ok (.iload_n 2, 1) := by decide +kernel
theorem dX5_tellWalk_108 : decode cX5_tellWalk 108 = .ok (.iadd, 1) := by decide +kernel
theorem dX5_tellWalk_109 : decode cX5_tellWalk 109 = .ok (.iaload, 1) := by decide +kernel
theorem dX5_tellWalk_110 : decode cX5_tellWalk 110 = .ok (.iastore, 1) := by decide +kernel
theorem dX5_tellWalk_111 : decode cX5_tellWalk 111 = .ok (.aload_n 0, 1) := by decide +kernel
theorem dX5_tellWalk_112 : decode cX5_tellWalk 112 = .ok (.aload_n 0, 1) := by decide +kernel
theorem dX5_tellWalk_113 : decode cX5_tellWalk 113 = .ok (.getfield 52, 3) := by decide +kernel
theorem dX5_tellWalk_116 : decode cX5_tellWalk 116 = .ok (.aload_n 0, 1) := by decide +kernel
theorem dX5_tellWalk_117 : decode cX5_tellWalk 117 = .ok (.getfield 25, 3) := by decide +kernel
theorem dX5_tellWalk_120 : decode cX5_tellWalk 120 = .ok (.iconst 3, 1) := by decide +kernel
theorem dX5_tellWalk_121 : decode cX5_tellWalk 121 = .ok (.iload_n 2, 1) := by decide +kernel
theorem dX5_tellWalk_122 : decode cX5_tellWalk 122 = .ok (.iadd, 1) := by decide +kernel
theorem dX5_tellWalk_123 : decode cX5_tellWalk 123 = .ok (.iaload, 1) := by decide +kernel
theorem dX5_tellWalk_124 : decode cX5_tellWalk 124 = .ok (.invokestatic 187, 3) := by decide +kernel
theorem dX5_tellWalk_127 : decode cX5_tellWalk 127 = .ok (.putfield 52, 3) := by decide +kernel
theorem dX5_tellWalk_130 : decode cX5_tellWalk 130 = .ok (.iinc 2 1, 3) := by decide +kernel
theorem dX5_tellWalk_133 : decode cX5_tellWalk 133 = .ok (.goto (-52), 3) := by decide +kernel
theorem dX5_tellWalk_136 : decode cX5_tellWalk 136 = .ok (.return_, 1) := by decide +kernel
def w_X5_tellWalk_81 (o : Nat) (otp : Nat) (post : mI → Prop) (I : mI) (v1 : Int32) (v2 : Int32) : Prop := ∀ ZZ : (mI → Int32 → Int32 → Prop), (∀ (I : mI) (v1 : Int32) (v2 : Int32), (((I o 11) ≤ v2 → post I) ∧ (¬ (I o 11) ≤ v2 → vp_in (3 + v2) 11 ∧ vp_in ((v1 * 8) + v2) 48 ∧ ∀ I7, I7 = up2 I ((o + 1) + 10) (((v1 * 8) + v2).toNatClampNeg) (I (o + 20) (3 + v2).toNatClampNeg) → vp_in (3 + v2) 11 ∧ ∀ I8, I8 = up2 I7 o 12 (imax (I7 o 12) (I7 (o + 20) (3 + v2).toNatClampNeg)) → ∀ x9, x9 = v2 + 1 → ZZ I8 v1 x9)) → ZZ I v1 v2) → ZZ I v1 v2
set_option maxRecDepth 100000 in
set_option maxHeartbeats 4000000 in
theorem s_X5_tellWalk_81 {p : Program} {l : Launch} {e : Env} {s : State} {m : MethodId} {args : Array Value} {below : List Frame} {meth : Method} {c : Code} {D : va_G} {cA : Nat → ClassId} {Z : mZ} {bs : Ad} {n : Nat} {K : mK} {R : mR} {L : mL} (E : Ev p s m args c cX5_tellWalk 3 RX5 D cA Z bs) (hr : meth.sig.returnType = none) (hlk : meth.locks = false) {o : Nat} {otp : Nat} (ho : isX5 K R o otp) {post : mI → Prop} {I : mI} {v1 : Int32} {v2 : Int32} {H : Heap} {locs : List Loc} {ls : Array Slot} (hw : w_X5_tellWalk_81 o otp post I v1 v2) (hM : mm D cA bs (n, K, R, I, L) H) (hS : va_S (Ab bs) s.heap H locs) (hl : lv_has ls 3 [(0, .ref (ad bs o)), (1, .int v1), (2, .int v2)]) : W p l e ({ frames := 1, cells := 0, slots := 0, locals := 40 } : Room) s m args below meth c H locs 0 0 (MQ below (QV D cA bs (fun u => ∃ I', u = (n, K, R, I', L) ∧ post I')) args s 0 0 (Ab bs)) (F0 m 81 ls []) := by
  have hx := E.1.1
  have hb := E.1.2.1
  refine hw (fun I v1 v2 => ∀ (H : Heap) (locs : List Loc) (ls : Array Slot), mm D cA bs (n, K, R, I, L) H → va_S (Ab bs) s.heap H locs → lv_has ls 3 [(0, .ref (ad bs o)), (1, .int v1), (2, .int v2)] → W p l e ({ frames := 1, cells := 0, slots := 0, locals := 40 } : Room) s m args below meth c H locs 0 0 (MQ below (QV D cA bs (fun u => ∃ I', u = (n, K, R, I', L) ∧ post I')) args s 0 0 (Ab bs)) (F0 m 81 ls [])) ?_ H locs ls hM hS hl
  clear hw hM hS hl
  intro I v1 v2 hw H locs ls hM hS hl
  refine lv_iload_n hx hb dX5_tellWalk_81 rfl (lv_at hl 2 rfl) ?_
  refine lv_aload_n hx hb dX5_tellWalk_82 rfl (lv_at hl 0 rfl) ?_
  refine m_geti E hM fs_X5_156 ho.1.1 dX5_tellWalk_83 ?_
  refine lv_icmp_ge (tgt := 136) hx hb dX5_tellWalk_86 (by decide) (fun cq => ?_) (fun cq => ?_)
  · have hw := hw.1 cq
    exact m_retv hx hb hr hlk hM hS ⟨_, rfl, hw⟩ dX5_tellWalk_136
  · have hw := hw.2 cq
    refine lv_aload_n hx hb dX5_tellWalk_89 rfl (lv_at hl 0 rfl) ?_
    refine m_getr E hM fs_X5_12 ho.1.1 ho.2.1.1 dX5_tellWalk_90 ?_
    refine m_getr E hM fs_X5_213 ho.2.1.2.1 (isO_at ho.2.1.2 9 rfl).1 dX5_tellWalk_93 ?_
    refine lv_iload_n hx hb dX5_tellWalk_96 rfl (lv_at hl 1 rfl) ?_
    refine lv_bipush (v := 8) hx hb dX5_tellWalk_97 (by decide) ?_
    refine lv_imul hx hb dX5_tellWalk_99 ?_
    refine lv_iload_n hx hb dX5_tellWalk_100 rfl (lv_at hl 2 rfl) ?_
    refine lv_iadd hx hb dX5_tellWalk_101 ?_
    refine lv_aload_n hx hb dX5_tellWalk_102 rfl (lv_at hl 0 rfl) ?_
    refine m_getr E hM fs_X5_25 ho.1.1 (isO_at ho.1 0 rfl).1 dX5_tellWalk_103 ?_
    refine lv_iconst (v := 3) hx hb dX5_tellWalk_106 (by decide) ?_
    refine lv_iload_n hx hb dX5_tellWalk_107 rfl (lv_at hl 2 rfl) ?_
    refine lv_iadd hx hb dX5_tellWalk_108 ?_
    obtain ⟨hv, hw⟩ := hw
    refine m_iald E hM (isO_at ho.1 0 rfl).2 hv dX5_tellWalk_109 ?_
    obtain ⟨hv, hw⟩ := hw
    refine m_iast E hM hS (isO_at ho.2.1.2 9 rfl).2 hv dX5_tellWalk_110 (fun I7 H locs eI7 hM hS => ?_)
    have hw := hw I7 eI7
    refine lv_aload_n hx hb dX5_tellWalk_111 rfl (lv_at hl 0 rfl) ?_
    refine lv_aload_n hx hb dX5_tellWalk_112 rfl (lv_at hl 0 rfl) ?_
    refine m_geti E hM fs_X5_52 ho.1.1 dX5_tellWalk_113 ?_
    refine lv_aload_n hx hb dX5_tellWalk_116 rfl (lv_at hl 0 rfl) ?_
    refine m_getr E hM fs_X5_25 ho.1.1 (isO_at ho.1 0 rfl).1 dX5_tellWalk_117 ?_
    refine lv_iconst (v := 3) hx hb dX5_tellWalk_120 (by decide) ?_
    refine lv_iload_n hx hb dX5_tellWalk_121 rfl (lv_at hl 2 rfl) ?_
    refine lv_iadd hx hb dX5_tellWalk_122 ?_
    obtain ⟨hv, hw⟩ := hw
    refine m_iald E hM (isO_at ho.1 0 rfl).2 hv dX5_tellWalk_123 ?_
    refine m_max E ml_X5_187 hl.1 (Nat.le_of_ble_eq_true rfl) (Nat.le_of_ble_eq_true rfl) (Nat.le_of_ble_eq_true rfl) (Nat.le_of_ble_eq_true rfl) dX5_tellWalk_124 ?_
    refine m_puti E hM hS fp_X5_52 ho.1.1 rfl rfl dX5_tellWalk_127 (fun I8 H locs eI8 hM hS => ?_)
    have hw := hw I8 eI8
    obtain ⟨x9, ex9⟩ : ∃ y : Int32, y = v2 + 1 := ⟨_, rfl⟩
    have hw := hw x9 ex9
    refine lv_iinc (v := x9) (lv' := [(2, .int x9), (0, .ref (ad bs o)), (1, .int v1)]) hx hb dX5_tellWalk_130 hl (k := 2) rfl (by rw [ex9]; rfl) (by decide) rfl (fun ls hl => ?_)
    refine lv_goto (tgt := 81) hx hb dX5_tellWalk_133 (by decide) ?_
    exact hw H locs ls  hM hS (lv_sub hl [1, 2, 0] rfl)
def w_X5_tellWalk (I : mI) (o : Nat) (otp : Nat) (post : mI → Prop) : Prop := ∀ x1, x1 = (I (o + 20) (0 : Int32).toNatClampNeg) → vp_in x1 6 ∧ ∀ I2, I2 = up2 I ((o + 1) + 7) x1.toNatClampNeg (I (o + 20) (1 : Int32).toNatClampNeg) → vp_in x1 6 ∧ ∀ I3, I3 = up2 I2 ((o + 1) + 8) x1.toNatClampNeg (I2 (o + 20) (2 : Int32).toNatClampNeg) → vp_in x1 6 ∧ ∀ I4, I4 = up2 I3 ((o + 1) + 9) x1.toNatClampNeg (I3 o 11) → ∀ I5, I5 = up2 I4 o 13 (imax (I4 o 13) x1) → ∀ I6, I6 = up2 I5 o 12 (imax (I5 o 12) (I5 (o + 20) (2 : Int32).toNatClampNeg)) → (w_X5_tellWalk_81 o otp post) I6 x1 0
set_option maxRecDepth 100000 in
set_option maxHeartbeats 4000000 in
theorem c_X5_tellWalk {l : Launch} {D : va_G} {cA : Nat → ClassId} {Z : mZ} {bs : Ad} {n : Nat} {K : mK} {R : mR} {I : mI} {L : mL} {o : Nat} {otp : Nat} {post : mI → Prop} (ho : isX5 K R o otp) (hw : w_X5_tellWalk I o otp post) : Met l yX5_tellWalk (.code yX5_tellWalk cX5_tellWalk 3 none :: gw) ({ frames := 1, cells := 0, slots := 0, locals := 40 } : Room) (PreM D cA Z bs (n, K, R, I, L) [.ref (ad bs o)]) (QV D cA bs (fun u => ∃ I', u = (n, K, R, I', L) ∧ post I')) 0 0 (Ab bs) := by
  refine m_met (by decide) (Nat.le_of_ble_eq_true rfl) (fun p e s m below meth c ls E hr hlk hM hS hl => ?_)
  have E : Ev p s m _ c cX5_tellWalk 3 RX5 D cA Z bs := E
  have hl : lv_has ls 3 [(0, .ref (ad bs o))] := hl
  have hx := E.1.1
  have hb := E.1.2.1
  generalize hHe : s.heap = H at hM ⊢
  have hS : va_S (Ab bs) s.heap H [] := by rw [← hHe]; exact va_S.rf
  clear hHe
  refine lv_aload_n hx hb dX5_tellWalk_0 rfl (lv_at hl 0 rfl) ?_
  refine m_getr E hM fs_X5_25 ho.1.1 (isO_at ho.1 0 rfl).1 dX5_tellWalk_1 ?_
  refine lv_iconst (v := 0) hx hb dX5_tellWalk_4 (by decide) ?_
  refine m_iald E hM (isO_at ho.1 0 rfl).2 (by unfold vp_in; decide) dX5_tellWalk_5 ?_
  refine lv_topi (fun x1 ex1 => ?_)
  have hw := hw x1 ex1
  refine lv_istore_n (lv' := [(1, .int x1), (0, .ref (ad bs o))]) hx hb dX5_tellWalk_6 rfl hl (by decide) rfl (fun ls hl => ?_)
  refine lv_aload_n hx hb dX5_tellWalk_7 rfl (lv_at hl 1 rfl) ?_
  refine m_getr E hM fs_X5_12 ho.1.1 ho.2.1.1 dX5_tellWalk_8 ?_
  refine m_getr E hM fs_X5_205 ho.2.1.2.1 (isO_at ho.2.1.2 6 rfl).1 dX5_tellWalk_11 ?_
  refine lv_iload_n hx hb dX5_tellWalk_14 rfl (lv_at hl 0 rfl) ?_
  refine lv_aload_n hx hb dX5_tellWalk_15 rfl (lv_at hl 1 rfl) ?_
  refine m_getr E hM fs_X5_25 ho.1.1 (isO_at ho.1 0 rfl).1 dX5_tellWalk_16 ?_
  refine lv_iconst (v := 1) hx hb dX5_tellWalk_19 (by decide) ?_
  refine m_iald E hM (isO_at ho.1 0 rfl).2 (by unfold vp_in; decide) dX5_tellWalk_20 ?_
  obtain ⟨hv, hw⟩ := hw
  refine m_iast E hM hS (isO_at ho.2.1.2 6 rfl).2 hv dX5_tellWalk_21 (fun I2 H locs eI2 hM hS => ?_)
  have hw := hw I2 eI2
  refine lv_aload_n hx hb dX5_tellWalk_22 rfl (lv_at hl 1 rfl) ?_
  refine m_getr E hM fs_X5_12 ho.1.1 ho.2.1.1 dX5_tellWalk_23 ?_
  refine m_getr E hM fs_X5_208 ho.2.1.2.1 (isO_at ho.2.1.2 7 rfl).1 dX5_tellWalk_26 ?_
  refine lv_iload_n hx hb dX5_tellWalk_29 rfl (lv_at hl 0 rfl) ?_
  refine lv_aload_n hx hb dX5_tellWalk_30 rfl (lv_at hl 1 rfl) ?_
  refine m_getr E hM fs_X5_25 ho.1.1 (isO_at ho.1 0 rfl).1 dX5_tellWalk_31 ?_
  refine lv_iconst (v := 2) hx hb dX5_tellWalk_34 (by decide) ?_
  refine m_iald E hM (isO_at ho.1 0 rfl).2 (by unfold vp_in; decide) dX5_tellWalk_35 ?_
  obtain ⟨hv, hw⟩ := hw
  refine m_iast E hM hS (isO_at ho.2.1.2 7 rfl).2 hv dX5_tellWalk_36 (fun I3 H locs eI3 hM hS => ?_)
  have hw := hw I3 eI3
  refine lv_aload_n hx hb dX5_tellWalk_37 rfl (lv_at hl 1 rfl) ?_
  refine m_getr E hM fs_X5_12 ho.1.1 ho.2.1.1 dX5_tellWalk_38 ?_
  refine m_getr E hM fs_X5_211 ho.2.1.2.1 (isO_at ho.2.1.2 8 rfl).1 dX5_tellWalk_41 ?_
  refine lv_iload_n hx hb dX5_tellWalk_44 rfl (lv_at hl 0 rfl) ?_
  refine lv_aload_n hx hb dX5_tellWalk_45 rfl (lv_at hl 1 rfl) ?_
  refine m_geti E hM fs_X5_156 ho.1.1 dX5_tellWalk_46 ?_
  obtain ⟨hv, hw⟩ := hw
  refine m_iast E hM hS (isO_at ho.2.1.2 8 rfl).2 hv dX5_tellWalk_49 (fun I4 H locs eI4 hM hS => ?_)
  have hw := hw I4 eI4
  refine lv_aload_n hx hb dX5_tellWalk_50 rfl (lv_at hl 1 rfl) ?_
  refine lv_aload_n hx hb dX5_tellWalk_51 rfl (lv_at hl 1 rfl) ?_
  refine m_geti E hM fs_X5_55 ho.1.1 dX5_tellWalk_52 ?_
  refine lv_iload_n hx hb dX5_tellWalk_55 rfl (lv_at hl 0 rfl) ?_
  refine m_max E ml_X5_187 hl.1 (Nat.le_of_ble_eq_true rfl) (Nat.le_of_ble_eq_true rfl) (Nat.le_of_ble_eq_true rfl) (Nat.le_of_ble_eq_true rfl) dX5_tellWalk_56 ?_
  refine m_puti E hM hS fp_X5_55 ho.1.1 rfl rfl dX5_tellWalk_59 (fun I5 H locs eI5 hM hS => ?_)
  have hw := hw I5 eI5
  refine lv_aload_n hx hb dX5_tellWalk_62 rfl (lv_at hl 1 rfl) ?_
  refine lv_aload_n hx hb dX5_tellWalk_63 rfl (lv_at hl 1 rfl) ?_
  refine m_geti E hM fs_X5_52 ho.1.1 dX5_tellWalk_64 ?_
  refine lv_aload_n hx hb dX5_tellWalk_67 rfl (lv_at hl 1 rfl) ?_
  refine m_getr E hM fs_X5_25 ho.1.1 (isO_at ho.1 0 rfl).1 dX5_tellWalk_68 ?_
  refine lv_iconst (v := 2) hx hb dX5_tellWalk_71 (by decide) ?_
  refine m_iald E hM (isO_at ho.1 0 rfl).2 (by unfold vp_in; decide) dX5_tellWalk_72 ?_
  refine m_max E ml_X5_187 hl.1 (Nat.le_of_ble_eq_true rfl) (Nat.le_of_ble_eq_true rfl) (Nat.le_of_ble_eq_true rfl) (Nat.le_of_ble_eq_true rfl) dX5_tellWalk_73 ?_
  refine m_puti E hM hS fp_X5_52 ho.1.1 rfl rfl dX5_tellWalk_76 (fun I6 H locs eI6 hM hS => ?_)
  have hw := hw I6 eI6
  refine lv_iconst (v := 0) hx hb dX5_tellWalk_79 (by decide) ?_
  refine lv_istore_n (lv' := [(2, .int 0), (1, .int x1), (0, .ref (ad bs o))]) hx hb dX5_tellWalk_80 rfl hl (by decide) rfl (fun ls hl => ?_)
  exact s_X5_tellWalk_81 E hr hlk ho  hw hM hS (lv_sub hl [2, 1, 0] rfl)
theorem dX5_tellChange_0 : decode cX5_tellChange 0 = .ok (.aload_n 0, 1) := by decide +kernel
theorem dX5_tellChange_1 : decode cX5_tellChange 1 = .ok (.getfield 12, 3) := by decide +kernel
theorem dX5_tellChange_4 : decode cX5_tellChange 4 = .ok (.getfield 216, 3) := by decide +kernel
theorem dX5_tellChange_7 : decode cX5_tellChange 7 = .ok (.aload_n 0, 1) := by decide +kernel
theorem dX5_tellChange_8 : decode cX5_tellChange 8 = .ok (.getfield 12, 3) := by decide +kernel
theorem dX5_tellChange_11 : decode cX5_tellChange 11 = .ok (.getfield 147, 3) := by decide +kernel
theorem dX5_tellChange_14 : decode cX5_tellChange 14 = .ok (.aload_n 0, 1) := by decide +kernel
theorem dX5_tellChange_15 : decode cX5_tellChange 15 = .ok (.getfield 25, 3) := by decide +kernel
theorem dX5_tellChange_18 : decode cX5_tellChange 18 = .ok (.iconst 0, 1) := by decide +kernel
theorem dX5_tellChange_19 : decode cX5_tellChange 19 = .ok (.iaload, 1) := by decide +kernel
theorem dX5_tellChange_20 : decode cX5_tellChange 20 = .ok (.iastore, 1) := by decide +kernel
theorem dX5_tellChange_21 : decode cX5_tellChange 21 = .ok (.aload_n 0, 1) := by decide +kernel
theorem dX5_tellChange_22 : decode cX5_tellChange 22 = .ok (.getfield 12, 3) := by decide +kernel
theorem dX5_tellChange_25 : decode cX5_tellChange 25 = .ok (.getfield 219, 3) := by decide +kernel
theorem dX5_tellChange_28 : decode cX5_tellChange 28 = .ok (.aload_n 0, 1) := by decide +kernel
theorem dX5_tellChange_29 : decode cX5_tellChange 29 = .ok (.getfield 12, 3) := by decide +kernel
theorem dX5_tellChange_32 : decode cX5_tellChange 32 = .ok (.getfield 147, 3) := by decide +kernel
theorem dX5_tellChange_35 : decode cX5_tellChange 35 = .ok (.aload_n 0, 1) := by decide +kernel
theorem dX5_tellChange_36 : decode cX5_tellChange 36 = .ok (.getfield 25, 3) := by decide +kernel
theorem dX5_tellChange_39 : decode cX5_tellChange 39 = .ok (.iconst 1, 1) := by decide +kernel
theorem dX5_tellChange_40 : decode cX5_tellChange 40 = .ok (.iaload, 1) := by decide +kernel
theorem dX5_tellChange_41 : decode cX5_tellChange 41 = .ok (.iastore, 1) := by decide +kernel
theorem dX5_tellChange_42 : decode cX5_tellChange 42 = .ok (.aload_n 0, 1) := by decide +kernel
theorem dX5_tellChange_43 : decode cX5_tellChange 43 = .ok (.getfield 12, 3) := by decide +kernel
theorem dX5_tellChange_46 : decode cX5_tellChange 46 = .ok (.getfield 222, 3) := by decide +kernel
theorem dX5_tellChange_49 : decode cX5_tellChange 49 = .ok (.aload_n 0, 1) := by decide +kernel
theorem dX5_tellChange_50 : decode cX5_tellChange 50 = .ok (.getfield 12, 3) := by decide +kernel
theorem dX5_tellChange_53 : decode cX5_tellChange 53 = .ok (.getfield 147, 3) := by decide +kernel
theorem dX5_tellChange_56 : decode cX5_tellChange 56 = .ok (.aload_n 0, 1) := by decide +kernel
theorem dX5_tellChange_57 : decode cX5_tellChange 57 = .ok (.getfield 25, 3) := by decide +kernel
theorem dX5_tellChange_60 : decode cX5_tellChange 60 = .ok (.iconst 2, 1) := by decide +kernel
theorem dX5_tellChange_61 : decode cX5_tellChange 61 = .ok (.iaload, 1) := by decide +kernel
theorem dX5_tellChange_62 : decode cX5_tellChange 62 = .ok (.iastore, 1) := by decide +kernel
theorem dX5_tellChange_63 : decode cX5_tellChange 63 = .ok (.aload_n 0, 1) := by decide +kernel
theorem dX5_tellChange_64 : decode cX5_tellChange 64 = .ok (.getfield 12, 3) := by decide +kernel
theorem dX5_tellChange_67 : decode cX5_tellChange 67 = .ok (.dup, 1) := by decide +kernel
theorem dX5_tellChange_68 : decode cX5_tellChange 68 = .ok (.getfield 147, 3) := by decide +kernel
theorem dX5_tellChange_71 : decode cX5_tellChange 71 = .ok (.iconst 1, 1) := by decide +kernel
theorem dX5_tellChange_72 : decode cX5_tellChange 72 = .ok (.iadd, 1) := by decide +kernel
theorem dX5_tellChange_73 : decode cX5_tellChange 73 = .ok (.putfield 147, 3) := by decide +kernel
theorem dX5_tellChange_76 : decode cX5_tellChange 76 = .ok (.aload_n 0, 1) := by decide +kernel
theorem dX5_tellChange_77 : decode cX5_tellChange 77 = .ok (.aload_n 0, 1) := by decide +kernel
theorem dX5_tellChange_78 : decode cX5_tellChange 78 = .ok (.getfield 55, 3) := by decide +kernel
theorem dX5_tellChange_81 : decode cX5_tellChange 81 = .ok (.aload_n 0, 1) := by decide +kernel
theorem dX5_tellChange_82 : decode cX5_tellChange 82 = .ok (.getfield 25, 3) := by decide +kernel
theorem dX5_tellChange_85 : decode cX5_tellChange 85 = .ok (.iconst 0, 1) := by decide +kernel
theorem dX5_tellChange_86 : decode cX5_tellChange 86 = .ok (.iaload, 1) := by decide +kernel
theorem dX5_tellChange_87 : decode cX5_tellChange 87 = .ok (.invokestatic 187, 3) := by decide +kernel
theorem dX5_tellChange_90 : decode cX5_tellChange 90 = .ok (.putfield 55, 3) := by decide +kernel
theorem dX5_tellChange_93 : decode cX5_tellChange 93 = .ok (.return_, 1) := by decide +kernel
def w_X5_tellChange (I : mI) (o : Nat) (otp : Nat) (post : mI → Prop) : Prop := vp_in (I (o + 1) 4) 8 ∧ ∀ I1, I1 = up2 I ((o + 1) + 11) ((I (o + 1) 4).toNatClampNeg) (I (o + 20) (0 : Int32).toNatClampNeg) → vp_in (I1 (o + 1) 4) 8 ∧ ∀ I2, I2 = up2 I1 ((o + 1) + 12) ((I1 (o + 1) 4).toNatClampNeg) (I1 (o + 20) (1 : Int32).toNatClampNeg) → vp_in (I2 (o + 1) 4) 8 ∧ ∀ I3, I3 = up2 I2 ((o + 1) + 13) ((I2 (o + 1) 4).toNatClampNeg) (I2 (o + 20) (2 : Int32).toNatClampNeg) → ∀ I4, I4 = up2 I3 (o + 1) 4 ((I3 (o + 1) 4) + 1) → ∀ I5, I5 = up2 I4 o 13 (imax (I4 o 13) (I4 (o + 20) (0 : Int32).toNatClampNeg)) → post I5
set_option maxRecDepth 100000 in
set_option maxHeartbeats 4000000 in
theorem c_X5_tellChange {l : Launch} {D : va_G} {cA : Nat → ClassId} {Z : mZ} {bs : Ad} {n : Nat} {K : mK} {R : mR} {I : mI} {L : mL} {o : Nat} {otp : Nat} {post : mI → Prop} (ho : isX5 K R o otp) (hw : w_X5_tellChange I o otp post) : Met l yX5_tellChange (.code yX5_tellChange cX5_tellChange 1 none :: gw) ({ frames := 1, cells := 0, slots := 0, locals := 40 } : Room) (PreM D cA Z bs (n, K, R, I, L) [.ref (ad bs o)]) (QV D cA bs (fun u => ∃ I', u = (n, K, R, I', L) ∧ post I')) 0 0 (Ab bs) := by
  refine m_met (by decide) (Nat.le_of_ble_eq_true rfl) (fun p e s m below meth c ls E hr hlk hM hS hl => ?_)
  have E : Ev p s m _ c cX5_tellChange 1 RX5 D cA Z bs := E
  have hl : lv_has ls 1 [(0, .ref (ad bs o))] := hl
  have hx := E.1.1
  have hb := E.1.2.1
  generalize hHe : s.heap = H at hM ⊢
  have hS : va_S (Ab bs) s.heap H [] := by rw [← hHe]; exact va_S.rf
  clear hHe
  refine lv_aload_n hx hb dX5_tellChange_0 rfl (lv_at hl 0 rfl) ?_
  refine m_getr E hM fs_X5_12 ho.1.1 ho.2.1.1 dX5_tellChange_1 ?_
  refine m_getr E hM fs_X5_216 ho.2.1.2.1 (isO_at ho.2.1.2 10 rfl).1 dX5_tellChange_4 ?_
  refine lv_aload_n hx hb dX5_tellChange_7 rfl (lv_at hl 0 rfl) ?_
  refine m_getr E hM fs_X5_12 ho.1.1 ho.2.1.1 dX5_tellChange_8 ?_
  refine m_geti E hM fs_X5_147 ho.2.1.2.1 dX5_tellChange_11 ?_
  refine lv_aload_n hx hb dX5_tellChange_14 rfl (lv_at hl 0 rfl) ?_
  refine m_getr E hM fs_X5_25 ho.1.1 (isO_at ho.1 0 rfl).1 dX5_tellChange_15 ?_
  refine lv_iconst (v := 0) hx hb dX5_tellChange_18 (by decide) ?_
  refine m_iald E hM (isO_at ho.1 0 rfl).2 (by unfold vp_in; decide) dX5_tellChange_19 ?_
  obtain ⟨hv, hw⟩ := hw
  refine m_iast E hM hS (isO_at ho.2.1.2 10 rfl).2 hv dX5_tellChange_20 (fun I1 H locs eI1 hM hS => ?_)
  have hw := hw I1 eI1
  refine lv_aload_n hx hb dX5_tellChange_21 rfl (lv_at hl 0 rfl) ?_
  refine m_getr E hM fs_X5_12 ho.1.1 ho.2.1.1 dX5_tellChange_22 ?_
  refine m_getr E hM fs_X5_219 ho.2.1.2.1 (isO_at ho.2.1.2 11 rfl).1 dX5_tellChange_25 ?_
  refine lv_aload_n hx hb dX5_tellChange_28 rfl (lv_at hl 0 rfl) ?_
  refine m_getr E hM fs_X5_12 ho.1.1 ho.2.1.1 dX5_tellChange_29 ?_
  refine m_geti E hM fs_X5_147 ho.2.1.2.1 dX5_tellChange_32 ?_
  refine lv_aload_n hx hb dX5_tellChange_35 rfl (lv_at hl 0 rfl) ?_
  refine m_getr E hM fs_X5_25 ho.1.1 (isO_at ho.1 0 rfl).1 dX5_tellChange_36 ?_
  refine lv_iconst (v := 1) hx hb dX5_tellChange_39 (by decide) ?_
  refine m_iald E hM (isO_at ho.1 0 rfl).2 (by unfold vp_in; decide) dX5_tellChange_40 ?_
  obtain ⟨hv, hw⟩ := hw
  refine m_iast E hM hS (isO_at ho.2.1.2 11 rfl).2 hv dX5_tellChange_41 (fun I2 H locs eI2 hM hS => ?_)
  have hw := hw I2 eI2
  refine lv_aload_n hx hb dX5_tellChange_42 rfl (lv_at hl 0 rfl) ?_
  refine m_getr E hM fs_X5_12 ho.1.1 ho.2.1.1 dX5_tellChange_43 ?_
  refine m_getr E hM fs_X5_222 ho.2.1.2.1 (isO_at ho.2.1.2 12 rfl).1 dX5_tellChange_46 ?_
  refine lv_aload_n hx hb dX5_tellChange_49 rfl (lv_at hl 0 rfl) ?_
  refine m_getr E hM fs_X5_12 ho.1.1 ho.2.1.1 dX5_tellChange_50 ?_
  refine m_geti E hM fs_X5_147 ho.2.1.2.1 dX5_tellChange_53 ?_
  refine lv_aload_n hx hb dX5_tellChange_56 rfl (lv_at hl 0 rfl) ?_
  refine m_getr E hM fs_X5_25 ho.1.1 (isO_at ho.1 0 rfl).1 dX5_tellChange_57 ?_
  refine lv_iconst (v := 2) hx hb dX5_tellChange_60 (by decide) ?_
  refine m_iald E hM (isO_at ho.1 0 rfl).2 (by unfold vp_in; decide) dX5_tellChange_61 ?_
  obtain ⟨hv, hw⟩ := hw
  refine m_iast E hM hS (isO_at ho.2.1.2 12 rfl).2 hv dX5_tellChange_62 (fun I3 H locs eI3 hM hS => ?_)
  have hw := hw I3 eI3
  refine lv_aload_n hx hb dX5_tellChange_63 rfl (lv_at hl 0 rfl) ?_
  refine m_getr E hM fs_X5_12 ho.1.1 ho.2.1.1 dX5_tellChange_64 ?_
  refine lv_dup hx hb dX5_tellChange_67 rfl ?_
  refine m_geti E hM fs_X5_147 ho.2.1.2.1 dX5_tellChange_68 ?_
  refine lv_iconst (v := 1) hx hb dX5_tellChange_71 (by decide) ?_
  refine lv_iadd hx hb dX5_tellChange_72 ?_
  refine m_puti E hM hS fp_X5_147 ho.2.1.2.1 rfl rfl dX5_tellChange_73 (fun I4 H locs eI4 hM hS => ?_)
  have hw := hw I4 eI4
  refine lv_aload_n hx hb dX5_tellChange_76 rfl (lv_at hl 0 rfl) ?_
  refine lv_aload_n hx hb dX5_tellChange_77 rfl (lv_at hl 0 rfl) ?_
  refine m_geti E hM fs_X5_55 ho.1.1 dX5_tellChange_78 ?_
  refine lv_aload_n hx hb dX5_tellChange_81 rfl (lv_at hl 0 rfl) ?_
  refine m_getr E hM fs_X5_25 ho.1.1 (isO_at ho.1 0 rfl).1 dX5_tellChange_82 ?_
  refine lv_iconst (v := 0) hx hb dX5_tellChange_85 (by decide) ?_
  refine m_iald E hM (isO_at ho.1 0 rfl).2 (by unfold vp_in; decide) dX5_tellChange_86 ?_
  refine m_max E ml_X5_187 hl.1 (Nat.le_of_ble_eq_true rfl) (Nat.le_of_ble_eq_true rfl) (Nat.le_of_ble_eq_true rfl) (Nat.le_of_ble_eq_true rfl) dX5_tellChange_87 ?_
  refine m_puti E hM hS fp_X5_55 ho.1.1 rfl rfl dX5_tellChange_90 (fun I5 H locs eI5 hM hS => ?_)
  have hw := hw I5 eI5
  exact m_retv hx hb hr hlk hM hS ⟨_, rfl, hw⟩ dX5_tellChange_93
theorem dX5_tellSound_0 : decode cX5_tellSound 0 = .ok (.aload_n 0, 1) := by decide +kernel
theorem dX5_tellSound_1 : decode cX5_tellSound 1 = .ok (.getfield 21, 3) := by decide +kernel
theorem dX5_tellSound_4 : decode cX5_tellSound 4 = .ok (.getfield 225, 3) := by decide +kernel
theorem dX5_tellSound_7 : decode cX5_tellSound 7 = .ok (.aload_n 0, 1) := by decide +kernel
theorem dX5_tellSound_8 : decode cX5_tellSound 8 = .ok (.getfield 21, 3) := by decide +kernel
theorem dX5_tellSound_11 : decode cX5_tellSound 11 = .ok (.getfield 61, 3) := by decide +kernel
theorem dX5_tellSound_14 : decode cX5_tellSound 14 = .ok (.aload_n 0, 1) := by decide +kernel
theorem dX5_tellSound_15 : decode cX5_tellSound 15 = .ok (.getfield 25, 3) := by decide +kernel
theorem dX5_tellSound_18 : decode cX5_tellSound 18 = .ok (.iconst 0, 1) := by decide +kernel
theorem dX5_tellSound_19 : decode cX5_tellSound 19 = .ok (.iaload, 1) := by decide +kernel
theorem dX5_tellSound_20 : decode cX5_tellSound 20 = .ok (.iastore, 1) := by decide +kernel
theorem dX5_tellSound_21 : decode cX5_tellSound 21 = .ok (.aload_n 0, 1) := by decide +kernel
theorem dX5_tellSound_22 : decode cX5_tellSound 22 = .ok (.getfield 21, 3) := by decide +kernel
theorem dX5_tellSound_25 : decode cX5_tellSound 25 = .ok (.getfield 227, 3) := by decide +kernel
theorem dX5_tellSound_28 : decode cX5_tellSound 28 = .ok (.aload_n 0, 1) := by decide +kernel
theorem dX5_tellSound_29 : decode cX5_tellSound 29 = .ok (.getfield 21, 3) := by decide +kernel
theorem dX5_tellSound_32 : decode cX5_tellSound 32 = .ok (.getfield 61, 3) := by decide +kernel
theorem dX5_tellSound_35 : decode cX5_tellSound 35 = .ok (.aload_n 0, 1) := by decide +kernel
theorem dX5_tellSound_36 : decode cX5_tellSound 36 = .ok (.getfield 25, 3) := by decide +kernel
theorem dX5_tellSound_39 : decode cX5_tellSound 39 = .ok (.iconst 1, 1) := by decide +kernel
theorem dX5_tellSound_40 : decode cX5_tellSound 40 = .ok (.iaload, 1) := by decide +kernel
theorem dX5_tellSound_41 : decode cX5_tellSound 41 = .ok (.iastore, 1) := by decide +kernel
theorem dX5_tellSound_42 : decode cX5_tellSound 42 = .ok (.aload_n 0, 1) := by decide +kernel
theorem dX5_tellSound_43 : decode cX5_tellSound 43 = .ok (.getfield 21, 3) := by decide +kernel
theorem dX5_tellSound_46 : decode cX5_tellSound 46 = .ok (.getfield 230, 3) := by decide +kernel
theorem dX5_tellSound_49 : decode cX5_tellSound 49 = .ok (.aload_n 0, 1) := by decide +kernel
theorem dX5_tellSound_50 : decode cX5_tellSound 50 = .ok (.getfield 21, 3) := by decide +kernel
theorem dX5_tellSound_53 : decode cX5_tellSound 53 = .ok (.getfield 61, 3) := by decide +kernel
theorem dX5_tellSound_56 : decode cX5_tellSound 56 = .ok (.aload_n 0, 1) := by decide +kernel
theorem dX5_tellSound_57 : decode cX5_tellSound 57 = .ok (.getfield 25, 3) := by decide +kernel
theorem dX5_tellSound_60 : decode cX5_tellSound 60 = .ok (.iconst 2, 1) := by decide +kernel
theorem dX5_tellSound_61 : decode cX5_tellSound 61 = .ok (.iaload, 1) := by decide +kernel
theorem dX5_tellSound_62 : decode cX5_tellSound 62 = .ok (.iastore, 1) := by decide +kernel
theorem dX5_tellSound_63 : decode cX5_tellSound 63 = .ok (.aload_n 0, 1) := by decide +kernel
theorem dX5_tellSound_64 : decode cX5_tellSound 64 = .ok (.getfield 21, 3) := by decide +kernel
theorem dX5_tellSound_67 : decode cX5_tellSound 67 = .ok (.getfield 231, 3) := by decide +kernel
theorem dX5_tellSound_70 : decode cX5_tellSound 70 = .ok (.aload_n 0, 1) := by decide +kernel
theorem dX5_tellSound_71 : decode cX5_tellSound 71 = .ok (.getfield 21, 3) := by decide +kernel
theorem dX5_tellSound_74 : decode cX5_tellSound 74 = .ok (.getfield 61, 3) := by decide +kernel
theorem dX5_tellSound_77 : decode cX5_tellSound 77 = .ok (.aload_n 0, 1) := by decide +kernel
theorem dX5_tellSound_78 : decode cX5_tellSound 78 = .ok (.getfield 25, 3) := by decide +kernel
theorem dX5_tellSound_81 : decode cX5_tellSound 81 = .ok (.iconst 3, 1) := by decide +kernel
theorem dX5_tellSound_82 : decode cX5_tellSound 82 = .ok (.iaload, 1) := by decide +kernel
theorem dX5_tellSound_83 : decode cX5_tellSound 83 = .ok (.iastore, 1) := by decide +kernel
theorem dX5_tellSound_84 : decode cX5_tellSound 84 = .ok (.aload_n 0, 1) := by decide +kernel
theorem dX5_tellSound_85 : decode cX5_tellSound 85 = .ok (.getfield 21, 3) := by decide +kernel
theorem dX5_tellSound_88 : decode cX5_tellSound 88 = .ok (.dup, 1) := by decide +kernel
theorem dX5_tellSound_89 : decode cX5_tellSound 89 = .ok (.getfield 61, 3) := by decide +kernel
theorem dX5_tellSound_92 : decode cX5_tellSound 92 = .ok (.iconst 1, 1) := by decide +kernel
theorem dX5_tellSound_93 : decode cX5_tellSound 93 = .ok (.iadd, 1) := by decide +kernel
theorem dX5_tellSound_94 : decode cX5_tellSound 94 = .ok (.putfield 61, 3) := by decide +kernel
theorem dX5_tellSound_97 : decode cX5_tellSound 97 = .ok (.return_, 1) := by decide +kernel
def w_X5_tellSound (I : mI) (o : Nat) (otp : Nat) (post : mI → Prop) : Prop := vp_in (I (o + 15) 0) 10 ∧ ∀ I1, I1 = up2 I ((o + 15) + 1) ((I (o + 15) 0).toNatClampNeg) (I (o + 20) (0 : Int32).toNatClampNeg) → vp_in (I1 (o + 15) 0) 10 ∧ ∀ I2, I2 = up2 I1 ((o + 15) + 2) ((I1 (o + 15) 0).toNatClampNeg) (I1 (o + 20) (1 : Int32).toNatClampNeg) → vp_in (I2 (o + 15) 0) 10 ∧ ∀ I3, I3 = up2 I2 ((o + 15) + 3) ((I2 (o + 15) 0).toNatClampNeg) (I2 (o + 20) (2 : Int32).toNatClampNeg) → vp_in (I3 (o + 15) 0) 10 ∧ ∀ I4, I4 = up2 I3 ((o + 15) + 4) ((I3 (o + 15) 0).toNatClampNeg) (I3 (o + 20) (3 : Int32).toNatClampNeg) → ∀ I5, I5 = up2 I4 (o + 15) 0 ((I4 (o + 15) 0) + 1) → post I5
set_option maxRecDepth 100000 in
set_option maxHeartbeats 4000000 in
theorem c_X5_tellSound {l : Launch} {D : va_G} {cA : Nat → ClassId} {Z : mZ} {bs : Ad} {n : Nat} {K : mK} {R : mR} {I : mI} {L : mL} {o : Nat} {otp : Nat} {post : mI → Prop} (ho : isX5 K R o otp) (hw : w_X5_tellSound I o otp post) : Met l yX5_tellSound (.code yX5_tellSound cX5_tellSound 1 none :: gw) ({ frames := 0, cells := 0, slots := 0, locals := 0 } : Room) (PreM D cA Z bs (n, K, R, I, L) [.ref (ad bs o)]) (QV D cA bs (fun u => ∃ I', u = (n, K, R, I', L) ∧ post I')) 0 0 (Ab bs) := by
  refine m_met (by decide) (Nat.le_of_ble_eq_true rfl) (fun p e s m below meth c ls E hr hlk hM hS hl => ?_)
  have E : Ev p s m _ c cX5_tellSound 1 RX5 D cA Z bs := E
  have hl : lv_has ls 1 [(0, .ref (ad bs o))] := hl
  have hx := E.1.1
  have hb := E.1.2.1
  generalize hHe : s.heap = H at hM ⊢
  have hS : va_S (Ab bs) s.heap H [] := by rw [← hHe]; exact va_S.rf
  clear hHe
  refine lv_aload_n hx hb dX5_tellSound_0 rfl (lv_at hl 0 rfl) ?_
  refine m_getr E hM fs_X5_21 ho.1.1 ho.2.2.1.1 dX5_tellSound_1 ?_
  refine m_getr E hM fs_X5_225 ho.2.2.1.2.1 (isO_at ho.2.2.1.2 0 rfl).1 dX5_tellSound_4 ?_
  refine lv_aload_n hx hb dX5_tellSound_7 rfl (lv_at hl 0 rfl) ?_
  refine m_getr E hM fs_X5_21 ho.1.1 ho.2.2.1.1 dX5_tellSound_8 ?_
  refine m_geti E hM fs_X5_61 ho.2.2.1.2.1 dX5_tellSound_11 ?_
  refine lv_aload_n hx hb dX5_tellSound_14 rfl (lv_at hl 0 rfl) ?_
  refine m_getr E hM fs_X5_25 ho.1.1 (isO_at ho.1 0 rfl).1 dX5_tellSound_15 ?_
  refine lv_iconst (v := 0) hx hb dX5_tellSound_18 (by decide) ?_
  refine m_iald E hM (isO_at ho.1 0 rfl).2 (by unfold vp_in; decide) dX5_tellSound_19 ?_
  obtain ⟨hv, hw⟩ := hw
  refine m_iast E hM hS (isO_at ho.2.2.1.2 0 rfl).2 hv dX5_tellSound_20 (fun I1 H locs eI1 hM hS => ?_)
  have hw := hw I1 eI1
  refine lv_aload_n hx hb dX5_tellSound_21 rfl (lv_at hl 0 rfl) ?_
  refine m_getr E hM fs_X5_21 ho.1.1 ho.2.2.1.1 dX5_tellSound_22 ?_
  refine m_getr E hM fs_X5_227 ho.2.2.1.2.1 (isO_at ho.2.2.1.2 1 rfl).1 dX5_tellSound_25 ?_
  refine lv_aload_n hx hb dX5_tellSound_28 rfl (lv_at hl 0 rfl) ?_
  refine m_getr E hM fs_X5_21 ho.1.1 ho.2.2.1.1 dX5_tellSound_29 ?_
  refine m_geti E hM fs_X5_61 ho.2.2.1.2.1 dX5_tellSound_32 ?_
  refine lv_aload_n hx hb dX5_tellSound_35 rfl (lv_at hl 0 rfl) ?_
  refine m_getr E hM fs_X5_25 ho.1.1 (isO_at ho.1 0 rfl).1 dX5_tellSound_36 ?_
  refine lv_iconst (v := 1) hx hb dX5_tellSound_39 (by decide) ?_
  refine m_iald E hM (isO_at ho.1 0 rfl).2 (by unfold vp_in; decide) dX5_tellSound_40 ?_
  obtain ⟨hv, hw⟩ := hw
  refine m_iast E hM hS (isO_at ho.2.2.1.2 1 rfl).2 hv dX5_tellSound_41 (fun I2 H locs eI2 hM hS => ?_)
  have hw := hw I2 eI2
  refine lv_aload_n hx hb dX5_tellSound_42 rfl (lv_at hl 0 rfl) ?_
  refine m_getr E hM fs_X5_21 ho.1.1 ho.2.2.1.1 dX5_tellSound_43 ?_
  refine m_getr E hM fs_X5_230 ho.2.2.1.2.1 (isO_at ho.2.2.1.2 2 rfl).1 dX5_tellSound_46 ?_
  refine lv_aload_n hx hb dX5_tellSound_49 rfl (lv_at hl 0 rfl) ?_
  refine m_getr E hM fs_X5_21 ho.1.1 ho.2.2.1.1 dX5_tellSound_50 ?_
  refine m_geti E hM fs_X5_61 ho.2.2.1.2.1 dX5_tellSound_53 ?_
  refine lv_aload_n hx hb dX5_tellSound_56 rfl (lv_at hl 0 rfl) ?_
  refine m_getr E hM fs_X5_25 ho.1.1 (isO_at ho.1 0 rfl).1 dX5_tellSound_57 ?_
  refine lv_iconst (v := 2) hx hb dX5_tellSound_60 (by decide) ?_
  refine m_iald E hM (isO_at ho.1 0 rfl).2 (by unfold vp_in; decide) dX5_tellSound_61 ?_
  obtain ⟨hv, hw⟩ := hw
  refine m_iast E hM hS (isO_at ho.2.2.1.2 2 rfl).2 hv dX5_tellSound_62 (fun I3 H locs eI3 hM hS => ?_)
  have hw := hw I3 eI3
  refine lv_aload_n hx hb dX5_tellSound_63 rfl (lv_at hl 0 rfl) ?_
  refine m_getr E hM fs_X5_21 ho.1.1 ho.2.2.1.1 dX5_tellSound_64 ?_
  refine m_getr E hM fs_X5_231 ho.2.2.1.2.1 (isO_at ho.2.2.1.2 3 rfl).1 dX5_tellSound_67 ?_
  refine lv_aload_n hx hb dX5_tellSound_70 rfl (lv_at hl 0 rfl) ?_
  refine m_getr E hM fs_X5_21 ho.1.1 ho.2.2.1.1 dX5_tellSound_71 ?_
  refine m_geti E hM fs_X5_61 ho.2.2.1.2.1 dX5_tellSound_74 ?_
  refine lv_aload_n hx hb dX5_tellSound_77 rfl (lv_at hl 0 rfl) ?_
  refine m_getr E hM fs_X5_25 ho.1.1 (isO_at ho.1 0 rfl).1 dX5_tellSound_78 ?_
  refine lv_iconst (v := 3) hx hb dX5_tellSound_81 (by decide) ?_
  refine m_iald E hM (isO_at ho.1 0 rfl).2 (by unfold vp_in; decide) dX5_tellSound_82 ?_
  obtain ⟨hv, hw⟩ := hw
  refine m_iast E hM hS (isO_at ho.2.2.1.2 3 rfl).2 hv dX5_tellSound_83 (fun I4 H locs eI4 hM hS => ?_)
  have hw := hw I4 eI4
  refine lv_aload_n hx hb dX5_tellSound_84 rfl (lv_at hl 0 rfl) ?_
  refine m_getr E hM fs_X5_21 ho.1.1 ho.2.2.1.1 dX5_tellSound_85 ?_
  refine lv_dup hx hb dX5_tellSound_88 rfl ?_
  refine m_geti E hM fs_X5_61 ho.2.2.1.2.1 dX5_tellSound_89 ?_
  refine lv_iconst (v := 1) hx hb dX5_tellSound_92 (by decide) ?_
  refine lv_iadd hx hb dX5_tellSound_93 ?_
  refine m_puti E hM hS fp_X5_61 ho.2.2.1.2.1 rfl rfl dX5_tellSound_94 (fun I5 H locs eI5 hM hS => ?_)
  have hw := hw I5 eI5
  exact m_retv hx hb hr hlk hM hS ⟨_, rfl, hw⟩ dX5_tellSound_97
theorem dX5_tell_0 : decode cX5_tell 0 = .ok (.iload_n 1, 1) := by decide +kernel
theorem dX5_tell_1 : decode cX5_tell 1 = .ok (.tableswitch 110 0 6 #[43, 59, 75, 82, 89, 96, 103], 43) := by decide +kernel
theorem dX5_tell_44 : decode cX5_tell 44 = .ok (.aload_n 0, 1) := by decide +kernel
theorem dX5_tell_45 : decode cX5_tell 45 = .ok (.getfield 12, 3) := by decide +kernel
theorem dX5_tell_48 : decode cX5_tell 48 = .ok (.aload_n 0, 1) := by decide +kernel
theorem dX5_tell_49 : decode cX5_tell 49 = .ok (.getfield 25, 3) := by decide +kernel
theorem dX5_tell_52 : decode cX5_tell 52 = .ok (.iconst 0, 1) := by decide +kernel
theorem dX5_tell_53 : decode cX5_tell 53 = .ok (.iaload, 1) := by decide +kernel
theorem dX5_tell_54 : decode cX5_tell 54 = .ok (.putfield 74, 3) := by decide +kernel
theorem dX5_tell_57 : decode cX5_tell 57 = .ok (.goto 58, 3) := by decide +kernel
theorem dX5_tell_60 : decode cX5_tell 60 = .ok (.aload_n 0, 1) := by decide +kernel
theorem dX5_tell_61 : decode cX5_tell 61 = .ok (.getfield 12, 3) := by decide +kernel
theorem dX5_tell_64 : decode cX5_tell 64 = .ok (.aload_n 0, 1) := by decide +kernel
theorem dX5_tell_65 : decode cX5_tell 65 = .ok (.getfield 25, 3) := by decide +kernel
theorem dX5_tell_68 : decode cX5_tell 68 = .ok (.iconst 0, 1) := by decide +kernel
theorem dX5_tell_69 : decode cX5_tell 69 = .ok (.iaload, 1) := by decide +kernel
theorem dX5_tell_70 : decode cX5_tell 70 = .ok (.putfield 165, 3) := by decide +kernel
theorem dX5_tell_73 : decode cX5_tell 73 = .ok (.goto 42, 3) := by decide +kernel
theorem dX5_tell_76 : decode cX5_tell 76 = .ok (.aload_n 0, 1) := by decide +kernel
theorem dX5_tell_77 : decode cX5_tell 77 = .ok (.invokevirtual 167, 3) := by decide +kernel
theorem dX5_tell_80 : decode cX5_tell 80 = .ok (.goto 35, 3) := by decide +kernel
theorem dX5_tell_83 : decode cX5_tell 83 = .ok (.aload_n 0, 1) := by decide +kernel
theorem dX5_tell_84 : decode cX5_tell 84 = .ok (.invokevirtual 170, 3) := by decide +kernel
theorem dX5_tell_87 : decode cX5_tell 87 = .ok (.goto 28, 3) := by decide +kernel
theorem dX5_tell_90 : decode cX5_tell 90 = .ok (.aload_n 0, 1) := by decide +kernel
theorem dX5_tell_91 : decode cX5_tell 91 = .ok (.invokevirtual 173, 3) := by decide +kernel
theorem dX5_tell_94 : decode cX5_tell 94 = .ok (.goto 21, 3) := by decide +kernel
theorem dX5_tell_97 : decode cX5_tell 97 = .ok (.aload_n 0, 1) := by decide +kernel
theorem dX5_tell_98 : decode cX5_tell 98 = .ok (.invokevirtual 176, 3) := by decide +kernel
theorem dX5_tell_101 : decode cX5_tell 101 = .ok (.goto 14, 3) := by decide +kernel
theorem dX5_tell_104 : decode cX5_tell 104 = .ok (.aload_n 0, 1) := by decide +kernel
theorem dX5_tell_105 : decode cX5_tell 105 = .ok (.invokevirtual 179, 3) := by decide +kernel
theorem dX5_tell_108 : decode cX5_tell 108 = .ok (.goto 7, 3) := by decide +kernel
theorem dX5_tell_111 : decode cX5_tell 111 = .ok (.aload_n 0, 1) := by decide +kernel
theorem dX5_tell_112 : decode cX5_tell 112 = .ok (.invokevirtual 182, 3) := by decide +kernel
theorem dX5_tell_115 : decode cX5_tell 115 = .ok (.return_, 1) := by decide +kernel
def w_X5_tell (I : mI) (o : Nat) (otp : Nat) (a1 : Int32) (post : mI → Prop) : Prop := (a1 = 0 → ∀ I1, I1 = up2 I (o + 1) 0 (I (o + 20) (0 : Int32).toNatClampNeg) → post I1) ∧ (a1 = 1 → ∀ I2, I2 = up2 I (o + 1) 1 (I (o + 20) (0 : Int32).toNatClampNeg) → post I2) ∧ (a1 = 2 → w_X5_tellCarpet I o otp (fun I3 => post I3)) ∧ (a1 = 3 → w_X5_tellFlat I o otp (fun I4 => post I4)) ∧ (a1 = 4 → w_X5_tellPerson I o otp (fun I5 => post I5)) ∧ (a1 = 5 → w_X5_tellWalk I o otp (fun I6 => post I6)) ∧ (a1 = 6 → w_X5_tellChange I o otp (fun I7 => post I7)) ∧ (¬ a1 = 0 → ¬ a1 = 1 → ¬ a1 = 2 → ¬ a1 = 3 → ¬ a1 = 4 → ¬ a1 = 5 → ¬ a1 = 6 → w_X5_tellSound I o otp (fun I8 => post I8))
set_option maxRecDepth 100000 in
set_option maxHeartbeats 4000000 in
theorem c_X5_tell {l : Launch} {D : va_G} {cA : Nat → ClassId} {Z : mZ} {bs : Ad} {n : Nat} {K : mK} {R : mR} {I : mI} {L : mL} {o : Nat} {otp : Nat} {a1 : Int32} {post : mI → Prop} (ho : isX5 K R o otp) (hw : w_X5_tell I o otp a1 post) : Met l yX5_tell (.code yX5_tell cX5_tell 2 none :: gw) ({ frames := 2, cells := 0, slots := 0, locals := 62 } : Room) (PreM D cA Z bs (n, K, R, I, L) [.ref (ad bs o), .int a1]) (QV D cA bs (fun u => ∃ I', u = (n, K, R, I', L) ∧ post I')) 0 0 (Ab bs) := by
  refine m_met (by decide) (Nat.le_of_ble_eq_true rfl) (fun p e s m below meth c ls E hr hlk hM hS hl => ?_)
  have E : Ev p s m _ c cX5_tell 2 RX5 D cA Z bs := E
  have hl : lv_has ls 2 [(0, .ref (ad bs o)), (1, .int a1)] := hl
  have hx := E.1.1
  have hb := E.1.2.1
  generalize hHe : s.heap = H at hM ⊢
  have hS : va_S (Ab bs) s.heap H [] := by rw [← hHe]; exact va_S.rf
  clear hHe
  refine lv_iload_n hx hb dX5_tell_0 rfl (lv_at hl 1 rfl) ?_
  by_cases cq0 : a1 = 0
  · have hw := hw.1 cq0
    refine lv_tableIn (tgt := 44) hx hb dX5_tell_1 (by rw [cq0]; decide) (by rw [cq0]; decide) (by rw [cq0]; rfl) (by decide) ?_
    refine lv_aload_n hx hb dX5_tell_44 rfl (lv_at hl 0 rfl) ?_
    refine m_getr E hM fs_X5_12 ho.1.1 ho.2.1.1 dX5_tell_45 ?_
    refine lv_aload_n hx hb dX5_tell_48 rfl (lv_at hl 0 rfl) ?_
    refine m_getr E hM fs_X5_25 ho.1.1 (isO_at ho.1 0 rfl).1 dX5_tell_49 ?_
    refine lv_iconst (v := 0) hx hb dX5_tell_52 (by decide) ?_
    refine m_iald E hM (isO_at ho.1 0 rfl).2 (by unfold vp_in; decide) dX5_tell_53 ?_
    refine m_puti E hM hS fp_X5_74 ho.2.1.2.1 rfl rfl dX5_tell_54 (fun I1 H locs eI1 hM hS => ?_)
    have hw := hw I1 eI1
    refine lv_goto (tgt := 115) hx hb dX5_tell_57 (by decide) ?_
    exact m_retv hx hb hr hlk hM hS ⟨_, rfl, hw⟩ dX5_tell_115
  by_cases cq1 : a1 = 1
  · have hw := hw.2.1 cq1
    refine lv_tableIn (tgt := 60) hx hb dX5_tell_1 (by rw [cq1]; decide) (by rw [cq1]; decide) (by rw [cq1]; rfl) (by decide) ?_
    refine lv_aload_n hx hb dX5_tell_60 rfl (lv_at hl 0 rfl) ?_
    refine m_getr E hM fs_X5_12 ho.1.1 ho.2.1.1 dX5_tell_61 ?_
    refine lv_aload_n hx hb dX5_tell_64 rfl (lv_at hl 0 rfl) ?_
    refine m_getr E hM fs_X5_25 ho.1.1 (isO_at ho.1 0 rfl).1 dX5_tell_65 ?_
    refine lv_iconst (v := 0) hx hb dX5_tell_68 (by decide) ?_
    refine m_iald E hM (isO_at ho.1 0 rfl).2 (by unfold vp_in; decide) dX5_tell_69 ?_
    refine m_puti E hM hS fp_X5_165 ho.2.1.2.1 rfl rfl dX5_tell_70 (fun I2 H locs eI2 hM hS => ?_)
    have hw := hw I2 eI2
    refine lv_goto (tgt := 115) hx hb dX5_tell_73 (by decide) ?_
    exact m_retv hx hb hr hlk hM hS ⟨_, rfl, hw⟩ dX5_tell_115
  by_cases cq2 : a1 = 2
  · have hw := hw.2.2.1 cq2
    refine lv_tableIn (tgt := 76) hx hb dX5_tell_1 (by rw [cq2]; decide) (by rw [cq2]; decide) (by rw [cq2]; rfl) (by decide) ?_
    refine lv_aload_n hx hb dX5_tell_76 rfl (lv_at hl 0 rfl) ?_
    refine m_cv (m_runV E hM hS cs_X5_167 ho.1.1 (by decide) rfl rfl (c_X5_tellCarpet ho hw) rfl rfl ⟨Nat.le_of_ble_eq_true rfl, Nat.le_of_ble_eq_true rfl⟩ rfl hl.1 rfl (Nat.le_of_ble_eq_true rfl) dX5_tell_77 ⟨Nat.le_of_ble_eq_true rfl, Nat.le_of_ble_eq_true rfl⟩) hS (fun u H locs hp hM hS => ?_)
    obtain ⟨I3, rfl, hw⟩ := hp
    refine lv_goto (tgt := 115) hx hb dX5_tell_80 (by decide) ?_
    exact m_retv hx hb hr hlk hM hS ⟨_, rfl, hw⟩ dX5_tell_115
  by_cases cq3 : a1 = 3
  · have hw := hw.2.2.2.1 cq3
    refine lv_tableIn (tgt := 83) hx hb dX5_tell_1 (by rw [cq3]; decide) (by rw [cq3]; decide) (by rw [cq3]; rfl) (by decide) ?_
    refine lv_aload_n hx hb dX5_tell_83 rfl (lv_at hl 0 rfl) ?_
    refine m_cv (m_runV E hM hS cs_X5_170 ho.1.1 (by decide) rfl rfl (c_X5_tellFlat ho hw) rfl rfl ⟨Nat.le_of_ble_eq_true rfl, Nat.le_of_ble_eq_true rfl⟩ rfl hl.1 rfl (Nat.le_of_ble_eq_true rfl) dX5_tell_84 ⟨Nat.le_of_ble_eq_true rfl, Nat.le_of_ble_eq_true rfl⟩) hS (fun u H locs hp hM hS => ?_)
    obtain ⟨I4, rfl, hw⟩ := hp
    refine lv_goto (tgt := 115) hx hb dX5_tell_87 (by decide) ?_
    exact m_retv hx hb hr hlk hM hS ⟨_, rfl, hw⟩ dX5_tell_115
  by_cases cq4 : a1 = 4
  · have hw := hw.2.2.2.2.1 cq4
    refine lv_tableIn (tgt := 90) hx hb dX5_tell_1 (by rw [cq4]; decide) (by rw [cq4]; decide) (by rw [cq4]; rfl) (by decide) ?_
    refine lv_aload_n hx hb dX5_tell_90 rfl (lv_at hl 0 rfl) ?_
    refine m_cv (m_runV E hM hS cs_X5_173 ho.1.1 (by decide) rfl rfl (c_X5_tellPerson ho hw) rfl rfl ⟨Nat.le_of_ble_eq_true rfl, Nat.le_of_ble_eq_true rfl⟩ rfl hl.1 rfl (Nat.le_of_ble_eq_true rfl) dX5_tell_91 ⟨Nat.le_of_ble_eq_true rfl, Nat.le_of_ble_eq_true rfl⟩) hS (fun u H locs hp hM hS => ?_)
    obtain ⟨I5, rfl, hw⟩ := hp
    refine lv_goto (tgt := 115) hx hb dX5_tell_94 (by decide) ?_
    exact m_retv hx hb hr hlk hM hS ⟨_, rfl, hw⟩ dX5_tell_115
  by_cases cq5 : a1 = 5
  · have hw := hw.2.2.2.2.2.1 cq5
    refine lv_tableIn (tgt := 97) hx hb dX5_tell_1 (by rw [cq5]; decide) (by rw [cq5]; decide) (by rw [cq5]; rfl) (by decide) ?_
    refine lv_aload_n hx hb dX5_tell_97 rfl (lv_at hl 0 rfl) ?_
    refine m_cv (m_runV E hM hS cs_X5_176 ho.1.1 (by decide) rfl rfl (c_X5_tellWalk ho hw) rfl rfl ⟨Nat.le_of_ble_eq_true rfl, Nat.le_of_ble_eq_true rfl⟩ rfl hl.1 rfl (Nat.le_of_ble_eq_true rfl) dX5_tell_98 ⟨Nat.le_of_ble_eq_true rfl, Nat.le_of_ble_eq_true rfl⟩) hS (fun u H locs hp hM hS => ?_)
    obtain ⟨I6, rfl, hw⟩ := hp
    refine lv_goto (tgt := 115) hx hb dX5_tell_101 (by decide) ?_
    exact m_retv hx hb hr hlk hM hS ⟨_, rfl, hw⟩ dX5_tell_115
  by_cases cq6 : a1 = 6
  · have hw := hw.2.2.2.2.2.2.1 cq6
    refine lv_tableIn (tgt := 104) hx hb dX5_tell_1 (by rw [cq6]; decide) (by rw [cq6]; decide) (by rw [cq6]; rfl) (by decide) ?_
    refine lv_aload_n hx hb dX5_tell_104 rfl (lv_at hl 0 rfl) ?_
    refine m_cv (m_runV E hM hS cs_X5_179 ho.1.1 (by decide) rfl rfl (c_X5_tellChange ho hw) rfl rfl ⟨Nat.le_of_ble_eq_true rfl, Nat.le_of_ble_eq_true rfl⟩ rfl hl.1 rfl (Nat.le_of_ble_eq_true rfl) dX5_tell_105 ⟨Nat.le_of_ble_eq_true rfl, Nat.le_of_ble_eq_true rfl⟩) hS (fun u H locs hp hM hS => ?_)
    obtain ⟨I7, rfl, hw⟩ := hp
    refine lv_goto (tgt := 115) hx hb dX5_tell_108 (by decide) ?_
    exact m_retv hx hb hr hlk hM hS ⟨_, rfl, hw⟩ dX5_tell_115
  have hw := hw.2.2.2.2.2.2.2 cq0 cq1 cq2 cq3 cq4 cq5 cq6
  refine lv_tableOut (tgt := 111) hx hb dX5_tell_1 (by have hn0 := lv_neT cq0 (a := 0) (by decide); have hn1 := lv_neT cq1 (a := 1) (by decide); have hn2 := lv_neT cq2 (a := 2) (by decide); have hn3 := lv_neT cq3 (a := 3) (by decide); have hn4 := lv_neT cq4 (a := 4) (by decide); have hn5 := lv_neT cq5 (a := 5) (by decide); have hn6 := lv_neT cq6 (a := 6) (by decide); omega) (by decide) ?_
  refine lv_aload_n hx hb dX5_tell_111 rfl (lv_at hl 0 rfl) ?_
  refine m_cv (m_runV E hM hS cs_X5_182 ho.1.1 (by decide) rfl rfl (c_X5_tellSound ho hw) rfl rfl ⟨Nat.le_of_ble_eq_true rfl, Nat.le_of_ble_eq_true rfl⟩ rfl hl.1 rfl (Nat.le_of_ble_eq_true rfl) dX5_tell_112 ⟨Nat.le_of_ble_eq_true rfl, Nat.le_of_ble_eq_true rfl⟩) hS (fun u H locs hp hM hS => ?_)
  obtain ⟨I8, rfl, hw⟩ := hp
  exact m_retv hx hb hr hlk hM hS ⟨_, rfl, hw⟩ dX5_tell_115
theorem dX6_copyFrom_0 : decode cX6_copyFrom 0 = .ok (.aload_n 0, 1) := by decide +kernel
theorem dX6_copyFrom_1 : decode cX6_copyFrom 1 = .ok (.aload_n 1, 1) := by decide +kernel
theorem dX6_copyFrom_2 : decode cX6_copyFrom 2 = .ok (.getfield 24, 3) := by decide +kernel
theorem dX6_copyFrom_5 : decode cX6_copyFrom 5 = .ok (.putfield 24, 3) := by decide +kernel
theorem dX6_copyFrom_8 : decode cX6_copyFrom 8 = .ok (.aload_n 1, 1) := by decide +kernel
theorem dX6_copyFrom_9 : decode cX6_copyFrom 9 = .ok (.getfield 9, 3) := by decide +kernel
theorem dX6_copyFrom_12 : decode cX6_copyFrom 12 = .ok (.iconst 0, 1) := by decide +kernel
theorem dX6_copyFrom_13 : decode cX6_copyFrom 13 = .ok (.aload_n 0, 1) := by decide +kernel
theorem dX6_copyFrom_14 : decode cX6_copyFrom 14 = .ok (.getfield 9, 3) := by decide +kernel
theorem dX6_copyFrom_17 : decode cX6_copyFrom 17 = .ok (.iconst 0, 1) := by decide +kernel
theorem dX6_copyFrom_18 : decode cX6_copyFrom 18 = .ok (.bipush 10, 2) := by decide +kernel
theorem dX6_copyFrom_20 : decode cX6_copyFrom 20 = .ok (.invokestatic 28, 3) := by decide +kernel
theorem dX6_copyFrom_23 : decode cX6_copyFrom 23 = .ok (.aload_n 1, 1) := by decide +kernel
theorem dX6_copyFrom_24 : decode cX6_copyFrom 24 = .ok (.getfield 15, 3) := by decide +kernel
theorem dX6_copyFrom_27 : decode cX6_copyFrom 27 = .ok (.iconst 0, 1) := by decide +kernel
theorem dX6_copyFrom_28 : decode cX6_copyFrom 28 = .ok (.aload_n 0, 1) := by decide +kernel
theorem dX6_copyFrom_29 : decode cX6_copyFrom 29 = .ok (.getfield 15, 3) := by decide +kernel
theorem dX6_copyFrom_32 : decode cX6_copyFrom 32 = .ok (.iconst 0, 1) := by decide +kernel
theorem dX6_copyFrom_33 : decode cX6_copyFrom 33 = .ok (.bipush 10, 2) := by decide +kernel
theorem dX6_copyFrom_35 : decode cX6_copyFrom 35 = .ok (.invokestatic 28, 3) := by decide +kernel
theorem dX6_copyFrom_38 : decode cX6_copyFrom 38 = .ok (.aload_n 1, 1) := by decide +kernel
theorem dX6_copyFrom_39 : decode cX6_copyFrom 39 = .ok (.getfield 18, 3) := by decide +kernel
theorem dX6_copyFrom_42 : decode cX6_copyFrom 42 = .ok (.iconst 0, 1) := by decide +kernel
theorem dX6_copyFrom_43 : decode cX6_copyFrom 43 = .ok (.aload_n 0, 1) := by decide +kernel
theorem dX6_copyFrom_44 : decode cX6_copyFrom 44 = .ok (.getfield 18, 3) := by decide +kernel
theorem dX6_copyFrom_47 : decode cX6_copyFrom 47 = .ok (.iconst 0, 1) := by decide +kernel
theorem dX6_copyFrom_48 : decode cX6_copyFrom 48 = .ok (.bipush 10, 2) := by decide +kernel
theorem dX6_copyFrom_50 : decode cX6_copyFrom 50 = .ok (.invokestatic 28, 3) := by decide +kernel
theorem dX6_copyFrom_53 : decode cX6_copyFrom 53 = .ok (.aload_n 1, 1) := by decide +kernel
theorem dX6_copyFrom_54 : decode cX6_copyFrom 54 = .ok (.getfield 21, 3) := by decide +kernel
theorem dX6_copyFrom_57 : decode cX6_copyFrom 57 = .ok (.iconst 0, 1) := by decide +kernel
theorem dX6_copyFrom_58 : decode cX6_copyFrom 58 = .ok (.aload_n 0, 1) := by decide +kernel
theorem dX6_copyFrom_59 : decode cX6_copyFrom 59 = .ok (.getfield 21, 3) := by decide +kernel
theorem dX6_copyFrom_62 : decode cX6_copyFrom 62 = .ok (.iconst 0, 1) := by decide +kernel
theorem dX6_copyFrom_63 : decode cX6_copyFrom 63 = .ok (.bipush 10, 2) := by decide +kernel
theorem dX6_copyFrom_65 : decode cX6_copyFrom 65 = .ok (.invokestatic 28, 3) := by decide +kernel
theorem dX6_copyFrom_68 : decode cX6_copyFrom 68 = .ok (.return_, 1) := by decide +kernel
def w_X6_copyFrom (I : mI) (o : Nat) (a1 : Nat) (post : mI → Prop) : Prop := ∀ I1, I1 = up2 I o 0 (I a1 0) → (a1 + 1) ≠ (o + 1) ∧ ¬ (0 : Int32) < 0 ∧ ¬ (0 : Int32) < 0 ∧ ¬ (10 : Int32) < 0 ∧ (0 : Int32).toNatClampNeg + (10 : Int32).toNatClampNeg ≤ 10 ∧ (0 : Int32).toNatClampNeg + (10 : Int32).toNatClampNeg ≤ 10 ∧ ∀ I2, I2 = cpy2 I1 (a1 + 1) (o + 1) ((0 : Int32).toNatClampNeg) ((0 : Int32).toNatClampNeg) ((10 : Int32).toNatClampNeg) → (a1 + 2) ≠ (o + 2) ∧ ¬ (0 : Int32) < 0 ∧ ¬ (0 : Int32) < 0 ∧ ¬ (10 : Int32) < 0 ∧ (0 : Int32).toNatClampNeg + (10 : Int32).toNatClampNeg ≤ 10 ∧ (0 : Int32).toNatClampNeg + (10 : Int32).toNatClampNeg ≤ 10 ∧ ∀ I3, I3 = cpy2 I2 (a1 + 2) (o + 2) ((0 : Int32).toNatClampNeg) ((0 : Int32).toNatClampNeg) ((10 : Int32).toNatClampNeg) → (a1 + 3) ≠ (o + 3) ∧ ¬ (0 : Int32) < 0 ∧ ¬ (0 : Int32) < 0 ∧ ¬ (10 : Int32) < 0 ∧ (0 : Int32).toNatClampNeg + (10 : Int32).toNatClampNeg ≤ 10 ∧ (0 : Int32).toNatClampNeg + (10 : Int32).toNatClampNeg ≤ 10 ∧ ∀ I4, I4 = cpy2 I3 (a1 + 3) (o + 3) ((0 : Int32).toNatClampNeg) ((0 : Int32).toNatClampNeg) ((10 : Int32).toNatClampNeg) → (a1 + 4) ≠ (o + 4) ∧ ¬ (0 : Int32) < 0 ∧ ¬ (0 : Int32) < 0 ∧ ¬ (10 : Int32) < 0 ∧ (0 : Int32).toNatClampNeg + (10 : Int32).toNatClampNeg ≤ 10 ∧ (0 : Int32).toNatClampNeg + (10 : Int32).toNatClampNeg ≤ 10 ∧ ∀ I5, I5 = cpy2 I4 (a1 + 4) (o + 4) ((0 : Int32).toNatClampNeg) ((0 : Int32).toNatClampNeg) ((10 : Int32).toNatClampNeg) → post I5
set_option maxRecDepth 100000 in
set_option maxHeartbeats 4000000 in
theorem c_X6_copyFrom {l : Launch} {D : va_G} {cA : Nat → ClassId} {Z : mZ} {bs : Ad} {n : Nat} {K : mK} {R : mR} {I : mI} {L : mL} {o : Nat} {a1 : Nat} {post : mI → Prop} (ho : isX6 K R o) (ha1 : isX6 K R a1) (hw : w_X6_copyFrom I o a1 post) : Met l yX6_copyFrom (.code yX6_copyFrom cX6_copyFrom 2 none :: gw) ({ frames := 1, cells := 0, slots := 0, locals := 80 } : Room) (PreM D cA Z bs (n, K, R, I, L) [.ref (ad bs o), .ref (ad bs a1)]) (QV D cA bs (fun u => ∃ I', u = (n, K, R, I', L) ∧ post I')) 0 0 (Ab bs) := by
  refine m_met (by decide) (Nat.le_of_ble_eq_true rfl) (fun p e s m below meth c ls E hr hlk hM hS hl => ?_)
  have E : Ev p s m _ c cX6_copyFrom 2 RX6 D cA Z bs := E
  have hl : lv_has ls 2 [(0, .ref (ad bs o)), (1, .ref (ad bs a1))] := hl
  have hx := E.1.1
  have hb := E.1.2.1
  generalize hHe : s.heap = H at hM ⊢
  have hS : va_S (Ab bs) s.heap H [] := by rw [← hHe]; exact va_S.rf
  clear hHe
  refine lv_aload_n hx hb dX6_copyFrom_0 rfl (lv_at hl 0 rfl) ?_
  refine lv_aload_n hx hb dX6_copyFrom_1 rfl (lv_at hl 1 rfl) ?_
  refine m_geti E hM fs_X6_24 ha1.1 dX6_copyFrom_2 ?_
  refine m_puti E hM hS fp_X6_24 ho.1 rfl rfl dX6_copyFrom_5 (fun I1 H locs eI1 hM hS => ?_)
  have hw := hw I1 eI1
  refine lv_aload_n hx hb dX6_copyFrom_8 rfl (lv_at hl 1 rfl) ?_
  refine m_getr E hM fs_X6_9 ha1.1 (isO_at ha1 0 rfl).1 dX6_copyFrom_9 ?_
  refine lv_iconst (v := 0) hx hb dX6_copyFrom_12 (by decide) ?_
  refine lv_aload_n hx hb dX6_copyFrom_13 rfl (lv_at hl 0 rfl) ?_
  refine m_getr E hM fs_X6_9 ho.1 (isO_at ho 0 rfl).1 dX6_copyFrom_14 ?_
  refine lv_iconst (v := 0) hx hb dX6_copyFrom_17 (by decide) ?_
  refine lv_bipush (v := 10) hx hb dX6_copyFrom_18 (by decide) ?_
  obtain ⟨q1, q2, q3, q4, q5, q6, hw⟩ := hw
  refine m_copy E hM hS ml_X6_28 hl.1 (isO_at ha1 0 rfl).2 (isO_at ho 0 rfl).2 (by simp) q1 q2 q3 q4 q5 q6 (fun h9 => absurd h9 (by decide)) (Nat.le_of_ble_eq_true rfl) (Nat.le_of_ble_eq_true rfl) dX6_copyFrom_20 (fun I2 H locs eI2 hM hS => ?_)
  have hw := hw I2 eI2
  refine lv_aload_n hx hb dX6_copyFrom_23 rfl (lv_at hl 1 rfl) ?_
  refine m_getr E hM fs_X6_15 ha1.1 (isO_at ha1 1 rfl).1 dX6_copyFrom_24 ?_
  refine lv_iconst (v := 0) hx hb dX6_copyFrom_27 (by decide) ?_
  refine lv_aload_n hx hb dX6_copyFrom_28 rfl (lv_at hl 0 rfl) ?_
  refine m_getr E hM fs_X6_15 ho.1 (isO_at ho 1 rfl).1 dX6_copyFrom_29 ?_
  refine lv_iconst (v := 0) hx hb dX6_copyFrom_32 (by decide) ?_
  refine lv_bipush (v := 10) hx hb dX6_copyFrom_33 (by decide) ?_
  obtain ⟨q1, q2, q3, q4, q5, q6, hw⟩ := hw
  refine m_copy E hM hS ml_X6_28 hl.1 (isO_at ha1 1 rfl).2 (isO_at ho 1 rfl).2 (by simp) q1 q2 q3 q4 q5 q6 (fun h9 => absurd h9 (by decide)) (Nat.le_of_ble_eq_true rfl) (Nat.le_of_ble_eq_true rfl) dX6_copyFrom_35 (fun I3 H locs eI3 hM hS => ?_)
  have hw := hw I3 eI3
  refine lv_aload_n hx hb dX6_copyFrom_38 rfl (lv_at hl 1 rfl) ?_
  refine m_getr E hM fs_X6_18 ha1.1 (isO_at ha1 2 rfl).1 dX6_copyFrom_39 ?_
  refine lv_iconst (v := 0) hx hb dX6_copyFrom_42 (by decide) ?_
  refine lv_aload_n hx hb dX6_copyFrom_43 rfl (lv_at hl 0 rfl) ?_
  refine m_getr E hM fs_X6_18 ho.1 (isO_at ho 2 rfl).1 dX6_copyFrom_44 ?_
  refine lv_iconst (v := 0) hx hb dX6_copyFrom_47 (by decide) ?_
  refine lv_bipush (v := 10) hx hb dX6_copyFrom_48 (by decide) ?_
  obtain ⟨q1, q2, q3, q4, q5, q6, hw⟩ := hw
  refine m_copy E hM hS ml_X6_28 hl.1 (isO_at ha1 2 rfl).2 (isO_at ho 2 rfl).2 (by simp) q1 q2 q3 q4 q5 q6 (fun h9 => absurd h9 (by decide)) (Nat.le_of_ble_eq_true rfl) (Nat.le_of_ble_eq_true rfl) dX6_copyFrom_50 (fun I4 H locs eI4 hM hS => ?_)
  have hw := hw I4 eI4
  refine lv_aload_n hx hb dX6_copyFrom_53 rfl (lv_at hl 1 rfl) ?_
  refine m_getr E hM fs_X6_21 ha1.1 (isO_at ha1 3 rfl).1 dX6_copyFrom_54 ?_
  refine lv_iconst (v := 0) hx hb dX6_copyFrom_57 (by decide) ?_
  refine lv_aload_n hx hb dX6_copyFrom_58 rfl (lv_at hl 0 rfl) ?_
  refine m_getr E hM fs_X6_21 ho.1 (isO_at ho 3 rfl).1 dX6_copyFrom_59 ?_
  refine lv_iconst (v := 0) hx hb dX6_copyFrom_62 (by decide) ?_
  refine lv_bipush (v := 10) hx hb dX6_copyFrom_63 (by decide) ?_
  obtain ⟨q1, q2, q3, q4, q5, q6, hw⟩ := hw
  refine m_copy E hM hS ml_X6_28 hl.1 (isO_at ha1 3 rfl).2 (isO_at ho 3 rfl).2 (by simp) q1 q2 q3 q4 q5 q6 (fun h9 => absurd h9 (by decide)) (Nat.le_of_ble_eq_true rfl) (Nat.le_of_ble_eq_true rfl) dX6_copyFrom_65 (fun I5 H locs eI5 hM hS => ?_)
  have hw := hw I5 eI5
  exact m_retv hx hb hr hlk hM hS ⟨_, rfl, hw⟩ dX6_copyFrom_68
theorem dX6_hasSound_0 : decode cX6_hasSound 0 = .ok (.iload_n 1, 1) := by decide +kernel
theorem dX6_hasSound_1 : decode cX6_hasSound 1 = .ok (.ifCond .lt 15, 3) := by decide +kernel
theorem dX6_hasSound_4 : decode cX6_hasSound 4 = .ok (.iload_n 1, 1) := by decide +kernel
theorem dX6_hasSound_5 : decode cX6_hasSound 5 = .ok (.aload_n 0, 1) := by decide +kernel
theorem dX6_hasSound_6 : decode cX6_hasSound 6 = .ok (.getfield 24, 3) := by decide +kernel
theorem dX6_hasSound_9 : decode cX6_hasSound 9 = .ok (.if_icmp .ge 7, 3) := by decide +kernel
theorem dX6_hasSound_12 : decode cX6_hasSound 12 = .ok (.iconst 1, 1) := by decide +kernel
theorem dX6_hasSound_13 : decode cX6_hasSound 13 = .ok (.goto 4, 3) := by decide +kernel
theorem dX6_hasSound_16 : decode cX6_hasSound 16 = .ok (.iconst 0, 1) := by decide +kernel
theorem dX6_hasSound_17 : decode cX6_hasSound 17 = .ok (.ireturn, 1) := by decide +kernel
def w_X6_hasSound (I : mI) (o : Nat) (a1 : Int32) (post : Bool → Prop) : Prop := (a1 < 0 → post false) ∧ (¬ a1 < 0 → ((I o 0) ≤ a1 → post false) ∧ (¬ (I o 0) ≤ a1 → post true))
set_option maxRecDepth 100000 in
set_option maxHeartbeats 4000000 in
theorem c_X6_hasSound {l : Launch} {D : va_G} {cA : Nat → ClassId} {Z : mZ} {bs : Ad} {n : Nat} {K : mK} {R : mR} {I : mI} {L : mL} {o : Nat} {a1 : Int32} {post : Bool → Prop} (ho : isX6 K R o) (hw : w_X6_hasSound I o a1 post) : Met l yX6_hasSound (.code yX6_hasSound cX6_hasSound 2 (some .boolean) :: gw) ({ frames := 0, cells := 0, slots := 0, locals := 0 } : Room) (PreM D cA Z bs (n, K, R, I, L) [.ref (ad bs o), .int a1]) (QI D cA bs (fun r u => ∃ b, r = bI b ∧ u = (n, K, R, I, L) ∧ post b)) 0 0 (Ab bs) := by
  refine m_met (by decide) (Nat.le_of_ble_eq_true rfl) (fun p e s m below meth c ls E hr hlk hM hS hl => ?_)
  have E : Ev p s m _ c cX6_hasSound 2 RX6 D cA Z bs := E
  have hl : lv_has ls 2 [(0, .ref (ad bs o)), (1, .int a1)] := hl
  have hx := E.1.1
  have hb := E.1.2.1
  generalize hHe : s.heap = H at hM ⊢
  have hS : va_S (Ab bs) s.heap H [] := by rw [← hHe]; exact va_S.rf
  clear hHe
  refine lv_iload_n hx hb dX6_hasSound_0 rfl (lv_at hl 1 rfl) ?_
  refine lv_if_lt (tgt := 16) hx hb dX6_hasSound_1 (by decide) (fun cq => ?_) (fun cq => ?_)
  · have hw := hw.1 cq
    refine lv_iconst (v := 0) hx hb dX6_hasSound_16 (by decide) ?_
    exact m_retz hx hb hr hlk (Or.inl rfl) hM hS ⟨false, rfl, rfl, hw⟩ dX6_hasSound_17
  · have hw := hw.2 cq
    refine lv_iload_n hx hb dX6_hasSound_4 rfl (lv_at hl 1 rfl) ?_
    refine lv_aload_n hx hb dX6_hasSound_5 rfl (lv_at hl 0 rfl) ?_
    refine m_geti E hM fs_X6_24 ho.1 dX6_hasSound_6 ?_
    refine lv_icmp_ge (tgt := 16) hx hb dX6_hasSound_9 (by decide) (fun cq => ?_) (fun cq => ?_)
    · have hw := hw.1 cq
      refine lv_iconst (v := 0) hx hb dX6_hasSound_16 (by decide) ?_
      exact m_retz hx hb hr hlk (Or.inl rfl) hM hS ⟨false, rfl, rfl, hw⟩ dX6_hasSound_17
    · have hw := hw.2 cq
      refine lv_iconst (v := 1) hx hb dX6_hasSound_12 (by decide) ?_
      refine lv_goto (tgt := 17) hx hb dX6_hasSound_13 (by decide) ?_
      exact m_retz hx hb hr hlk (Or.inr rfl) hM hS ⟨true, rfl, rfl, hw⟩ dX6_hasSound_17
theorem dX7_forget_0 : decode cX7_forget 0 = .ok (.aload_n 0, 1) := by decide +kernel
theorem dX7_forget_1 : decode cX7_forget 1 = .ok (.iconst (-1), 1) := by decide +kernel
theorem dX7_forget_2 : decode cX7_forget 2 = .ok (.putfield 19, 3) := by decide +kernel
theorem dX7_forget_5 : decode cX7_forget 5 = .ok (.return_, 1) := by decide +kernel
def w_X7_forget (I : mI) (o : Nat) (post : mI → Prop) : Prop := ∀ I1, I1 = up2 I o 3 (-1) → post I1
set_option maxRecDepth 100000 in
set_option maxHeartbeats 4000000 in
theorem c_X7_forget {l : Launch} {D : va_G} {cA : Nat → ClassId} {Z : mZ} {bs : Ad} {n : Nat} {K : mK} {R : mR} {I : mI} {L : mL} {o : Nat} {post : mI → Prop} (ho : isX7 K R o) (hw : w_X7_forget I o post) : Met l yX7_forget (.code yX7_forget cX7_forget 1 none :: gw) ({ frames := 0, cells := 0, slots := 0, locals := 0 } : Room) (PreM D cA Z bs (n, K, R, I, L) [.ref (ad bs o)]) (QV D cA bs (fun u => ∃ I', u = (n, K, R, I', L) ∧ post I')) 0 0 (Ab bs) := by
  refine m_met (by decide) (Nat.le_of_ble_eq_true rfl) (fun p e s m below meth c ls E hr hlk hM hS hl => ?_)
  have E : Ev p s m _ c cX7_forget 1 RX7 D cA Z bs := E
  have hl : lv_has ls 1 [(0, .ref (ad bs o))] := hl
  have hx := E.1.1
  have hb := E.1.2.1
  generalize hHe : s.heap = H at hM ⊢
  have hS : va_S (Ab bs) s.heap H [] := by rw [← hHe]; exact va_S.rf
  clear hHe
  refine lv_aload_n hx hb dX7_forget_0 rfl (lv_at hl 0 rfl) ?_
  refine lv_iconst (v := (-1)) hx hb dX7_forget_1 (by decide) ?_
  refine m_puti E hM hS fp_X7_19 ho.1 rfl rfl dX7_forget_2 (fun I1 H locs eI1 hM hS => ?_)
  have hw := hw I1 eI1
  exact m_retv hx hb hr hlk hM hS ⟨_, rfl, hw⟩ dX7_forget_5
theorem dX7_isNew_0 : decode cX7_isNew 0 = .ok (.aload_n 0, 1) := by decide +kernel
theorem dX7_isNew_1 : decode cX7_isNew 1 = .ok (.getfield 19, 3) := by decide +kernel
theorem dX7_isNew_4 : decode cX7_isNew 4 = .ok (.iload_n 1, 1) := by decide +kernel
theorem dX7_isNew_5 : decode cX7_isNew 5 = .ok (.if_icmp .ne 50, 3) := by decide +kernel
theorem dX7_isNew_8 : decode cX7_isNew 8 = .ok (.aload_n 0, 1) := by decide +kernel
theorem dX7_isNew_9 : decode cX7_isNew 9 = .ok (.getfield 31, 3) := by decide +kernel
theorem dX7_isNew_12 : decode cX7_isNew 12 = .ok (.iload_n 2, 1) := by decide +kernel
theorem dX7_isNew_13 : decode cX7_isNew 13 = .ok (.if_icmp .ne 42, 3) := by decide +kernel
theorem dX7_isNew_16 : decode cX7_isNew 16 = .ok (.aload_n 0, 1) := by decide +kernel
theorem dX7_isNew_17 : decode cX7_isNew 17 = .ok (.getfield 34, 3) := by decide +kernel
theorem dX7_isNew_20 : decode cX7_isNew 20 = .ok (.iload_n 3, 1) := by decide +kernel
theorem dX7_isNew_21 : decode cX7_isNew 21 = .ok (.if_icmp .ne 34, 3) := by decide +kernel
theorem dX7_isNew_24 : decode cX7_isNew 24 = .ok (.aload_n 0, 1) := by decide +kernel
theorem dX7_isNew_25 : decode cX7_isNew 25 = .ok (.getfield 37, 3) := by decide +kernel
theorem dX7_isNew_28 : decode cX7_isNew 28 = .ok (.iload 4, 2) := by decide +kernel
theorem dX7_isNew_30 : decode cX7_isNew 30 = .ok (.if_icmp .ne 25, 3) := by decide +kernel
theorem dX7_isNew_33 : decode cX7_isNew 33 = .ok (.aload_n 0, 1) := by decide +kernel
theorem dX7_isNew_34 : decode cX7_isNew 34 = .ok (.getfield 40, 3) := by decide +kernel
theorem dX7_isNew_37 : decode cX7_isNew 37 = .ok (.iload 5, 2) := by decide +kernel
theorem dX7_isNew_39 : decode cX7_isNew 39 = .ok (.if_icmp .ne 16, 3) := by decide +kernel
theorem dX7_isNew_42 : decode cX7_isNew 42 = .ok (.aload_n 0, 1) := by decide +kernel
theorem dX7_isNew_43 : decode cX7_isNew 43 = .ok (.getfield 43, 3) := by decide +kernel
theorem dX7_isNew_46 : decode cX7_isNew 46 = .ok (.iload 6, 2) := by decide +kernel
theorem dX7_isNew_48 : decode cX7_isNew 48 = .ok (.if_icmp .ne 7, 3) := by decide +kernel
theorem dX7_isNew_51 : decode cX7_isNew 51 = .ok (.iconst 1, 1) := by decide +kernel
theorem dX7_isNew_52 : decode cX7_isNew 52 = .ok (.goto 4, 3) := by decide +kernel
theorem dX7_isNew_55 : decode cX7_isNew 55 = .ok (.iconst 0, 1) := by decide +kernel
theorem dX7_isNew_56 : decode cX7_isNew 56 = .ok (.istore 7, 2) := by decide +kernel
theorem dX7_isNew_58 : decode cX7_isNew 58 = .ok (.aload_n 0, 1) := by decide +kernel
theorem dX7_isNew_59 : decode cX7_isNew 59 = .ok (.iload_n 1, 1) := by decide +kernel
theorem dX7_isNew_60 : decode cX7_isNew 60 = .ok (.putfield 19, 3) := by decide +kernel
theorem dX7_isNew_63 : decode cX7_isNew 63 = .ok (.aload_n 0, 1) := by decide +kernel
theorem dX7_isNew_64 : decode cX7_isNew 64 = .ok (.iload_n 2, 1) := by decide +kernel
theorem dX7_isNew_65 : decode cX7_isNew 65 = .ok (.putfield 31, 3) := by decide +kernel
theorem dX7_isNew_68 : decode cX7_isNew 68 = .ok (.aload_n 0, 1) := by decide +kernel
theorem dX7_isNew_69 : decode cX7_isNew 69 = .ok (.iload_n 3, 1) := by decide +kernel
theorem dX7_isNew_70 : decode cX7_isNew 70 = .ok (.putfield 34, 3) := by decide +kernel
theorem dX7_isNew_73 : decode cX7_isNew 73 = .ok (.aload_n 0, 1) := by decide +kernel
theorem dX7_isNew_74 : decode cX7_isNew 74 = .ok (.iload 4, 2) := by decide +kernel
theorem dX7_isNew_76 : decode cX7_isNew 76 = .ok (.putfield 37, 3) := by decide +kernel
theorem dX7_isNew_79 : decode cX7_isNew 79 = .ok (.aload_n 0, 1) := by decide +kernel
theorem dX7_isNew_80 : decode cX7_isNew 80 = .ok (.iload 5, 2) := by decide +kernel
theorem dX7_isNew_82 : decode cX7_isNew 82 = .ok (.putfield 40, 3) := by decide +kernel
theorem dX7_isNew_85 : decode cX7_isNew 85 = .ok (.aload_n 0, 1) := by decide +kernel
theorem dX7_isNew_86 : decode cX7_isNew 86 = .ok (.iload 6, 2) := by decide +kernel
theorem dX7_isNew_88 : decode cX7_isNew 88 = .ok (.putfield 43, 3) := by decide +kernel
theorem dX7_isNew_91 : decode cX7_isNew 91 = .ok (.iload 7, 2) := by decide +kernel
theorem dX7_isNew_93 : decode cX7_isNew 93 = .ok (.ifCond .ne 7, 3) := by decide +kernel
theorem dX7_isNew_96 : decode cX7_isNew 96 = .ok (.iconst 1, 1) := by decide +kernel
theorem dX7_isNew_97 : decode cX7_isNew 97 = .ok (.goto 4, 3) := by decide +kernel
theorem dX7_isNew_100 : decode cX7_isNew 100 = .ok (.iconst 0, 1) := by decide +kernel
theorem dX7_isNew_101 : decode cX7_isNew 101 = .ok (.ireturn, 1) := by decide +kernel
def w_X7_isNew_56 (o : Nat) (a1 : Int32) (a2 : Int32) (a3 : Int32) (a4 : Int32) (a5 : Int32) (a6 : Int32) (post : Bool → mI → Prop) (I : mI) (s0 : Int32) : Prop := ∀ I1, I1 = up2 I o 3 a1 → ∀ I2, I2 = up2 I1 o 4 a2 → ∀ I3, I3 = up2 I2 o 5 a3 → ∀ I4, I4 = up2 I3 o 6 a4 → ∀ I5, I5 = up2 I4 o 7 a5 → ∀ I6, I6 = up2 I5 o 8 a6 → (¬ s0 = 0 → post false I6) ∧ (s0 = 0 → post true I6)
set_option maxRecDepth 100000 in
set_option maxHeartbeats 4000000 in
theorem s_X7_isNew_56 {p : Program} {l : Launch} {e : Env} {s : State} {m : MethodId} {args : Array Value} {below : List Frame} {meth : Method} {c : Code} {D : va_G} {cA : Nat → ClassId} {Z : mZ} {bs : Ad} {n : Nat} {K : mK} {R : mR} {L : mL} (E : Ev p s m args c cX7_isNew 8 RX7 D cA Z bs) (hr : meth.sig.returnType = (some .boolean)) (hlk : meth.locks = false) {o : Nat} {a1 : Int32} {a2 : Int32} {a3 : Int32} {a4 : Int32} {a5 : Int32} {a6 : Int32} (ho : isX7 K R o) {post : Bool → mI → Prop} {I : mI} {s0 : Int32} {H : Heap} {locs : List Loc} {ls : Array Slot} (hw : w_X7_isNew_56 o a1 a2 a3 a4 a5 a6 post I s0) (hM : mm D cA bs (n, K, R, I, L) H) (hS : va_S (Ab bs) s.heap H locs) (hl : lv_has ls 8 [(0, .ref (ad bs o)), (1, .int a1), (2, .int a2), (3, .int a3), (4, .int a4), (5, .int a5), (6, .int a6)]) : W p l e ({ frames := 0, cells := 0, slots := 0, locals := 0 } : Room) s m args below meth c H locs 0 0 (MQ below (QI D cA bs (fun r u => ∃ b, r = bI b ∧ ∃ I', u = (n, K, R, I', L) ∧ post b I')) args s 0 0 (Ab bs)) (F0 m 56 ls [.int s0]) := by
  have hx := E.1.1
  have hb := E.1.2.1
  refine lv_istore (lv' := [(7, .int s0), (0, .ref (ad bs o)), (1, .int a1), (2, .int a2), (3, .int a3), (4, .int a4), (5, .int a5), (6, .int a6)]) hx hb dX7_isNew_56 hl (by decide) rfl (fun ls hl => ?_)
  refine lv_aload_n hx hb dX7_isNew_58 rfl (lv_at hl 1 rfl) ?_
  refine lv_iload_n hx hb dX7_isNew_59 rfl (lv_at hl 2 rfl) ?_
  refine m_puti E hM hS fp_X7_19 ho.1 rfl rfl dX7_isNew_60 (fun I1 H locs eI1 hM hS => ?_)
  have hw := hw I1 eI1
  refine lv_aload_n hx hb dX7_isNew_63 rfl (lv_at hl 1 rfl) ?_
  refine lv_iload_n hx hb dX7_isNew_64 rfl (lv_at hl 3 rfl) ?_
  refine m_puti E hM hS fp_X7_31 ho.1 rfl rfl dX7_isNew_65 (fun I2 H locs eI2 hM hS => ?_)
  have hw := hw I2 eI2
  refine lv_aload_n hx hb dX7_isNew_68 rfl (lv_at hl 1 rfl) ?_
  refine lv_iload_n hx hb dX7_isNew_69 rfl (lv_at hl 4 rfl) ?_
  refine m_puti E hM hS fp_X7_34 ho.1 rfl rfl dX7_isNew_70 (fun I3 H locs eI3 hM hS => ?_)
  have hw := hw I3 eI3
  refine lv_aload_n hx hb dX7_isNew_73 rfl (lv_at hl 1 rfl) ?_
  refine lv_iload hx hb dX7_isNew_74 (lv_at hl 5 rfl) ?_
  refine m_puti E hM hS fp_X7_37 ho.1 rfl rfl dX7_isNew_76 (fun I4 H locs eI4 hM hS => ?_)
  have hw := hw I4 eI4
  refine lv_aload_n hx hb dX7_isNew_79 rfl (lv_at hl 1 rfl) ?_
  refine lv_iload hx hb dX7_isNew_80 (lv_at hl 6 rfl) ?_
  refine m_puti E hM hS fp_X7_40 ho.1 rfl rfl dX7_isNew_82 (fun I5 H locs eI5 hM hS => ?_)
  have hw := hw I5 eI5
  refine lv_aload_n hx hb dX7_isNew_85 rfl (lv_at hl 1 rfl) ?_
  refine lv_iload hx hb dX7_isNew_86 (lv_at hl 7 rfl) ?_
  refine m_puti E hM hS fp_X7_43 ho.1 rfl rfl dX7_isNew_88 (fun I6 H locs eI6 hM hS => ?_)
  have hw := hw I6 eI6
  refine lv_iload hx hb dX7_isNew_91 (lv_at hl 0 rfl) ?_
  refine lv_if_ne (tgt := 100) hx hb dX7_isNew_93 (by decide) (fun cq => ?_) (fun cq => ?_)
  · have hw := hw.1 cq
    refine lv_iconst (v := 0) hx hb dX7_isNew_100 (by decide) ?_
    exact m_retz hx hb hr hlk (Or.inl rfl) hM hS ⟨false, rfl, _, rfl, hw⟩ dX7_isNew_101
  · have hw := hw.2 cq
    refine lv_iconst (v := 1) hx hb dX7_isNew_96 (by decide) ?_
    refine lv_goto (tgt := 101) hx hb dX7_isNew_97 (by decide) ?_
    exact m_retz hx hb hr hlk (Or.inr rfl) hM hS ⟨true, rfl, _, rfl, hw⟩ dX7_isNew_101
def w_X7_isNew_55 (o : Nat) (a1 : Int32) (a2 : Int32) (a3 : Int32) (a4 : Int32) (a5 : Int32) (a6 : Int32) (post : Bool → mI → Prop) (I : mI) : Prop := (w_X7_isNew_56 o a1 a2 a3 a4 a5 a6 post) I 0
set_option maxRecDepth 100000 in
set_option maxHeartbeats 4000000 in
theorem s_X7_isNew_55 {p : Program} {l : Launch} {e : Env} {s : State} {m : MethodId} {args : Array Value} {below : List Frame} {meth : Method} {c : Code} {D : va_G} {cA : Nat → ClassId} {Z : mZ} {bs : Ad} {n : Nat} {K : mK} {R : mR} {L : mL} (E : Ev p s m args c cX7_isNew 8 RX7 D cA Z bs) (hr : meth.sig.returnType = (some .boolean)) (hlk : meth.locks = false) {o : Nat} {a1 : Int32} {a2 : Int32} {a3 : Int32} {a4 : Int32} {a5 : Int32} {a6 : Int32} (ho : isX7 K R o) {post : Bool → mI → Prop} {I : mI} {H : Heap} {locs : List Loc} {ls : Array Slot} (hw : w_X7_isNew_55 o a1 a2 a3 a4 a5 a6 post I) (hM : mm D cA bs (n, K, R, I, L) H) (hS : va_S (Ab bs) s.heap H locs) (hl : lv_has ls 8 [(0, .ref (ad bs o)), (1, .int a1), (2, .int a2), (3, .int a3), (4, .int a4), (5, .int a5), (6, .int a6)]) : W p l e ({ frames := 0, cells := 0, slots := 0, locals := 0 } : Room) s m args below meth c H locs 0 0 (MQ below (QI D cA bs (fun r u => ∃ b, r = bI b ∧ ∃ I', u = (n, K, R, I', L) ∧ post b I')) args s 0 0 (Ab bs)) (F0 m 55 ls []) := by
  have hx := E.1.1
  have hb := E.1.2.1
  refine lv_iconst (v := 0) hx hb dX7_isNew_55 (by decide) ?_
  exact s_X7_isNew_56 E hr hlk ho  hw hM hS (lv_sub hl [0, 1, 2, 3, 4, 5, 6] rfl)
def w_X7_isNew (I : mI) (o : Nat) (a1 : Int32) (a2 : Int32) (a3 : Int32) (a4 : Int32) (a5 : Int32) (a6 : Int32) (post : Bool → mI → Prop) : Prop := (¬ (I o 3) = a1 → (w_X7_isNew_55 o a1 a2 a3 a4 a5 a6 post) I) ∧ ((I o 3) = a1 → (¬ (I o 4) = a2 → (w_X7_isNew_55 o a1 a2 a3 a4 a5 a6 post) I) ∧ ((I o 4) = a2 → (¬ (I o 5) = a3 → (w_X7_isNew_55 o a1 a2 a3 a4 a5 a6 post) I) ∧ ((I o 5) = a3 → (¬ (I o 6) = a4 → (w_X7_isNew_55 o a1 a2 a3 a4 a5 a6 post) I) ∧ ((I o 6) = a4 → (¬ (I o 7) = a5 → (w_X7_isNew_55 o a1 a2 a3 a4 a5 a6 post) I) ∧ ((I o 7) = a5 → (¬ (I o 8) = a6 → (w_X7_isNew_55 o a1 a2 a3 a4 a5 a6 post) I) ∧ ((I o 8) = a6 → (w_X7_isNew_56 o a1 a2 a3 a4 a5 a6 post) I 1))))))
set_option maxRecDepth 100000 in
set_option maxHeartbeats 4000000 in
theorem c_X7_isNew {l : Launch} {D : va_G} {cA : Nat → ClassId} {Z : mZ} {bs : Ad} {n : Nat} {K : mK} {R : mR} {I : mI} {L : mL} {o : Nat} {a1 : Int32} {a2 : Int32} {a3 : Int32} {a4 : Int32} {a5 : Int32} {a6 : Int32} {post : Bool → mI → Prop} (ho : isX7 K R o) (hw : w_X7_isNew I o a1 a2 a3 a4 a5 a6 post) : Met l yX7_isNew (.code yX7_isNew cX7_isNew 8 (some .boolean) :: gw) ({ frames := 0, cells := 0, slots := 0, locals := 0 } : Room) (PreM D cA Z bs (n, K, R, I, L) [.ref (ad bs o), .int a1, .int a2, .int a3, .int a4, .int a5, .int a6]) (QI D cA bs (fun r u => ∃ b, r = bI b ∧ ∃ I', u = (n, K, R, I', L) ∧ post b I')) 0 0 (Ab bs) := by
  refine m_met (by decide) (Nat.le_of_ble_eq_true rfl) (fun p e s m below meth c ls E hr hlk hM hS hl => ?_)
  have E : Ev p s m _ c cX7_isNew 8 RX7 D cA Z bs := E
  have hl : lv_has ls 8 [(0, .ref (ad bs o)), (1, .int a1), (2, .int a2), (3, .int a3), (4, .int a4), (5, .int a5), (6, .int a6)] := hl
  have hx := E.1.1
  have hb := E.1.2.1
  generalize hHe : s.heap = H at hM ⊢
  have hS : va_S (Ab bs) s.heap H [] := by rw [← hHe]; exact va_S.rf
  clear hHe
  refine lv_aload_n hx hb dX7_isNew_0 rfl (lv_at hl 0 rfl) ?_
  refine m_geti E hM fs_X7_19 ho.1 dX7_isNew_1 ?_
  refine lv_iload_n hx hb dX7_isNew_4 rfl (lv_at hl 1 rfl) ?_
  refine lv_icmp_ne (tgt := 55) hx hb dX7_isNew_5 (by decide) (fun cq => ?_) (fun cq => ?_)
  · have hw := hw.1 cq
    exact s_X7_isNew_55 E hr hlk ho  hw hM hS (lv_sub hl [0, 1, 2, 3, 4, 5, 6] rfl)
  · have hw := hw.2 cq
    refine lv_aload_n hx hb dX7_isNew_8 rfl (lv_at hl 0 rfl) ?_
    refine m_geti E hM fs_X7_31 ho.1 dX7_isNew_9 ?_
    refine lv_iload_n hx hb dX7_isNew_12 rfl (lv_at hl 2 rfl) ?_
    refine lv_icmp_ne (tgt := 55) hx hb dX7_isNew_13 (by decide) (fun cq => ?_) (fun cq => ?_)
    · have hw := hw.1 cq
      exact s_X7_isNew_55 E hr hlk ho  hw hM hS (lv_sub hl [0, 1, 2, 3, 4, 5, 6] rfl)
    · have hw := hw.2 cq
      refine lv_aload_n hx hb dX7_isNew_16 rfl (lv_at hl 0 rfl) ?_
      refine m_geti E hM fs_X7_34 ho.1 dX7_isNew_17 ?_
      refine lv_iload_n hx hb dX7_isNew_20 rfl (lv_at hl 3 rfl) ?_
      refine lv_icmp_ne (tgt := 55) hx hb dX7_isNew_21 (by decide) (fun cq => ?_) (fun cq => ?_)
      · have hw := hw.1 cq
        exact s_X7_isNew_55 E hr hlk ho  hw hM hS (lv_sub hl [0, 1, 2, 3, 4, 5, 6] rfl)
      · have hw := hw.2 cq
        refine lv_aload_n hx hb dX7_isNew_24 rfl (lv_at hl 0 rfl) ?_
        refine m_geti E hM fs_X7_37 ho.1 dX7_isNew_25 ?_
        refine lv_iload hx hb dX7_isNew_28 (lv_at hl 4 rfl) ?_
        refine lv_icmp_ne (tgt := 55) hx hb dX7_isNew_30 (by decide) (fun cq => ?_) (fun cq => ?_)
        · have hw := hw.1 cq
          exact s_X7_isNew_55 E hr hlk ho  hw hM hS (lv_sub hl [0, 1, 2, 3, 4, 5, 6] rfl)
        · have hw := hw.2 cq
          refine lv_aload_n hx hb dX7_isNew_33 rfl (lv_at hl 0 rfl) ?_
          refine m_geti E hM fs_X7_40 ho.1 dX7_isNew_34 ?_
          refine lv_iload hx hb dX7_isNew_37 (lv_at hl 5 rfl) ?_
          refine lv_icmp_ne (tgt := 55) hx hb dX7_isNew_39 (by decide) (fun cq => ?_) (fun cq => ?_)
          · have hw := hw.1 cq
            exact s_X7_isNew_55 E hr hlk ho  hw hM hS (lv_sub hl [0, 1, 2, 3, 4, 5, 6] rfl)
          · have hw := hw.2 cq
            refine lv_aload_n hx hb dX7_isNew_42 rfl (lv_at hl 0 rfl) ?_
            refine m_geti E hM fs_X7_43 ho.1 dX7_isNew_43 ?_
            refine lv_iload hx hb dX7_isNew_46 (lv_at hl 6 rfl) ?_
            refine lv_icmp_ne (tgt := 55) hx hb dX7_isNew_48 (by decide) (fun cq => ?_) (fun cq => ?_)
            · have hw := hw.1 cq
              exact s_X7_isNew_55 E hr hlk ho  hw hM hS (lv_sub hl [0, 1, 2, 3, 4, 5, 6] rfl)
            · have hw := hw.2 cq
              refine lv_iconst (v := 1) hx hb dX7_isNew_51 (by decide) ?_
              refine lv_goto (tgt := 56) hx hb dX7_isNew_52 (by decide) ?_
              exact s_X7_isNew_56 E hr hlk ho  hw hM hS (lv_sub hl [0, 1, 2, 3, 4, 5, 6] rfl)
theorem dX7_priceOf_0 : decode cX7_priceOf 0 = .ok (.aload_n 0, 1) := by decide +kernel
theorem dX7_priceOf_1 : decode cX7_priceOf 1 = .ok (.getfield 43, 3) := by decide +kernel
theorem dX7_priceOf_4 : decode cX7_priceOf 4 = .ok (.iconst (-1), 1) := by decide +kernel
theorem dX7_priceOf_5 : decode cX7_priceOf 5 = .ok (.if_icmp .ne 17, 3) := by decide +kernel
theorem dX7_priceOf_8 : decode cX7_priceOf 8 = .ok (.iload_n 1, 1) := by decide +kernel
theorem dX7_priceOf_9 : decode cX7_priceOf 9 = .ok (.ifCond .eq 11, 3) := by decide +kernel
theorem dX7_priceOf_12 : decode cX7_priceOf 12 = .ok (.iload_n 2, 1) := by decide +kernel
theorem dX7_priceOf_13 : decode cX7_priceOf 13 = .ok (.ifCond .ne 7, 3) := by decide +kernel
theorem dX7_priceOf_16 : decode cX7_priceOf 16 = .ok (.iconst 1, 1) := by decide +kernel
theorem dX7_priceOf_17 : decode cX7_priceOf 17 = .ok (.goto 4, 3) := by decide +kernel
theorem dX7_priceOf_20 : decode cX7_priceOf 20 = .ok (.iconst 0, 1) := by decide +kernel
theorem dX7_priceOf_21 : decode cX7_priceOf 21 = .ok (.ireturn, 1) := by decide +kernel
theorem dX7_priceOf_22 : decode cX7_priceOf 22 = .ok (.iload_n 1, 1) := by decide +kernel
theorem dX7_priceOf_23 : decode cX7_priceOf 23 = .ok (.aload_n 0, 1) := by decide +kernel
theorem dX7_priceOf_24 : decode cX7_priceOf 24 = .ok (.getfield 43, 3) := by decide +kernel
theorem dX7_priceOf_27 : decode cX7_priceOf 27 = .ok (.iand, 1) := by decide +kernel
theorem dX7_priceOf_28 : decode cX7_priceOf 28 = .ok (.ifCond .eq 9, 3) := by decide +kernel
theorem dX7_priceOf_31 : decode cX7_priceOf 31 = .ok (.sipush 1000, 3) := by decide +kernel
theorem dX7_priceOf_34 : decode cX7_priceOf 34 = .ok (.goto 4, 3) := by decide +kernel
theorem dX7_priceOf_37 : decode cX7_priceOf 37 = .ok (.iconst 0, 1) := by decide +kernel
theorem dX7_priceOf_38 : decode cX7_priceOf 38 = .ok (.ireturn, 1) := by decide +kernel
def w_X7_priceOf (I : mI) (o : Nat) (a1 : Int32) (a2 : Int32) (post : Int32 → Prop) : Prop := (¬ (I o 8) = (-1) → ((a1 &&& (I o 8)) = 0 → post 0) ∧ (¬ (a1 &&& (I o 8)) = 0 → post 1000)) ∧ ((I o 8) = (-1) → (a1 = 0 → post 0) ∧ (¬ a1 = 0 → (¬ a2 = 0 → post 0) ∧ (a2 = 0 → post 1)))
set_option maxRecDepth 100000 in
set_option maxHeartbeats 4000000 in
theorem c_X7_priceOf {l : Launch} {D : va_G} {cA : Nat → ClassId} {Z : mZ} {bs : Ad} {n : Nat} {K : mK} {R : mR} {I : mI} {L : mL} {o : Nat} {a1 : Int32} {a2 : Int32} {post : Int32 → Prop} (ho : isX7 K R o) (hw : w_X7_priceOf I o a1 a2 post) : Met l yX7_priceOf (.code yX7_priceOf cX7_priceOf 3 (some .int) :: gw) ({ frames := 0, cells := 0, slots := 0, locals := 0 } : Room) (PreM D cA Z bs (n, K, R, I, L) [.ref (ad bs o), .int a1, .int a2]) (QI D cA bs (fun r u => u = (n, K, R, I, L) ∧ post r)) 0 0 (Ab bs) := by
  refine m_met (by decide) (Nat.le_of_ble_eq_true rfl) (fun p e s m below meth c ls E hr hlk hM hS hl => ?_)
  have E : Ev p s m _ c cX7_priceOf 3 RX7 D cA Z bs := E
  have hl : lv_has ls 3 [(0, .ref (ad bs o)), (1, .int a1), (2, .int a2)] := hl
  have hx := E.1.1
  have hb := E.1.2.1
  generalize hHe : s.heap = H at hM ⊢
  have hS : va_S (Ab bs) s.heap H [] := by rw [← hHe]; exact va_S.rf
  clear hHe
  refine lv_aload_n hx hb dX7_priceOf_0 rfl (lv_at hl 0 rfl) ?_
  refine m_geti E hM fs_X7_43 ho.1 dX7_priceOf_1 ?_
  refine lv_iconst (v := (-1)) hx hb dX7_priceOf_4 (by decide) ?_
  refine lv_icmp_ne (tgt := 22) hx hb dX7_priceOf_5 (by decide) (fun cq => ?_) (fun cq => ?_)
  · have hw := hw.1 cq
    refine lv_iload_n hx hb dX7_priceOf_22 rfl (lv_at hl 1 rfl) ?_
    refine lv_aload_n hx hb dX7_priceOf_23 rfl (lv_at hl 0 rfl) ?_
    refine m_geti E hM fs_X7_43 ho.1 dX7_priceOf_24 ?_
    refine lv_iand hx hb dX7_priceOf_27 ?_
    refine lv_if_eq (tgt := 37) hx hb dX7_priceOf_28 (by decide) (fun cq => ?_) (fun cq => ?_)
    · have hw := hw.1 cq
      refine lv_iconst (v := 0) hx hb dX7_priceOf_37 (by decide) ?_
      exact m_reti hx hb hr hlk hM hS ⟨rfl, hw⟩ dX7_priceOf_38
    · have hw := hw.2 cq
      refine lv_sipush (v := 1000) hx hb dX7_priceOf_31 (by decide) ?_
      refine lv_goto (tgt := 38) hx hb dX7_priceOf_34 (by decide) ?_
      exact m_reti hx hb hr hlk hM hS ⟨rfl, hw⟩ dX7_priceOf_38
  · have hw := hw.2 cq
    refine lv_iload_n hx hb dX7_priceOf_8 rfl (lv_at hl 1 rfl) ?_
    refine lv_if_eq (tgt := 20) hx hb dX7_priceOf_9 (by decide) (fun cq => ?_) (fun cq => ?_)
    · have hw := hw.1 cq
      refine lv_iconst (v := 0) hx hb dX7_priceOf_20 (by decide) ?_
      exact m_reti hx hb hr hlk hM hS ⟨rfl, hw⟩ dX7_priceOf_21
    · have hw := hw.2 cq
      refine lv_iload_n hx hb dX7_priceOf_12 rfl (lv_at hl 2 rfl) ?_
      refine lv_if_ne (tgt := 20) hx hb dX7_priceOf_13 (by decide) (fun cq => ?_) (fun cq => ?_)
      · have hw := hw.1 cq
        refine lv_iconst (v := 0) hx hb dX7_priceOf_20 (by decide) ?_
        exact m_reti hx hb hr hlk hM hS ⟨rfl, hw⟩ dX7_priceOf_21
      · have hw := hw.2 cq
        refine lv_iconst (v := 1) hx hb dX7_priceOf_16 (by decide) ?_
        refine lv_goto (tgt := 21) hx hb dX7_priceOf_17 (by decide) ?_
        exact m_reti hx hb hr hlk hM hS ⟨rfl, hw⟩ dX7_priceOf_21
theorem dX7_setPrices_0 : decode cX7_setPrices 0 = .ok (.aload_n 0, 1) := by decide +kernel
theorem dX7_setPrices_1 : decode cX7_setPrices 1 = .ok (.getfield 40, 3) := by decide +kernel
theorem dX7_setPrices_4 : decode cX7_setPrices 4 = .ok (.iload_n 3, 1) := by decide +kernel
theorem dX7_setPrices_5 : decode cX7_setPrices 5 = .ok (.iadd, 1) := by decide +kernel
theorem dX7_setPrices_6 : decode cX7_setPrices 6 = .ok (.istore 4, 2) := by decide +kernel
theorem dX7_setPrices_8 : decode cX7_setPrices 8 = .ok (.aload_n 1, 1) := by decide +kernel
theorem dX7_setPrices_9 : decode cX7_setPrices 9 = .ok (.getfield 46, 3) := by decide +kernel
theorem dX7_setPrices_12 : decode cX7_setPrices 12 = .ok (.aload_n 0, 1) := by decide +kernel
theorem dX7_setPrices_13 : decode cX7_setPrices 13 = .ok (.getfield 31, 3) := by decide +kernel
theorem dX7_setPrices_16 : decode cX7_setPrices 16 = .ok (.iload 4, 2) := by decide +kernel
theorem dX7_setPrices_18 : decode cX7_setPrices 18 = .ok (.invokevirtual 74, 3) := by decide +kernel
theorem dX7_setPrices_21 : decode cX7_setPrices 21 = .ok (.istore 5, 2) := by decide +kernel
theorem dX7_setPrices_23 : decode cX7_setPrices 23 = .ok (.iconst 0, 1) := by decide +kernel
theorem dX7_setPrices_24 : decode cX7_setPrices 24 = .ok (.istore 6, 2) := by decide +kernel
theorem dX7_setPrices_26 : decode cX7_setPrices 26 = .ok (.iload 6, 2) := by decide +kernel
theorem dX7_setPrices_28 : decode cX7_setPrices 28 = .ok (.aload_n 1, 1) := by decide +kernel
theorem dX7_setPrices_29 : decode cX7_setPrices 29 = .ok (.getfield 46, 3) := by decide +kernel
theorem dX7_setPrices_32 : decode cX7_setPrices 32 = .ok (.getfield 54, 3) := by decide +kernel
theorem dX7_setPrices_35 : decode cX7_setPrices 35 = .ok (.if_icmp .ge 114, 3) := by decide +kernel
theorem dX7_setPrices_38 : decode cX7_setPrices 38 = .ok (.aload_n 1, 1) := by decide +kernel
theorem dX7_setPrices_39 : decode cX7_setPrices 39 = .ok (.iload 6, 2) := by decide +kernel
theorem dX7_setPrices_41 : decode cX7_setPrices 41 = .ok (.aload_n 1, 1) := by decide +kernel
theorem dX7_setPrices_42 : decode cX7_setPrices 42 = .ok (.getfield 46, 3) := by decide +kernel
theorem dX7_setPrices_45 : decode cX7_setPrices 45 = .ok (.aload_n 0, 1) := by decide +kernel
theorem dX7_setPrices_46 : decode cX7_setPrices 46 = .ok (.getfield 31, 3) := by decide +kernel
theorem dX7_setPrices_49 : decode cX7_setPrices 49 = .ok (.iload 6, 2) := by decide +kernel
theorem dX7_setPrices_51 : decode cX7_setPrices 51 = .ok (.iload 5, 2) := by decide +kernel
theorem dX7_setPrices_53 : decode cX7_setPrices 53 = .ok (.invokevirtual 78, 3) := by decide +kernel
theorem dX7_setPrices_56 : decode cX7_setPrices 56 = .ok (.invokevirtual 82, 3) := by decide +kernel
theorem dX7_setPrices_59 : decode cX7_setPrices 59 = .ok (.istore 7, 2) := by decide +kernel
theorem dX7_setPrices_61 : decode cX7_setPrices 61 = .ok (.aload_n 2, 1) := by decide +kernel
theorem dX7_setPrices_62 : decode cX7_setPrices 62 = .ok (.iload 6, 2) := by decide +kernel
theorem dX7_setPrices_64 : decode cX7_setPrices 64 = .ok (.iload 4, 2) := by decide +kernel
theorem dX7_setPrices_66 : decode cX7_setPrices 66 = .ok (.invokevirtual 85, 3) := by decide +kernel
theorem dX7_setPrices_69 : decode cX7_setPrices 69 = .ok (.istore 8, 2) := by decide +kernel
theorem dX7_setPrices_71 : decode cX7_setPrices 71 = .ok (.iload 8, 2) := by decide +kernel
theorem dX7_setPrices_73 : decode cX7_setPrices 73 = .ok (.iconst (-1), 1) := by decide +kernel
theorem dX7_setPrices_74 : decode cX7_setPrices 74 = .ok (.if_icmp .eq 43, 3) := by decide +kernel
theorem dX7_setPrices_77 : decode cX7_setPrices 77 = .ok (.iload 4, 2) := by decide +kernel
theorem dX7_setPrices_79 : decode cX7_setPrices 79 = .ok (.aload_n 1, 1) := by decide +kernel
theorem dX7_setPrices_80 : decode cX7_setPrices 80 = .ok (.getfield 90, 3) := by decide +kernel
theorem dX7_setPrices_83 : decode cX7_setPrices 83 = .ok (.iload 8, 2) := by decide +kernel
theorem dX7_setPrices_85 : decode cX7_setPrices 85 = .ok (.iaload, 1) := by decide +kernel
theorem dX7_setPrices_86 : decode cX7_setPrices 86 = .ok (.isub, 1) := by decide +kernel
theorem dX7_setPrices_87 : decode cX7_setPrices 87 = .ok (.aload_n 1, 1) := by decide +kernel
theorem dX7_setPrices_88 : decode cX7_setPrices 88 = .ok (.getfield 46, 3) := by decide +kernel
theorem dX7_setPrices_91 : decode cX7_setPrices 91 = .ok (.getfield 92, 3) := by decide +kernel
theorem dX7_setPrices_94 : decode cX7_setPrices 94 = .ok (.if_icmp .gt 23, 3) := by decide +kernel
theorem dX7_setPrices_97 : decode cX7_setPrices 97 = .ok (.iload 7, 2) := by decide +kernel
theorem dX7_setPrices_99 : decode cX7_setPrices 99 = .ok (.aload_n 1, 1) := by decide +kernel
theorem dX7_setPrices_100 : decode cX7_setPrices 100 = .ok (.iload 6, 2) := by decide +kernel
theorem dX7_setPrices_102 : decode cX7_setPrices 102 = .ok (.aload_n 1, 1) := by decide +kernel
theorem dX7_setPrices_103 : decode cX7_setPrices 103 = .ok (.getfield 95, 3) := by decide +kernel
theorem dX7_setPrices_106 : decode cX7_setPrices 106 = .ok (.iload 8, 2) := by decide +kernel
theorem dX7_setPrices_108 : decode cX7_setPrices 108 = .ok (.iaload, 1) := by decide +kernel
theorem dX7_setPrices_109 : decode cX7_setPrices 109 = .ok (.iconst 2, 1) := by decide +kernel
theorem dX7_setPrices_110 : decode cX7_setPrices 110 = .ok (.idiv, 1) := by decide +kernel
theorem dX7_setPrices_111 : decode cX7_setPrices 111 = .ok (.invokevirtual 82, 3) := by decide +kernel
theorem dX7_setPrices_114 : decode cX7_setPrices 114 = .ok (.ior, 1) := by decide +kernel
theorem dX7_setPrices_115 : decode cX7_setPrices 115 = .ok (.istore 7, 2) := by decide +kernel
theorem dX7_setPrices_117 : decode cX7_setPrices 117 = .ok (.aload_n 0, 1) := by decide +kernel
theorem dX7_setPrices_118 : decode cX7_setPrices 118 = .ok (.getfield 22, 3) := by decide +kernel
theorem dX7_setPrices_121 : decode cX7_setPrices 121 = .ok (.iload_n 3, 1) := by decide +kernel
theorem dX7_setPrices_122 : decode cX7_setPrices 122 = .ok (.bipush 24, 2) := by decide +kernel
theorem dX7_setPrices_124 : decode cX7_setPrices 124 = .ok (.imul, 1) := by decide +kernel
theorem dX7_setPrices_125 : decode cX7_setPrices 125 = .ok (.iload 6, 2) := by decide +kernel
theorem dX7_setPrices_127 : decode cX7_setPrices 127 = .ok (.iadd, 1) := by decide +kernel
theorem dX7_setPrices_128 : decode cX7_setPrices 128 = .ok (.aload_n 0, 1) := by decide +kernel
theorem dX7_setPrices_129 : decode cX7_setPrices 129 = .ok (.iload 7, 2) := by decide +kernel
theorem dX7_setPrices_131 : decode cX7_setPrices 131 = .ok (.aload_n 2, 1) := by decide +kernel
theorem dX7_setPrices_132 : decode cX7_setPrices 132 = .ok (.iload 6, 2) := by decide +kernel
theorem dX7_setPrices_134 : decode cX7_setPrices 134 = .ok (.iload 4, 2) := by decide +kernel
theorem dX7_setPrices_136 : decode cX7_setPrices 136 = .ok (.invokevirtual 98, 3) := by decide +kernel
theorem dX7_setPrices_139 : decode cX7_setPrices 139 = .ok (.invokevirtual 102, 3) := by decide +kernel
theorem dX7_setPrices_142 : decode cX7_setPrices 142 = .ok (.iastore, 1) := by decide +kernel
theorem dX7_setPrices_143 : decode cX7_setPrices 143 = .ok (.iinc 6 1, 3) := by decide +kernel
theorem dX7_setPrices_146 : decode cX7_setPrices 146 = .ok (.goto (-120), 3) := by decide +kernel
theorem dX7_setPrices_149 : decode cX7_setPrices 149 = .ok (.return_, 1) := by decide +kernel
def w_X7_setPrices_117 (o : Nat) (a1 : Nat) (a1h : Nat) (a2 : Nat) (a3 : Int32) (post : mI → Prop) (k26 : mI → Int32 → Int32 → Int32 → Prop) (I : mI) (v4 : Int32) (v5 : Int32) (v6 : Int32) (v7 : Int32) : Prop := w_X4_cover I a2 v6 v4 (fun b8 => w_X7_priceOf I o v7 (bI b8) (fun r9 => vp_in ((a3 * 24) + v6) 1464 ∧ ∀ I10, I10 = up2 I (o + 2) (((a3 * 24) + v6).toNatClampNeg) r9 → ∀ x11, x11 = v6 + 1 → k26 I10 v4 v5 x11))
set_option maxRecDepth 100000 in
set_option maxHeartbeats 4000000 in
theorem s_X7_setPrices_117 {p : Program} {l : Launch} {e : Env} {s : State} {m : MethodId} {args : Array Value} {below : List Frame} {meth : Method} {c : Code} {D : va_G} {cA : Nat → ClassId} {Z : mZ} {bs : Ad} {n : Nat} {K : mK} {R : mR} {L : mL} (E : Ev p s m args c cX7_setPrices 9 RX7 D cA Z bs) (hr : meth.sig.returnType = none) (hlk : meth.locks = false) {o : Nat} {a1 : Nat} {a1h : Nat} {a2 : Nat} {a3 : Int32} (ho : isX7 K R o) (ha1 : isX2 K R a1 a1h) (ha2 : isX4 K R a2) {post : mI → Prop} {k26 : mI → Int32 → Int32 → Int32 → Prop} (hk26 : ∀ (I : mI) (v4 : Int32) (v5 : Int32) (v6 : Int32) (H : Heap) (locs : List Loc) (ls : Array Slot), k26 I v4 v5 v6 → mm D cA bs (n, K, R, I, L) H → va_S (Ab bs) s.heap H locs → lv_has ls 9 [(0, .ref (ad bs o)), (1, .ref (ad bs a1)), (2, .ref (ad bs a2)), (3, .int a3), (4, .int v4), (5, .int v5), (6, .int v6)] → W p l e ({ frames := 2, cells := 0, slots := 0, locals := 63 } : Room) s m args below meth c H locs 0 0 (MQ below (QV D cA bs (fun u => ∃ I', u = (n, K, R, I', L) ∧ post I')) args s 0 0 (Ab bs)) (F0 m 26 ls [])) {I : mI} {v4 : Int32} {v5 : Int32} {v6 : Int32} {v7 : Int32} {H : Heap} {locs : List Loc} {ls : Array Slot} (hw : w_X7_setPrices_117 o a1 a1h a2 a3 post k26 I v4 v5 v6 v7) (hM : mm D cA bs (n, K, R, I, L) H) (hS : va_S (Ab bs) s.heap H locs) (hl : lv_has ls 9 [(0, .ref (ad bs o)), (1, .ref (ad bs a1)), (2, .ref (ad bs a2)), (3, .int a3), (4, .int v4), (5, .int v5), (6, .int v6), (7, .int v7)]) : W p l e ({ frames := 2, cells := 0, slots := 0, locals := 63 } : Room) s m args below meth c H locs 0 0 (MQ below (QV D cA bs (fun u => ∃ I', u = (n, K, R, I', L) ∧ post I')) args s 0 0 (Ab bs)) (F0 m 117 ls []) := by
  have hx := E.1.1
  have hb := E.1.2.1
  refine lv_aload_n hx hb dX7_setPrices_117 rfl (lv_at hl 0 rfl) ?_
  refine m_getr E hM fs_X7_22 ho.1 (isO_at ho 1 rfl).1 dX7_setPrices_118 ?_
  refine lv_iload_n hx hb dX7_setPrices_121 rfl (lv_at hl 3 rfl) ?_
  refine lv_bipush (v := 24) hx hb dX7_setPrices_122 (by decide) ?_
  refine lv_imul hx hb dX7_setPrices_124 ?_
  refine lv_iload hx hb dX7_setPrices_125 (lv_at hl 6 rfl) ?_
  refine lv_iadd hx hb dX7_setPrices_127 ?_
  refine lv_aload_n hx hb dX7_setPrices_128 rfl (lv_at hl 0 rfl) ?_
  refine lv_iload hx hb dX7_setPrices_129 (lv_at hl 7 rfl) ?_
  refine lv_aload_n hx hb dX7_setPrices_131 rfl (lv_at hl 2 rfl) ?_
  refine lv_iload hx hb dX7_setPrices_132 (lv_at hl 6 rfl) ?_
  refine lv_iload hx hb dX7_setPrices_134 (lv_at hl 4 rfl) ?_
  refine m_ci (m_runV E hM hS cs_X7_98 ha2.1 (by decide) rfl rfl (c_X4_cover ha2 hw) rfl rfl ⟨Nat.le_of_ble_eq_true rfl, Nat.le_of_ble_eq_true rfl⟩ rfl hl.1 rfl (Nat.le_of_ble_eq_true rfl) dX7_setPrices_136 ⟨Nat.le_of_ble_eq_true rfl, Nat.le_of_ble_eq_true rfl⟩) hS (fun r9 u H locs hp hM hS => ?_)
  obtain ⟨b8, rfl, rfl, hw⟩ := hp
  refine m_ci (m_runV E hM hS cs_X7_102 ho.1 (by decide) rfl rfl (c_X7_priceOf ho hw) rfl rfl ⟨Nat.le_of_ble_eq_true rfl, Nat.le_of_ble_eq_true rfl⟩ rfl hl.1 rfl (Nat.le_of_ble_eq_true rfl) dX7_setPrices_139 ⟨Nat.le_of_ble_eq_true rfl, Nat.le_of_ble_eq_true rfl⟩) hS (fun r9 u H locs hp hM hS => ?_)
  obtain ⟨rfl, hw⟩ := hp
  obtain ⟨hv, hw⟩ := hw
  refine m_iast E hM hS (isO_at ho 1 rfl).2 hv dX7_setPrices_142 (fun I10 H locs eI10 hM hS => ?_)
  have hw := hw I10 eI10
  obtain ⟨x11, ex11⟩ : ∃ y : Int32, y = v6 + 1 := ⟨_, rfl⟩
  have hw := hw x11 ex11
  refine lv_iinc (v := x11) (lv' := [(6, .int x11), (0, .ref (ad bs o)), (1, .ref (ad bs a1)), (2, .ref (ad bs a2)), (3, .int a3), (4, .int v4), (5, .int v5), (7, .int v7)]) hx hb dX7_setPrices_143 hl (k := 6) rfl (by rw [ex11]; rfl) (by decide) rfl (fun ls hl => ?_)
  refine lv_goto (tgt := 26) hx hb dX7_setPrices_146 (by decide) ?_
  exact hk26 _ _ _ _ H locs ls  hw hM hS (lv_sub hl [1, 2, 3, 4, 5, 6, 0] rfl)
def w_X7_setPrices_26 (o : Nat) (a1 : Nat) (a1h : Nat) (a2 : Nat) (a3 : Int32) (post : mI → Prop) (I : mI) (v4 : Int32) (v5 : Int32) (v6 : Int32) : Prop := ∀ ZZ : (mI → Int32 → Int32 → Int32 → Prop), (∀ (I : mI) (v4 : Int32) (v5 : Int32) (v6 : Int32), (((I a1h 0) ≤ v6 → post I) ∧ (¬ (I a1h 0) ≤ v6 → w_X3_loudOf I a1h (I o 4) v6 v5 (fun r3 => w_X2_hearers I a1 a1h v6 r3 (fun r4 => w_X4_latestOn I a2 v6 v4 (fun r5 => (r5 = (-1) → (w_X7_setPrices_117 o a1 a1h a2 a3 post ZZ) I v4 v5 v6 r4) ∧ (¬ r5 = (-1) → vp_in r5 600 ∧ ((I a1h 1) < (v4 - (I (a1 + 3) r5.toNatClampNeg)) → (w_X7_setPrices_117 o a1 a1h a2 a3 post ZZ) I v4 v5 v6 r4) ∧ (¬ (I a1h 1) < (v4 - (I (a1 + 3) r5.toNatClampNeg)) → vp_in r5 600 ∧ w_X2_hearers I a1 a1h v6 ((I (a1 + 5) r5.toNatClampNeg) / 2) (fun r6 => ∀ x7, x7 = (r4 ||| r6) → (w_X7_setPrices_117 o a1 a1h a2 a3 post ZZ) I v4 v5 v6 x7)))))))) → ZZ I v4 v5 v6) → ZZ I v4 v5 v6
set_option maxRecDepth 100000 in
set_option maxHeartbeats 4000000 in
theorem s_X7_setPrices_26 {p : Program} {l : Launch} {e : Env} {s : State} {m : MethodId} {args : Array Value} {below : List Frame} {meth : Method} {c : Code} {D : va_G} {cA : Nat → ClassId} {Z : mZ} {bs : Ad} {n : Nat} {K : mK} {R : mR} {L : mL} (E : Ev p s m args c cX7_setPrices 9 RX7 D cA Z bs) (hr : meth.sig.returnType = none) (hlk : meth.locks = false) {o : Nat} {a1 : Nat} {a1h : Nat} {a2 : Nat} {a3 : Int32} (ho : isX7 K R o) (ha1 : isX2 K R a1 a1h) (ha2 : isX4 K R a2) {post : mI → Prop} {I : mI} {v4 : Int32} {v5 : Int32} {v6 : Int32} {H : Heap} {locs : List Loc} {ls : Array Slot} (hw : w_X7_setPrices_26 o a1 a1h a2 a3 post I v4 v5 v6) (hM : mm D cA bs (n, K, R, I, L) H) (hS : va_S (Ab bs) s.heap H locs) (hl : lv_has ls 9 [(0, .ref (ad bs o)), (1, .ref (ad bs a1)), (2, .ref (ad bs a2)), (3, .int a3), (4, .int v4), (5, .int v5), (6, .int v6)]) : W p l e ({ frames := 2, cells := 0, slots := 0, locals := 63 } : Room) s m args below meth c H locs 0 0 (MQ below (QV D cA bs (fun u => ∃ I', u = (n, K, R, I', L) ∧ post I')) args s 0 0 (Ab bs)) (F0 m 26 ls []) := by
  have hx := E.1.1
  have hb := E.1.2.1
  refine hw (fun I v4 v5 v6 => ∀ (H : Heap) (locs : List Loc) (ls : Array Slot), mm D cA bs (n, K, R, I, L) H → va_S (Ab bs) s.heap H locs → lv_has ls 9 [(0, .ref (ad bs o)), (1, .ref (ad bs a1)), (2, .ref (ad bs a2)), (3, .int a3), (4, .int v4), (5, .int v5), (6, .int v6)] → W p l e ({ frames := 2, cells := 0, slots := 0, locals := 63 } : Room) s m args below meth c H locs 0 0 (MQ below (QV D cA bs (fun u => ∃ I', u = (n, K, R, I', L) ∧ post I')) args s 0 0 (Ab bs)) (F0 m 26 ls [])) ?_ H locs ls hM hS hl
  clear hw hM hS hl
  intro I v4 v5 v6 hw H locs ls hM hS hl
  refine lv_iload hx hb dX7_setPrices_26 (lv_at hl 6 rfl) ?_
  refine lv_aload_n hx hb dX7_setPrices_28 rfl (lv_at hl 1 rfl) ?_
  refine m_getr E hM fs_X7_46 ha1.1.1 ha1.2.1 dX7_setPrices_29 ?_
  refine m_geti E hM fs_X7_54 ha1.2.2.1 dX7_setPrices_32 ?_
  refine lv_icmp_ge (tgt := 149) hx hb dX7_setPrices_35 (by decide) (fun cq => ?_) (fun cq => ?_)
  · have hw := hw.1 cq
    exact m_retv hx hb hr hlk hM hS ⟨_, rfl, hw⟩ dX7_setPrices_149
  · have hw := hw.2 cq
    refine lv_aload_n hx hb dX7_setPrices_38 rfl (lv_at hl 1 rfl) ?_
    refine lv_iload hx hb dX7_setPrices_39 (lv_at hl 6 rfl) ?_
    refine lv_aload_n hx hb dX7_setPrices_41 rfl (lv_at hl 1 rfl) ?_
    refine m_getr E hM fs_X7_46 ha1.1.1 ha1.2.1 dX7_setPrices_42 ?_
    refine lv_aload_n hx hb dX7_setPrices_45 rfl (lv_at hl 0 rfl) ?_
    refine m_geti E hM fs_X7_31 ho.1 dX7_setPrices_46 ?_
    refine lv_iload hx hb dX7_setPrices_49 (lv_at hl 6 rfl) ?_
    refine lv_iload hx hb dX7_setPrices_51 (lv_at hl 5 rfl) ?_
    refine m_ci (m_runV E hM hS cs_X7_78 ha1.2.2.1 (by decide) rfl rfl (c_X3_loudOf ha1.2.2 hw) rfl rfl ⟨Nat.le_of_ble_eq_true rfl, Nat.le_of_ble_eq_true rfl⟩ rfl hl.1 rfl (Nat.le_of_ble_eq_true rfl) dX7_setPrices_53 ⟨Nat.le_of_ble_eq_true rfl, Nat.le_of_ble_eq_true rfl⟩) hS (fun r3 u H locs hp hM hS => ?_)
    obtain ⟨rfl, hw⟩ := hp
    refine m_ci (m_runV E hM hS cs_X7_82 ha1.1.1 (by decide) rfl rfl (c_X2_hearers ha1 hw) rfl rfl ⟨Nat.le_of_ble_eq_true rfl, Nat.le_of_ble_eq_true rfl⟩ rfl hl.1 rfl (Nat.le_of_ble_eq_true rfl) dX7_setPrices_56 ⟨Nat.le_of_ble_eq_true rfl, Nat.le_of_ble_eq_true rfl⟩) hS (fun r4 u H locs hp hM hS => ?_)
    obtain ⟨rfl, hw⟩ := hp
    refine lv_istore (lv' := [(7, .int r4), (0, .ref (ad bs o)), (1, .ref (ad bs a1)), (2, .ref (ad bs a2)), (3, .int a3), (4, .int v4), (5, .int v5), (6, .int v6)]) hx hb dX7_setPrices_59 hl (by decide) rfl (fun ls hl => ?_)
    refine lv_aload_n hx hb dX7_setPrices_61 rfl (lv_at hl 3 rfl) ?_
    refine lv_iload hx hb dX7_setPrices_62 (lv_at hl 7 rfl) ?_
    refine lv_iload hx hb dX7_setPrices_64 (lv_at hl 5 rfl) ?_
    refine m_ci (m_runV E hM hS cs_X7_85 ha2.1 (by decide) rfl rfl (c_X4_latestOn ha2 hw) rfl rfl ⟨Nat.le_of_ble_eq_true rfl, Nat.le_of_ble_eq_true rfl⟩ rfl hl.1 rfl (Nat.le_of_ble_eq_true rfl) dX7_setPrices_66 ⟨Nat.le_of_ble_eq_true rfl, Nat.le_of_ble_eq_true rfl⟩) hS (fun r5 u H locs hp hM hS => ?_)
    obtain ⟨rfl, hw⟩ := hp
    refine lv_istore (lv' := [(8, .int r5), (7, .int r4), (0, .ref (ad bs o)), (1, .ref (ad bs a1)), (2, .ref (ad bs a2)), (3, .int a3), (4, .int v4), (5, .int v5), (6, .int v6)]) hx hb dX7_setPrices_69 hl (by decide) rfl (fun ls hl => ?_)
    refine lv_iload hx hb dX7_setPrices_71 (lv_at hl 0 rfl) ?_
    refine lv_iconst (v := (-1)) hx hb dX7_setPrices_73 (by decide) ?_
    refine lv_icmp_eq (tgt := 117) hx hb dX7_setPrices_74 (by decide) (fun cq => ?_) (fun cq => ?_)
    · have hw := hw.1 cq
      exact s_X7_setPrices_117 E hr hlk ho ha1 ha2 (fun I v4 v5 v6 H locs ls  hw hM hS hl => hw H locs ls  hM hS hl)  hw hM hS (lv_sub hl [2, 3, 4, 5, 6, 7, 8, 1] rfl)
    · have hw := hw.2 cq
      refine lv_iload hx hb dX7_setPrices_77 (lv_at hl 6 rfl) ?_
      refine lv_aload_n hx hb dX7_setPrices_79 rfl (lv_at hl 3 rfl) ?_
      refine m_getr E hM fs_X7_90 ha1.1.1 (isO_at ha1.1 2 rfl).1 dX7_setPrices_80 ?_
      refine lv_iload hx hb dX7_setPrices_83 (lv_at hl 0 rfl) ?_
      obtain ⟨hv, hw⟩ := hw
      refine m_iald E hM (isO_at ha1.1 2 rfl).2 hv dX7_setPrices_85 ?_
      refine lv_isub hx hb dX7_setPrices_86 ?_
      refine lv_aload_n hx hb dX7_setPrices_87 rfl (lv_at hl 3 rfl) ?_
      refine m_getr E hM fs_X7_46 ha1.1.1 ha1.2.1 dX7_setPrices_88 ?_
      refine m_geti E hM fs_X7_92 ha1.2.2.1 dX7_setPrices_91 ?_
      refine lv_icmp_gt (tgt := 117) hx hb dX7_setPrices_94 (by decide) (fun cq => ?_) (fun cq => ?_)
      · have hw := hw.1 cq
        exact s_X7_setPrices_117 E hr hlk ho ha1 ha2 (fun I v4 v5 v6 H locs ls  hw hM hS hl => hw H locs ls  hM hS hl)  hw hM hS (lv_sub hl [2, 3, 4, 5, 6, 7, 8, 1] rfl)
      · have hw := hw.2 cq
        refine lv_iload hx hb dX7_setPrices_97 (lv_at hl 1 rfl) ?_
        refine lv_aload_n hx hb dX7_setPrices_99 rfl (lv_at hl 3 rfl) ?_
        refine lv_iload hx hb dX7_setPrices_100 (lv_at hl 8 rfl) ?_
        refine lv_aload_n hx hb dX7_setPrices_102 rfl (lv_at hl 3 rfl) ?_
        refine m_getr E hM fs_X7_95 ha1.1.1 (isO_at ha1.1 4 rfl).1 dX7_setPrices_103 ?_
        refine lv_iload hx hb dX7_setPrices_106 (lv_at hl 0 rfl) ?_
        obtain ⟨hv, hw⟩ := hw
        refine m_iald E hM (isO_at ha1.1 4 rfl).2 hv dX7_setPrices_108 ?_
        refine lv_iconst (v := 2) hx hb dX7_setPrices_109 (by decide) ?_
        refine lv_idiv hx hb dX7_setPrices_110 (by decide) ?_
        refine m_ci (m_runV E hM hS cs_X7_82 ha1.1.1 (by decide) rfl rfl (c_X2_hearers ha1 hw) rfl rfl ⟨Nat.le_of_ble_eq_true rfl, Nat.le_of_ble_eq_true rfl⟩ rfl hl.1 rfl (Nat.le_of_ble_eq_true rfl) dX7_setPrices_111 ⟨Nat.le_of_ble_eq_true rfl, Nat.le_of_ble_eq_true rfl⟩) hS (fun r6 u H locs hp hM hS => ?_)
        obtain ⟨rfl, hw⟩ := hp
        refine lv_ior hx hb dX7_setPrices_114 ?_
        refine lv_topi (fun x7 ex7 => ?_)
        have hw := hw x7 ex7
        refine lv_istore (lv' := [(7, .int x7), (8, .int r5), (0, .ref (ad bs o)), (1, .ref (ad bs a1)), (2, .ref (ad bs a2)), (3, .int a3), (4, .int v4), (5, .int v5), (6, .int v6)]) hx hb dX7_setPrices_115 hl (by decide) rfl (fun ls hl => ?_)
        exact s_X7_setPrices_117 E hr hlk ho ha1 ha2 (fun I v4 v5 v6 H locs ls  hw hM hS hl => hw H locs ls  hM hS hl)  hw hM hS (lv_sub hl [2, 3, 4, 5, 6, 7, 8, 0] rfl)
def w_X7_setPrices (I : mI) (o : Nat) (a1 : Nat) (a1h : Nat) (a2 : Nat) (a3 : Int32) (post : mI → Prop) : Prop := ∀ x1, x1 = ((I o 7) + a3) → w_X3_shoeAt I a1h (I o 4) x1 (fun r2 => (w_X7_setPrices_26 o a1 a1h a2 a3 post) I x1 r2 0)
set_option maxRecDepth 100000 in
set_option maxHeartbeats 4000000 in
theorem c_X7_setPrices {l : Launch} {D : va_G} {cA : Nat → ClassId} {Z : mZ} {bs : Ad} {n : Nat} {K : mK} {R : mR} {I : mI} {L : mL} {o : Nat} {a1 : Nat} {a1h : Nat} {a2 : Nat} {a3 : Int32} {post : mI → Prop} (ho : isX7 K R o) (ha1 : isX2 K R a1 a1h) (ha2 : isX4 K R a2) (hw : w_X7_setPrices I o a1 a1h a2 a3 post) : Met l yX7_setPrices (.code yX7_setPrices cX7_setPrices 9 none :: gw) ({ frames := 2, cells := 0, slots := 0, locals := 63 } : Room) (PreM D cA Z bs (n, K, R, I, L) [.ref (ad bs o), .ref (ad bs a1), .ref (ad bs a2), .int a3]) (QV D cA bs (fun u => ∃ I', u = (n, K, R, I', L) ∧ post I')) 0 0 (Ab bs) := by
  refine m_met (by decide) (Nat.le_of_ble_eq_true rfl) (fun p e s m below meth c ls E hr hlk hM hS hl => ?_)
  have E : Ev p s m _ c cX7_setPrices 9 RX7 D cA Z bs := E
  have hl : lv_has ls 9 [(0, .ref (ad bs o)), (1, .ref (ad bs a1)), (2, .ref (ad bs a2)), (3, .int a3)] := hl
  have hx := E.1.1
  have hb := E.1.2.1
  generalize hHe : s.heap = H at hM ⊢
  have hS : va_S (Ab bs) s.heap H [] := by rw [← hHe]; exact va_S.rf
  clear hHe
  refine lv_aload_n hx hb dX7_setPrices_0 rfl (lv_at hl 0 rfl) ?_
  refine m_geti E hM fs_X7_40 ho.1 dX7_setPrices_1 ?_
  refine lv_iload_n hx hb dX7_setPrices_4 rfl (lv_at hl 3 rfl) ?_
  refine lv_iadd hx hb dX7_setPrices_5 ?_
  refine lv_topi (fun x1 ex1 => ?_)
  have hw := hw x1 ex1
  refine lv_istore (lv' := [(4, .int x1), (0, .ref (ad bs o)), (1, .ref (ad bs a1)), (2, .ref (ad bs a2)), (3, .int a3)]) hx hb dX7_setPrices_6 hl (by decide) rfl (fun ls hl => ?_)
  refine lv_aload_n hx hb dX7_setPrices_8 rfl (lv_at hl 2 rfl) ?_
  refine m_getr E hM fs_X7_46 ha1.1.1 ha1.2.1 dX7_setPrices_9 ?_
  refine lv_aload_n hx hb dX7_setPrices_12 rfl (lv_at hl 1 rfl) ?_
  refine m_geti E hM fs_X7_31 ho.1 dX7_setPrices_13 ?_
  refine lv_iload hx hb dX7_setPrices_16 (lv_at hl 0 rfl) ?_
  refine m_ci (m_runV E hM hS cs_X7_74 ha1.2.2.1 (by decide) rfl rfl (c_X3_shoeAt ha1.2.2 hw) rfl rfl ⟨Nat.le_of_ble_eq_true rfl, Nat.le_of_ble_eq_true rfl⟩ rfl hl.1 rfl (Nat.le_of_ble_eq_true rfl) dX7_setPrices_18 ⟨Nat.le_of_ble_eq_true rfl, Nat.le_of_ble_eq_true rfl⟩) hS (fun r2 u H locs hp hM hS => ?_)
  obtain ⟨rfl, hw⟩ := hp
  refine lv_istore (lv' := [(5, .int r2), (4, .int x1), (0, .ref (ad bs o)), (1, .ref (ad bs a1)), (2, .ref (ad bs a2)), (3, .int a3)]) hx hb dX7_setPrices_21 hl (by decide) rfl (fun ls hl => ?_)
  refine lv_iconst (v := 0) hx hb dX7_setPrices_23 (by decide) ?_
  refine lv_istore (lv' := [(6, .int 0), (5, .int r2), (4, .int x1), (0, .ref (ad bs o)), (1, .ref (ad bs a1)), (2, .ref (ad bs a2)), (3, .int a3)]) hx hb dX7_setPrices_24 hl (by decide) rfl (fun ls hl => ?_)
  exact s_X7_setPrices_26 E hr hlk ho ha1 ha2  hw hM hS (lv_sub hl [3, 4, 5, 6, 2, 1, 0] rfl)
theorem dX7_leastAt_0 : decode cX7_leastAt 0 = .ok (.iload_n 2, 1) := by decide +kernel
theorem dX7_leastAt_1 : decode cX7_leastAt 1 = .ok (.iconst 1, 1) := by decide +kernel
theorem dX7_leastAt_2 : decode cX7_leastAt 2 = .ok (.isub, 1) := by decide +kernel
theorem dX7_leastAt_3 : decode cX7_leastAt 3 = .ok (.bipush 24, 2) := by decide +kernel
theorem dX7_leastAt_5 : decode cX7_leastAt 5 = .ok (.imul, 1) := by decide +kernel
theorem dX7_leastAt_6 : decode cX7_leastAt 6 = .ok (.istore 4, 2) := by decide +kernel
theorem dX7_leastAt_8 : decode cX7_leastAt 8 = .ok (.sipush 1000, 3) := by decide +kernel
theorem dX7_leastAt_11 : decode cX7_leastAt 11 = .ok (.istore 5, 2) := by decide +kernel
theorem dX7_leastAt_13 : decode cX7_leastAt 13 = .ok (.iconst 0, 1) := by decide +kernel
theorem dX7_leastAt_14 : decode cX7_leastAt 14 = .ok (.iload_n 3, 1) := by decide +kernel
theorem dX7_leastAt_15 : decode cX7_leastAt 15 = .ok (.aload_n 1, 1) := by decide +kernel
theorem dX7_leastAt_16 : decode cX7_leastAt 16 = .ok (.getfield 106, 3) := by decide +kernel
theorem dX7_leastAt_19 : decode cX7_leastAt 19 = .ok (.aload_n 0, 1) := by decide +kernel
theorem dX7_leastAt_20 : decode cX7_leastAt 20 = .ok (.getfield 31, 3) := by decide +kernel
theorem dX7_leastAt_23 : decode cX7_leastAt 23 = .ok (.iaload, 1) := by decide +kernel
theorem dX7_leastAt_24 : decode cX7_leastAt 24 = .ok (.isub, 1) := by decide +kernel
theorem dX7_leastAt_25 : decode cX7_leastAt 25 = .ok (.invokestatic 109, 3) := by decide +kernel
theorem dX7_leastAt_28 : decode cX7_leastAt 28 = .ok (.istore 6, 2) := by decide +kernel
theorem dX7_leastAt_30 : decode cX7_leastAt 30 = .ok (.aload_n 1, 1) := by decide +kernel
theorem dX7_leastAt_31 : decode cX7_leastAt 31 = .ok (.getfield 54, 3) := by decide +kernel
theorem dX7_leastAt_34 : decode cX7_leastAt 34 = .ok (.iconst 1, 1) := by decide +kernel
theorem dX7_leastAt_35 : decode cX7_leastAt 35 = .ok (.isub, 1) := by decide +kernel
theorem dX7_leastAt_36 : decode cX7_leastAt 36 = .ok (.iload_n 3, 1) := by decide +kernel
theorem dX7_leastAt_37 : decode cX7_leastAt 37 = .ok (.aload_n 1, 1) := by decide +kernel
theorem dX7_leastAt_38 : decode cX7_leastAt 38 = .ok (.getfield 106, 3) := by decide +kernel
theorem dX7_leastAt_41 : decode cX7_leastAt 41 = .ok (.aload_n 0, 1) := by decide +kernel
theorem dX7_leastAt_42 : decode cX7_leastAt 42 = .ok (.getfield 31, 3) := by decide +kernel
theorem dX7_leastAt_45 : decode cX7_leastAt 45 = .ok (.iaload, 1) := by decide +kernel
theorem dX7_leastAt_46 : decode cX7_leastAt 46 = .ok (.iadd, 1) := by decide +kernel
theorem dX7_leastAt_47 : decode cX7_leastAt 47 = .ok (.invokestatic 114, 3) := by decide +kernel
theorem dX7_leastAt_50 : decode cX7_leastAt 50 = .ok (.istore 7, 2) := by decide +kernel
theorem dX7_leastAt_52 : decode cX7_leastAt 52 = .ok (.iload 6, 2) := by decide +kernel
theorem dX7_leastAt_54 : decode cX7_leastAt 54 = .ok (.istore 8, 2) := by decide +kernel
theorem dX7_leastAt_56 : decode cX7_leastAt 56 = .ok (.iload 8, 2) := by decide +kernel
theorem dX7_leastAt_58 : decode cX7_leastAt 58 = .ok (.iload 7, 2) := by decide +kernel
theorem dX7_leastAt_60 : decode cX7_leastAt 60 = .ok (.if_icmp .gt 32, 3) := by decide +kernel
theorem dX7_leastAt_63 : decode cX7_leastAt 63 = .ok (.iload 8, 2) := by decide +kernel
theorem dX7_leastAt_65 : decode cX7_leastAt 65 = .ok (.iload_n 3, 1) := by decide +kernel
theorem dX7_leastAt_66 : decode cX7_leastAt 66 = .ok (.if_icmp .eq 20, 3) := by decide +kernel
theorem dX7_leastAt_69 : decode cX7_leastAt 69 = .ok (.iload 5, 2) := by decide +kernel
theorem dX7_leastAt_71 : decode cX7_leastAt 71 = .ok (.aload_n 0, 1) := by decide +kernel
theorem dX7_leastAt_72 : decode cX7_leastAt 72 = .ok (.getfield 25, 3) := by decide +kernel
theorem dX7_leastAt_75 : decode cX7_leastAt 75 = .ok (.iload 4, 2) := by decide +kernel
theorem dX7_leastAt_77 : decode cX7_leastAt 77 = .ok (.iload 8, 2) := by decide +kernel
theorem dX7_leastAt_79 : decode cX7_leastAt 79 = .ok (.iadd, 1) := by decide +kernel
theorem dX7_leastAt_80 : decode cX7_leastAt 80 = .ok (.iaload, 1) := by decide +kernel
theorem dX7_leastAt_81 : decode cX7_leastAt 81 = .ok (.invokestatic 114, 3) := by decide +kernel
theorem dX7_leastAt_84 : decode cX7_leastAt 84 = .ok (.istore 5, 2) := by decide +kernel
theorem dX7_leastAt_86 : decode cX7_leastAt 86 = .ok (.iinc 8 1, 3) := by decide +kernel
theorem dX7_leastAt_89 : decode cX7_leastAt 89 = .ok (.goto (-33), 3) := by decide +kernel
theorem dX7_leastAt_92 : decode cX7_leastAt 92 = .ok (.aload_n 0, 1) := by decide +kernel
theorem dX7_leastAt_93 : decode cX7_leastAt 93 = .ok (.getfield 25, 3) := by decide +kernel
theorem dX7_leastAt_96 : decode cX7_leastAt 96 = .ok (.iload 4, 2) := by decide +kernel
theorem dX7_leastAt_98 : decode cX7_leastAt 98 = .ok (.iload_n 3, 1) := by decide +kernel
theorem dX7_leastAt_99 : decode cX7_leastAt 99 = .ok (.iadd, 1) := by decide +kernel
theorem dX7_leastAt_100 : decode cX7_leastAt 100 = .ok (.iaload, 1) := by decide +kernel
theorem dX7_leastAt_101 : decode cX7_leastAt 101 = .ok (.istore 8, 2) := by decide +kernel
theorem dX7_leastAt_103 : decode cX7_leastAt 103 = .ok (.iload 8, 2) := by decide +kernel
theorem dX7_leastAt_105 : decode cX7_leastAt 105 = .ok (.sipush 1000, 3) := by decide +kernel
theorem dX7_leastAt_108 : decode cX7_leastAt 108 = .ok (.iload 5, 2) := by decide +kernel
theorem dX7_leastAt_110 : decode cX7_leastAt 110 = .ok (.aload_n 0, 1) := by decide +kernel
theorem dX7_leastAt_111 : decode cX7_leastAt 111 = .ok (.getfield 22, 3) := by decide +kernel
theorem dX7_leastAt_114 : decode cX7_leastAt 114 = .ok (.iload_n 2, 1) := by decide +kernel
theorem dX7_leastAt_115 : decode cX7_leastAt 115 = .ok (.bipush 24, 2) := by decide +kernel
theorem dX7_leastAt_117 : decode cX7_leastAt 117 = .ok (.imul, 1) := by decide +kernel
theorem dX7_leastAt_118 : decode cX7_leastAt 118 = .ok (.iload_n 3, 1) := by decide +kernel
theorem dX7_leastAt_119 : decode cX7_leastAt 119 = .ok (.iadd, 1) := by decide +kernel
theorem dX7_leastAt_120 : decode cX7_leastAt 120 = .ok (.iaload, 1) := by decide +kernel
theorem dX7_leastAt_121 : decode cX7_leastAt 121 = .ok (.iadd, 1) := by decide +kernel
theorem dX7_leastAt_122 : decode cX7_leastAt 122 = .ok (.invokestatic 114, 3) := by decide +kernel
theorem dX7_leastAt_125 : decode cX7_leastAt 125 = .ok (.invokestatic 114, 3) := by decide +kernel
theorem dX7_leastAt_128 : decode cX7_leastAt 128 = .ok (.ireturn, 1) := by decide +kernel
def w_X7_leastAt_56 (I : mI) (o : Nat) (a1 : Nat) (a2 : Int32) (a3 : Int32) (post : Int32 → Prop) (k92 : Int32 → Int32 → Prop) (v4 : Int32) (v5 : Int32) (v7 : Int32) (v8 : Int32) : Prop := ∀ ZZ : (Int32 → Int32 → Int32 → Int32 → Prop), (∀ (v4 : Int32) (v5 : Int32) (v7 : Int32) (v8 : Int32), ((v7 < v8 → k92 v4 v5) ∧ (¬ v7 < v8 → (v8 = a3 → ∀ x4, x4 = v8 + 1 → ZZ v4 v5 v7 x4) ∧ (¬ v8 = a3 → vp_in (v4 + v8) 1464 ∧ ∀ x5, x5 = (imin v5 (I (o + 3) (v4 + v8).toNatClampNeg)) → ∀ x6, x6 = v8 + 1 → ZZ v4 x5 v7 x6))) → ZZ v4 v5 v7 v8) → ZZ v4 v5 v7 v8
set_option maxRecDepth 100000 in
set_option maxHeartbeats 4000000 in
theorem s_X7_leastAt_56 {p : Program} {l : Launch} {e : Env} {s : State} {m : MethodId} {args : Array Value} {below : List Frame} {meth : Method} {c : Code} {D : va_G} {cA : Nat → ClassId} {Z : mZ} {bs : Ad} {n : Nat} {K : mK} {R : mR} {I : mI} {L : mL} (E : Ev p s m args c cX7_leastAt 9 RX7 D cA Z bs) (hr : meth.sig.returnType = (some .int)) (hlk : meth.locks = false) {o : Nat} {a1 : Nat} {a2 : Int32} {a3 : Int32} (ho : isX7 K R o) (ha1 : isX3 K R a1) {post : Int32 → Prop} {k92 : Int32 → Int32 → Prop} (hk92 : ∀ (v4 : Int32) (v5 : Int32) (H : Heap) (locs : List Loc) (ls : Array Slot), k92 v4 v5 → mm D cA bs (n, K, R, I, L) H → va_S (Ab bs) s.heap H locs → lv_has ls 9 [(0, .ref (ad bs o)), (2, .int a2), (3, .int a3), (4, .int v4), (5, .int v5)] → W p l e ({ frames := 1, cells := 0, slots := 0, locals := 40 } : Room) s m args below meth c H locs 0 0 (MQ below (QI D cA bs (fun r u => u = (n, K, R, I, L) ∧ post r)) args s 0 0 (Ab bs)) (F0 m 92 ls [])) {v4 : Int32} {v5 : Int32} {v7 : Int32} {v8 : Int32} {H : Heap} {locs : List Loc} {ls : Array Slot} (hw : w_X7_leastAt_56 I o a1 a2 a3 post k92 v4 v5 v7 v8) (hM : mm D cA bs (n, K, R, I, L) H) (hS : va_S (Ab bs) s.heap H locs) (hl : lv_has ls 9 [(0, .ref (ad bs o)), (2, .int a2), (3, .int a3), (4, .int v4), (5, .int v5), (7, .int v7), (8, .int v8)]) : W p l e ({ frames := 1, cells := 0, slots := 0, locals := 40 } : Room) s m args below meth c H locs 0 0 (MQ below (QI D cA bs (fun r u => u = (n, K, R, I, L) ∧ post r)) args s 0 0 (Ab bs)) (F0 m 56 ls []) := by
  have hx := E.1.1
  have hb := E.1.2.1
  refine hw (fun v4 v5 v7 v8 => ∀ (H : Heap) (locs : List Loc) (ls : Array Slot), mm D cA bs (n, K, R, I, L) H → va_S (Ab bs) s.heap H locs → lv_has ls 9 [(0, .ref (ad bs o)), (2, .int a2), (3, .int a3), (4, .int v4), (5, .int v5), (7, .int v7), (8, .int v8)] → W p l e ({ frames := 1, cells := 0, slots := 0, locals := 40 } : Room) s m args below meth c H locs 0 0 (MQ below (QI D cA bs (fun r u => u = (n, K, R, I, L) ∧ post r)) args s 0 0 (Ab bs)) (F0 m 56 ls [])) ?_ H locs ls hM hS hl
  clear hw hM hS hl
  intro v4 v5 v7 v8 hw H locs ls hM hS hl
  refine lv_iload hx hb dX7_leastAt_56 (lv_at hl 6 rfl) ?_
  refine lv_iload hx hb dX7_leastAt_58 (lv_at hl 5 rfl) ?_
  refine lv_icmp_gt (tgt := 92) hx hb dX7_leastAt_60 (by decide) (fun cq => ?_) (fun cq => ?_)
  · have hw := hw.1 cq
    exact hk92 _ _ H locs ls  hw hM hS (lv_sub hl [0, 1, 2, 3, 4] rfl)
  · have hw := hw.2 cq
    refine lv_iload hx hb dX7_leastAt_63 (lv_at hl 6 rfl) ?_
    refine lv_iload_n hx hb dX7_leastAt_65 rfl (lv_at hl 2 rfl) ?_
    refine lv_icmp_eq (tgt := 86) hx hb dX7_leastAt_66 (by decide) (fun cq => ?_) (fun cq => ?_)
    · have hw := hw.1 cq
      obtain ⟨x4, ex4⟩ : ∃ y : Int32, y = v8 + 1 := ⟨_, rfl⟩
      have hw := hw x4 ex4
      refine lv_iinc (v := x4) (lv' := [(8, .int x4), (0, .ref (ad bs o)), (2, .int a2), (3, .int a3), (4, .int v4), (5, .int v5), (7, .int v7)]) hx hb dX7_leastAt_86 hl (k := 6) rfl (by rw [ex4]; rfl) (by decide) rfl (fun ls hl => ?_)
      refine lv_goto (tgt := 56) hx hb dX7_leastAt_89 (by decide) ?_
      exact hw H locs ls  hM hS (lv_sub hl [1, 2, 3, 4, 5, 6, 0] rfl)
    · have hw := hw.2 cq
      refine lv_iload hx hb dX7_leastAt_69 (lv_at hl 4 rfl) ?_
      refine lv_aload_n hx hb dX7_leastAt_71 rfl (lv_at hl 0 rfl) ?_
      refine m_getr E hM fs_X7_25 ho.1 (isO_at ho 2 rfl).1 dX7_leastAt_72 ?_
      refine lv_iload hx hb dX7_leastAt_75 (lv_at hl 3 rfl) ?_
      refine lv_iload hx hb dX7_leastAt_77 (lv_at hl 6 rfl) ?_
      refine lv_iadd hx hb dX7_leastAt_79 ?_
      obtain ⟨hv, hw⟩ := hw
      refine m_iald E hM (isO_at ho 2 rfl).2 hv dX7_leastAt_80 ?_
      refine m_min E ml_X7_114 hl.1 (Nat.le_of_ble_eq_true rfl) (Nat.le_of_ble_eq_true rfl) (Nat.le_of_ble_eq_true rfl) (Nat.le_of_ble_eq_true rfl) dX7_leastAt_81 ?_
      refine lv_topi (fun x5 ex5 => ?_)
      have hw := hw x5 ex5
      refine lv_istore (lv' := [(5, .int x5), (0, .ref (ad bs o)), (2, .int a2), (3, .int a3), (4, .int v4), (7, .int v7), (8, .int v8)]) hx hb dX7_leastAt_84 hl (by decide) rfl (fun ls hl => ?_)
      obtain ⟨x6, ex6⟩ : ∃ y : Int32, y = v8 + 1 := ⟨_, rfl⟩
      have hw := hw x6 ex6
      refine lv_iinc (v := x6) (lv' := [(8, .int x6), (5, .int x5), (0, .ref (ad bs o)), (2, .int a2), (3, .int a3), (4, .int v4), (7, .int v7)]) hx hb dX7_leastAt_86 hl (k := 6) rfl (by rw [ex6]; rfl) (by decide) rfl (fun ls hl => ?_)
      refine lv_goto (tgt := 56) hx hb dX7_leastAt_89 (by decide) ?_
      exact hw H locs ls  hM hS (lv_sub hl [2, 3, 4, 5, 1, 6, 0] rfl)
def w_X7_leastAt_92 (I : mI) (o : Nat) (a1 : Nat) (a2 : Int32) (a3 : Int32) (post : Int32 → Prop) (v4 : Int32) (v5 : Int32) : Prop := vp_in (v4 + a3) 1464 ∧ ∀ x7, x7 = (I (o + 3) (v4 + a3).toNatClampNeg) → vp_in ((a2 * 24) + a3) 1464 ∧ post (imin x7 (imin 1000 (v5 + (I (o + 2) ((a2 * 24) + a3).toNatClampNeg))))
set_option maxRecDepth 100000 in
set_option maxHeartbeats 4000000 in
theorem s_X7_leastAt_92 {p : Program} {l : Launch} {e : Env} {s : State} {m : MethodId} {args : Array Value} {below : List Frame} {meth : Method} {c : Code} {D : va_G} {cA : Nat → ClassId} {Z : mZ} {bs : Ad} {n : Nat} {K : mK} {R : mR} {I : mI} {L : mL} (E : Ev p s m args c cX7_leastAt 9 RX7 D cA Z bs) (hr : meth.sig.returnType = (some .int)) (hlk : meth.locks = false) {o : Nat} {a1 : Nat} {a2 : Int32} {a3 : Int32} (ho : isX7 K R o) (ha1 : isX3 K R a1) {post : Int32 → Prop} {v4 : Int32} {v5 : Int32} {H : Heap} {locs : List Loc} {ls : Array Slot} (hw : w_X7_leastAt_92 I o a1 a2 a3 post v4 v5) (hM : mm D cA bs (n, K, R, I, L) H) (hS : va_S (Ab bs) s.heap H locs) (hl : lv_has ls 9 [(0, .ref (ad bs o)), (2, .int a2), (3, .int a3), (4, .int v4), (5, .int v5)]) : W p l e ({ frames := 1, cells := 0, slots := 0, locals := 40 } : Room) s m args below meth c H locs 0 0 (MQ below (QI D cA bs (fun r u => u = (n, K, R, I, L) ∧ post r)) args s 0 0 (Ab bs)) (F0 m 92 ls []) := by
  have hx := E.1.1
  have hb := E.1.2.1
  refine lv_aload_n hx hb dX7_leastAt_92 rfl (lv_at hl 0 rfl) ?_
  refine m_getr E hM fs_X7_25 ho.1 (isO_at ho 2 rfl).1 dX7_leastAt_93 ?_
  refine lv_iload hx hb dX7_leastAt_96 (lv_at hl 3 rfl) ?_
  refine lv_iload_n hx hb dX7_leastAt_98 rfl (lv_at hl 2 rfl) ?_
  refine lv_iadd hx hb dX7_leastAt_99 ?_
  obtain ⟨hv, hw⟩ := hw
  refine m_iald E hM (isO_at ho 2 rfl).2 hv dX7_leastAt_100 ?_
  refine lv_topi (fun x7 ex7 => ?_)
  have hw := hw x7 ex7
  refine lv_istore (lv' := [(8, .int x7), (0, .ref (ad bs o)), (2, .int a2), (3, .int a3), (4, .int v4), (5, .int v5)]) hx hb dX7_leastAt_101 hl (by decide) rfl (fun ls hl => ?_)
  refine lv_iload hx hb dX7_leastAt_103 (lv_at hl 0 rfl) ?_
  refine lv_sipush (v := 1000) hx hb dX7_leastAt_105 (by decide) ?_
  refine lv_iload hx hb dX7_leastAt_108 (lv_at hl 5 rfl) ?_
  refine lv_aload_n hx hb dX7_leastAt_110 rfl (lv_at hl 1 rfl) ?_
  refine m_getr E hM fs_X7_22 ho.1 (isO_at ho 1 rfl).1 dX7_leastAt_111 ?_
  refine lv_iload_n hx hb dX7_leastAt_114 rfl (lv_at hl 2 rfl) ?_
  refine lv_bipush (v := 24) hx hb dX7_leastAt_115 (by decide) ?_
  refine lv_imul hx hb dX7_leastAt_117 ?_
  refine lv_iload_n hx hb dX7_leastAt_118 rfl (lv_at hl 3 rfl) ?_
  refine lv_iadd hx hb dX7_leastAt_119 ?_
  obtain ⟨hv, hw⟩ := hw
  refine m_iald E hM (isO_at ho 1 rfl).2 hv dX7_leastAt_120 ?_
  refine lv_iadd hx hb dX7_leastAt_121 ?_
  refine m_min E ml_X7_114 hl.1 (Nat.le_of_ble_eq_true rfl) (Nat.le_of_ble_eq_true rfl) (Nat.le_of_ble_eq_true rfl) (Nat.le_of_ble_eq_true rfl) dX7_leastAt_122 ?_
  refine m_min E ml_X7_114 hl.1 (Nat.le_of_ble_eq_true rfl) (Nat.le_of_ble_eq_true rfl) (Nat.le_of_ble_eq_true rfl) (Nat.le_of_ble_eq_true rfl) dX7_leastAt_125 ?_
  exact m_reti hx hb hr hlk hM hS ⟨rfl, hw⟩ dX7_leastAt_128
def w_X7_leastAt (I : mI) (o : Nat) (a1 : Nat) (a2 : Int32) (a3 : Int32) (post : Int32 → Prop) : Prop := ∀ x1, x1 = ((a2 - 1) * 24) → vp_in (I o 4) 6 ∧ ∀ x2, x2 = (imax 0 (a3 - (I (a1 + 6) (I o 4).toNatClampNeg))) → vp_in (I o 4) 6 ∧ ∀ x3, x3 = (imin ((I a1 0) - 1) (a3 + (I (a1 + 6) (I o 4).toNatClampNeg))) → (w_X7_leastAt_56 I o a1 a2 a3 post (w_X7_leastAt_92 I o a1 a2 a3 post)) x1 1000 x3 x2
set_option maxRecDepth 100000 in
set_option maxHeartbeats 4000000 in
theorem c_X7_leastAt {l : Launch} {D : va_G} {cA : Nat → ClassId} {Z : mZ} {bs : Ad} {n : Nat} {K : mK} {R : mR} {I : mI} {L : mL} {o : Nat} {a1 : Nat} {a2 : Int32} {a3 : Int32} {post : Int32 → Prop} (ho : isX7 K R o) (ha1 : isX3 K R a1) (hw : w_X7_leastAt I o a1 a2 a3 post) : Met l yX7_leastAt (.code yX7_leastAt cX7_leastAt 9 (some .int) :: gw) ({ frames := 1, cells := 0, slots := 0, locals := 40 } : Room) (PreM D cA Z bs (n, K, R, I, L) [.ref (ad bs o), .ref (ad bs a1), .int a2, .int a3]) (QI D cA bs (fun r u => u = (n, K, R, I, L) ∧ post r)) 0 0 (Ab bs) := by
  refine m_met (by decide) (Nat.le_of_ble_eq_true rfl) (fun p e s m below meth c ls E hr hlk hM hS hl => ?_)
  have E : Ev p s m _ c cX7_leastAt 9 RX7 D cA Z bs := E
  have hl : lv_has ls 9 [(0, .ref (ad bs o)), (1, .ref (ad bs a1)), (2, .int a2), (3, .int a3)] := hl
  have hx := E.1.1
  have hb := E.1.2.1
  generalize hHe : s.heap = H at hM ⊢
  have hS : va_S (Ab bs) s.heap H [] := by rw [← hHe]; exact va_S.rf
  clear hHe
  refine lv_iload_n hx hb dX7_leastAt_0 rfl (lv_at hl 2 rfl) ?_
  refine lv_iconst (v := 1) hx hb dX7_leastAt_1 (by decide) ?_
  refine lv_isub hx hb dX7_leastAt_2 ?_
  refine lv_bipush (v := 24) hx hb dX7_leastAt_3 (by decide) ?_
  refine lv_imul hx hb dX7_leastAt_5 ?_
  refine lv_topi (fun x1 ex1 => ?_)
  have hw := hw x1 ex1
  refine lv_istore (lv' := [(4, .int x1), (0, .ref (ad bs o)), (1, .ref (ad bs a1)), (2, .int a2), (3, .int a3)]) hx hb dX7_leastAt_6 hl (by decide) rfl (fun ls hl => ?_)
  refine lv_sipush (v := 1000) hx hb dX7_leastAt_8 (by decide) ?_
  refine lv_istore (lv' := [(5, .int 1000), (4, .int x1), (0, .ref (ad bs o)), (1, .ref (ad bs a1)), (2, .int a2), (3, .int a3)]) hx hb dX7_leastAt_11 hl (by decide) rfl (fun ls hl => ?_)
  refine lv_iconst (v := 0) hx hb dX7_leastAt_13 (by decide) ?_
  refine lv_iload_n hx hb dX7_leastAt_14 rfl (lv_at hl 5 rfl) ?_
  refine lv_aload_n hx hb dX7_leastAt_15 rfl (lv_at hl 3 rfl) ?_
  refine m_getr E hM fs_X7_106 ha1.1 (isO_at ha1 5 rfl).1 dX7_leastAt_16 ?_
  refine lv_aload_n hx hb dX7_leastAt_19 rfl (lv_at hl 2 rfl) ?_
  refine m_geti E hM fs_X7_31 ho.1 dX7_leastAt_20 ?_
  obtain ⟨hv, hw⟩ := hw
  refine m_iald E hM (isO_at ha1 5 rfl).2 hv dX7_leastAt_23 ?_
  refine lv_isub hx hb dX7_leastAt_24 ?_
  refine m_max E ml_X7_109 hl.1 (Nat.le_of_ble_eq_true rfl) (Nat.le_of_ble_eq_true rfl) (Nat.le_of_ble_eq_true rfl) (Nat.le_of_ble_eq_true rfl) dX7_leastAt_25 ?_
  refine lv_topi (fun x2 ex2 => ?_)
  have hw := hw x2 ex2
  refine lv_istore (lv' := [(6, .int x2), (5, .int 1000), (4, .int x1), (0, .ref (ad bs o)), (1, .ref (ad bs a1)), (2, .int a2), (3, .int a3)]) hx hb dX7_leastAt_28 hl (by decide) rfl (fun ls hl => ?_)
  refine lv_aload_n hx hb dX7_leastAt_30 rfl (lv_at hl 4 rfl) ?_
  refine m_geti E hM fs_X7_54 ha1.1 dX7_leastAt_31 ?_
  refine lv_iconst (v := 1) hx hb dX7_leastAt_34 (by decide) ?_
  refine lv_isub hx hb dX7_leastAt_35 ?_
  refine lv_iload_n hx hb dX7_leastAt_36 rfl (lv_at hl 6 rfl) ?_
  refine lv_aload_n hx hb dX7_leastAt_37 rfl (lv_at hl 4 rfl) ?_
  refine m_getr E hM fs_X7_106 ha1.1 (isO_at ha1 5 rfl).1 dX7_leastAt_38 ?_
  refine lv_aload_n hx hb dX7_leastAt_41 rfl (lv_at hl 3 rfl) ?_
  refine m_geti E hM fs_X7_31 ho.1 dX7_leastAt_42 ?_
  obtain ⟨hv, hw⟩ := hw
  refine m_iald E hM (isO_at ha1 5 rfl).2 hv dX7_leastAt_45 ?_
  refine lv_iadd hx hb dX7_leastAt_46 ?_
  refine m_min E ml_X7_114 hl.1 (Nat.le_of_ble_eq_true rfl) (Nat.le_of_ble_eq_true rfl) (Nat.le_of_ble_eq_true rfl) (Nat.le_of_ble_eq_true rfl) dX7_leastAt_47 ?_
  refine lv_topi (fun x3 ex3 => ?_)
  have hw := hw x3 ex3
  refine lv_istore (lv' := [(7, .int x3), (6, .int x2), (5, .int 1000), (4, .int x1), (0, .ref (ad bs o)), (1, .ref (ad bs a1)), (2, .int a2), (3, .int a3)]) hx hb dX7_leastAt_50 hl (by decide) rfl (fun ls hl => ?_)
  refine lv_iload hx hb dX7_leastAt_52 (lv_at hl 1 rfl) ?_
  refine lv_istore (lv' := [(8, .int x2), (7, .int x3), (6, .int x2), (5, .int 1000), (4, .int x1), (0, .ref (ad bs o)), (1, .ref (ad bs a1)), (2, .int a2), (3, .int a3)]) hx hb dX7_leastAt_54 hl (by decide) rfl (fun ls hl => ?_)
  exact s_X7_leastAt_56 E hr hlk ho ha1 (fun v4 v5 H locs ls  hw hM hS hl => s_X7_leastAt_92 E hr hlk ho ha1  hw hM hS hl)  hw hM hS (lv_sub hl [5, 7, 8, 4, 3, 1, 0] rfl)
theorem dX7_onward_0 : decode cX7_onward 0 = .ok (.iconst 0, 1) := by decide +kernel
theorem dX7_onward_1 : decode cX7_onward 1 = .ok (.iload_n 3, 1) := by decide +kernel
theorem dX7_onward_2 : decode cX7_onward 2 = .ok (.aload_n 1, 1) := by decide +kernel
theorem dX7_onward_3 : decode cX7_onward 3 = .ok (.getfield 106, 3) := by decide +kernel
theorem dX7_onward_6 : decode cX7_onward 6 = .ok (.aload_n 0, 1) := by decide +kernel
theorem dX7_onward_7 : decode cX7_onward 7 = .ok (.getfield 31, 3) := by decide +kernel
theorem dX7_onward_10 : decode cX7_onward 10 = .ok (.iaload, 1) := by decide +kernel
theorem dX7_onward_11 : decode cX7_onward 11 = .ok (.isub, 1) := by decide +kernel
theorem dX7_onward_12 : decode cX7_onward 12 = .ok (.invokestatic 109, 3) := by decide +kernel
theorem dX7_onward_15 : decode cX7_onward 15 = .ok (.istore 4, 2) := by decide +kernel
theorem dX7_onward_17 : decode cX7_onward 17 = .ok (.aload_n 1, 1) := by decide +kernel
theorem dX7_onward_18 : decode cX7_onward 18 = .ok (.getfield 54, 3) := by decide +kernel
theorem dX7_onward_21 : decode cX7_onward 21 = .ok (.iconst 1, 1) := by decide +kernel
theorem dX7_onward_22 : decode cX7_onward 22 = .ok (.isub, 1) := by decide +kernel
theorem dX7_onward_23 : decode cX7_onward 23 = .ok (.iload_n 3, 1) := by decide +kernel
theorem dX7_onward_24 : decode cX7_onward 24 = .ok (.aload_n 1, 1) := by decide +kernel
theorem dX7_onward_25 : decode cX7_onward 25 = .ok (.getfield 106, 3) := by decide +kernel
theorem dX7_onward_28 : decode cX7_onward 28 = .ok (.aload_n 0, 1) := by decide +kernel
theorem dX7_onward_29 : decode cX7_onward 29 = .ok (.getfield 31, 3) := by decide +kernel
theorem dX7_onward_32 : decode cX7_onward 32 = .ok (.iaload, 1) := by decide +kernel
theorem dX7_onward_33 : decode cX7_onward 33 = .ok (.iadd, 1) := by decide +kernel
theorem dX7_onward_34 : decode cX7_onward 34 = .ok (.invokestatic 114, 3) := by decide +kernel
theorem dX7_onward_37 : decode cX7_onward 37 = .ok (.istore 5, 2) := by decide +kernel
theorem dX7_onward_39 : decode cX7_onward 39 = .ok (.iload_n 2, 1) := by decide +kernel
theorem dX7_onward_40 : decode cX7_onward 40 = .ok (.iconst 1, 1) := by decide +kernel
theorem dX7_onward_41 : decode cX7_onward 41 = .ok (.iadd, 1) := by decide +kernel
theorem dX7_onward_42 : decode cX7_onward 42 = .ok (.bipush 24, 2) := by decide +kernel
theorem dX7_onward_44 : decode cX7_onward 44 = .ok (.imul, 1) := by decide +kernel
theorem dX7_onward_45 : decode cX7_onward 45 = .ok (.istore 6, 2) := by decide +kernel
theorem dX7_onward_47 : decode cX7_onward 47 = .ok (.iload 4, 2) := by decide +kernel
theorem dX7_onward_49 : decode cX7_onward 49 = .ok (.istore 7, 2) := by decide +kernel
theorem dX7_onward_51 : decode cX7_onward 51 = .ok (.iload 7, 2) := by decide +kernel
theorem dX7_onward_53 : decode cX7_onward 53 = .ok (.iload 5, 2) := by decide +kernel
theorem dX7_onward_55 : decode cX7_onward 55 = .ok (.if_icmp .gt 77, 3) := by decide +kernel
theorem dX7_onward_58 : decode cX7_onward 58 = .ok (.aload_n 0, 1) := by decide +kernel
theorem dX7_onward_59 : decode cX7_onward 59 = .ok (.getfield 25, 3) := by decide +kernel
theorem dX7_onward_62 : decode cX7_onward 62 = .ok (.iload_n 2, 1) := by decide +kernel
theorem dX7_onward_63 : decode cX7_onward 63 = .ok (.bipush 24, 2) := by decide +kernel
theorem dX7_onward_65 : decode cX7_onward 65 = .ok (.imul, 1) := by decide +kernel
theorem dX7_onward_66 : decode cX7_onward 66 = .ok (.iload_n 3, 1) := by decide +kernel
theorem dX7_onward_67 : decode cX7_onward 67 = .ok (.iadd, 1) := by decide +kernel
theorem dX7_onward_68 : decode cX7_onward 68 = .ok (.iaload, 1) := by decide +kernel
theorem dX7_onward_69 : decode cX7_onward 69 = .ok (.iload 7, 2) := by decide +kernel
theorem dX7_onward_71 : decode cX7_onward 71 = .ok (.iload_n 3, 1) := by decide +kernel
theorem dX7_onward_72 : decode cX7_onward 72 = .ok (.if_icmp .ne 7, 3) := by decide +kernel
theorem dX7_onward_75 : decode cX7_onward 75 = .ok (.iconst 0, 1) := by decide +kernel
theorem dX7_onward_76 : decode cX7_onward 76 = .ok (.goto 13, 3) := by decide +kernel
theorem dX7_onward_79 : decode cX7_onward 79 = .ok (.aload_n 0, 1) := by decide +kernel
theorem dX7_onward_80 : decode cX7_onward 80 = .ok (.getfield 22, 3) := by decide +kernel
theorem dX7_onward_83 : decode cX7_onward 83 = .ok (.iload 6, 2) := by decide +kernel
theorem dX7_onward_85 : decode cX7_onward 85 = .ok (.iload 7, 2) := by decide +kernel
theorem dX7_onward_87 : decode cX7_onward 87 = .ok (.iadd, 1) := by decide +kernel
theorem dX7_onward_88 : decode cX7_onward 88 = .ok (.iaload, 1) := by decide +kernel
theorem dX7_onward_89 : decode cX7_onward 89 = .ok (.iadd, 1) := by decide +kernel
theorem dX7_onward_90 : decode cX7_onward 90 = .ok (.istore 8, 2) := by decide +kernel
theorem dX7_onward_92 : decode cX7_onward 92 = .ok (.aload_n 0, 1) := by decide +kernel
theorem dX7_onward_93 : decode cX7_onward 93 = .ok (.getfield 28, 3) := by decide +kernel
theorem dX7_onward_96 : decode cX7_onward 96 = .ok (.iload_n 2, 1) := by decide +kernel
theorem dX7_onward_97 : decode cX7_onward 97 = .ok (.iconst 1, 1) := by decide +kernel
theorem dX7_onward_98 : decode cX7_onward 98 = .ok (.iadd, 1) := by decide +kernel
theorem dX7_onward_99 : decode cX7_onward 99 = .ok (.iaload, 1) := by decide +kernel
theorem dX7_onward_100 : decode cX7_onward 100 = .ok (.iload 7, 2) := by decide +kernel
theorem dX7_onward_102 : decode cX7_onward 102 = .ok (.invokestatic 120, 3) := by decide +kernel
theorem dX7_onward_105 : decode cX7_onward 105 = .ok (.ifCond .eq 21, 3) := by decide +kernel
theorem dX7_onward_108 : decode cX7_onward 108 = .ok (.iload 8, 2) := by decide +kernel
theorem dX7_onward_110 : decode cX7_onward 110 = .ok (.aload_n 0, 1) := by decide +kernel
theorem dX7_onward_111 : decode cX7_onward 111 = .ok (.getfield 25, 3) := by decide +kernel
theorem dX7_onward_114 : decode cX7_onward 114 = .ok (.iload 6, 2) := by decide +kernel
theorem dX7_onward_116 : decode cX7_onward 116 = .ok (.iload 7, 2) := by decide +kernel
theorem dX7_onward_118 : decode cX7_onward 118 = .ok (.iadd, 1) := by decide +kernel
theorem dX7_onward_119 : decode cX7_onward 119 = .ok (.iaload, 1) := by decide +kernel
theorem dX7_onward_120 : decode cX7_onward 120 = .ok (.if_icmp .ne 6, 3) := by decide +kernel
theorem dX7_onward_123 : decode cX7_onward 123 = .ok (.iload 7, 2) := by decide +kernel
theorem dX7_onward_125 : decode cX7_onward 125 = .ok (.ireturn, 1) := by decide +kernel
theorem dX7_onward_126 : decode cX7_onward 126 = .ok (.iinc 7 1, 3) := by decide +kernel
theorem dX7_onward_129 : decode cX7_onward 129 = .ok (.goto (-78), 3) := by decide +kernel
theorem dX7_onward_132 : decode cX7_onward 132 = .ok (.iconst (-1), 1) := by decide +kernel
theorem dX7_onward_133 : decode cX7_onward 133 = .ok (.ireturn, 1) := by decide +kernel
def w_X7_onward_89 (I : mI) (o : Nat) (a1 : Nat) (a2 : Int32) (a3 : Int32) (post : Int32 → Prop) (k51 : Int32 → Int32 → Int32 → Prop) (v5 : Int32) (v6 : Int32) (v7 : Int32) (s0 : Int32) (s1 : Int32) : Prop := ∀ x4, x4 = (s0 + s1) → vp_in (a2 + 1) 61 ∧ w_X11_has (I (o + 4) (a2 + 1).toNatClampNeg) v7 (fun b5 => (b5 = false → ∀ x6, x6 = v7 + 1 → k51 v5 v6 x6) ∧ (b5 = true → vp_in (v6 + v7) 1464 ∧ (¬ x4 = (I (o + 3) (v6 + v7).toNatClampNeg) → ∀ x7, x7 = v7 + 1 → k51 v5 v6 x7) ∧ (x4 = (I (o + 3) (v6 + v7).toNatClampNeg) → post v7)))
set_option maxRecDepth 100000 in
set_option maxHeartbeats 4000000 in
theorem s_X7_onward_89 {p : Program} {l : Launch} {e : Env} {s : State} {m : MethodId} {args : Array Value} {below : List Frame} {meth : Method} {c : Code} {D : va_G} {cA : Nat → ClassId} {Z : mZ} {bs : Ad} {n : Nat} {K : mK} {R : mR} {I : mI} {L : mL} (E : Ev p s m args c cX7_onward 9 RX7 D cA Z bs) (hr : meth.sig.returnType = (some .int)) (hlk : meth.locks = false) {o : Nat} {a1 : Nat} {a2 : Int32} {a3 : Int32} (ho : isX7 K R o) (ha1 : isX3 K R a1) {post : Int32 → Prop} {k51 : Int32 → Int32 → Int32 → Prop} (hk51 : ∀ (v5 : Int32) (v6 : Int32) (v7 : Int32) (H : Heap) (locs : List Loc) (ls : Array Slot), k51 v5 v6 v7 → mm D cA bs (n, K, R, I, L) H → va_S (Ab bs) s.heap H locs → lv_has ls 9 [(0, .ref (ad bs o)), (2, .int a2), (3, .int a3), (5, .int v5), (6, .int v6), (7, .int v7)] → W p l e ({ frames := 1, cells := 0, slots := 0, locals := 40 } : Room) s m args below meth c H locs 0 0 (MQ below (QI D cA bs (fun r u => u = (n, K, R, I, L) ∧ post r)) args s 0 0 (Ab bs)) (F0 m 51 ls [])) {v5 : Int32} {v6 : Int32} {v7 : Int32} {s0 : Int32} {s1 : Int32} {H : Heap} {locs : List Loc} {ls : Array Slot} (hw : w_X7_onward_89 I o a1 a2 a3 post k51 v5 v6 v7 s0 s1) (hM : mm D cA bs (n, K, R, I, L) H) (hS : va_S (Ab bs) s.heap H locs) (hl : lv_has ls 9 [(0, .ref (ad bs o)), (2, .int a2), (3, .int a3), (5, .int v5), (6, .int v6), (7, .int v7)]) : W p l e ({ frames := 1, cells := 0, slots := 0, locals := 40 } : Room) s m args below meth c H locs 0 0 (MQ below (QI D cA bs (fun r u => u = (n, K, R, I, L) ∧ post r)) args s 0 0 (Ab bs)) (F0 m 89 ls [.int s1, .int s0]) := by
  have hx := E.1.1
  have hb := E.1.2.1
  refine lv_iadd hx hb dX7_onward_89 ?_
  refine lv_topi (fun x4 ex4 => ?_)
  have hw := hw x4 ex4
  refine lv_istore (lv' := [(8, .int x4), (0, .ref (ad bs o)), (2, .int a2), (3, .int a3), (5, .int v5), (6, .int v6), (7, .int v7)]) hx hb dX7_onward_90 hl (by decide) rfl (fun ls hl => ?_)
  refine lv_aload_n hx hb dX7_onward_92 rfl (lv_at hl 1 rfl) ?_
  refine m_getr E hM fs_X7_28 ho.1 (isO_at ho 3 rfl).1 dX7_onward_93 ?_
  refine lv_iload_n hx hb dX7_onward_96 rfl (lv_at hl 2 rfl) ?_
  refine lv_iconst (v := 1) hx hb dX7_onward_97 (by decide) ?_
  refine lv_iadd hx hb dX7_onward_98 ?_
  obtain ⟨hv, hw⟩ := hw
  refine m_iald E hM (isO_at ho 3 rfl).2 hv dX7_onward_99 ?_
  refine lv_iload hx hb dX7_onward_100 (lv_at hl 6 rfl) ?_
  refine m_ci (m_runSN E hM hS cs_X7_120 (c_X11_has  hw) rfl rfl ⟨Nat.le_of_ble_eq_true rfl, Nat.le_of_ble_eq_true rfl⟩ rfl hl.1 rfl (Nat.le_of_ble_eq_true rfl) dX7_onward_102 ⟨Nat.le_of_ble_eq_true rfl, Nat.le_of_ble_eq_true rfl⟩) hS (fun r9 u H locs hp hM hS => ?_)
  obtain ⟨b5, rfl, rfl, hw⟩ := hp
  refine lv_if_eq (tgt := 126) hx hb dX7_onward_105 (by decide) (fun cq => ?_) (fun cq => ?_)
  · have hw := hw.1 (bI_f cq)
    obtain ⟨x6, ex6⟩ : ∃ y : Int32, y = v7 + 1 := ⟨_, rfl⟩
    have hw := hw x6 ex6
    refine lv_iinc (v := x6) (lv' := [(7, .int x6), (8, .int x4), (0, .ref (ad bs o)), (2, .int a2), (3, .int a3), (5, .int v5), (6, .int v6)]) hx hb dX7_onward_126 hl (k := 6) rfl (by rw [ex6]; rfl) (by decide) rfl (fun ls hl => ?_)
    refine lv_goto (tgt := 51) hx hb dX7_onward_129 (by decide) ?_
    exact hk51 _ _ _ H locs ls  hw hM hS (lv_sub hl [2, 3, 4, 5, 6, 0] rfl)
  · have hw := hw.2 (bI_t cq)
    refine lv_iload hx hb dX7_onward_108 (lv_at hl 0 rfl) ?_
    refine lv_aload_n hx hb dX7_onward_110 rfl (lv_at hl 1 rfl) ?_
    refine m_getr E hM fs_X7_25 ho.1 (isO_at ho 2 rfl).1 dX7_onward_111 ?_
    refine lv_iload hx hb dX7_onward_114 (lv_at hl 5 rfl) ?_
    refine lv_iload hx hb dX7_onward_116 (lv_at hl 6 rfl) ?_
    refine lv_iadd hx hb dX7_onward_118 ?_
    obtain ⟨hv, hw⟩ := hw
    refine m_iald E hM (isO_at ho 2 rfl).2 hv dX7_onward_119 ?_
    refine lv_icmp_ne (tgt := 126) hx hb dX7_onward_120 (by decide) (fun cq => ?_) (fun cq => ?_)
    · have hw := hw.1 cq
      obtain ⟨x7, ex7⟩ : ∃ y : Int32, y = v7 + 1 := ⟨_, rfl⟩
      have hw := hw x7 ex7
      refine lv_iinc (v := x7) (lv' := [(7, .int x7), (8, .int x4), (0, .ref (ad bs o)), (2, .int a2), (3, .int a3), (5, .int v5), (6, .int v6)]) hx hb dX7_onward_126 hl (k := 6) rfl (by rw [ex7]; rfl) (by decide) rfl (fun ls hl => ?_)
      refine lv_goto (tgt := 51) hx hb dX7_onward_129 (by decide) ?_
      exact hk51 _ _ _ H locs ls  hw hM hS (lv_sub hl [2, 3, 4, 5, 6, 0] rfl)
    · have hw := hw.2 cq
      refine lv_iload hx hb dX7_onward_123 (lv_at hl 6 rfl) ?_
      exact m_reti hx hb hr hlk hM hS ⟨rfl, hw⟩ dX7_onward_125
def w_X7_onward_51 (I : mI) (o : Nat) (a1 : Nat) (a2 : Int32) (a3 : Int32) (post : Int32 → Prop) (v5 : Int32) (v6 : Int32) (v7 : Int32) : Prop := ∀ ZZ : (Int32 → Int32 → Int32 → Prop), (∀ (v5 : Int32) (v6 : Int32) (v7 : Int32), ((v5 < v7 → post (-1)) ∧ (¬ v5 < v7 → vp_in ((a2 * 24) + a3) 1464 ∧ (¬ v7 = a3 → vp_in (v6 + v7) 1464 ∧ (w_X7_onward_89 I o a1 a2 a3 post ZZ) v5 v6 v7 (I (o + 3) ((a2 * 24) + a3).toNatClampNeg) (I (o + 2) (v6 + v7).toNatClampNeg)) ∧ (v7 = a3 → (w_X7_onward_89 I o a1 a2 a3 post ZZ) v5 v6 v7 (I (o + 3) ((a2 * 24) + a3).toNatClampNeg) 0))) → ZZ v5 v6 v7) → ZZ v5 v6 v7
set_option maxRecDepth 100000 in
set_option maxHeartbeats 4000000 in
theorem s_X7_onward_51 {p : Program} {l : Launch} {e : Env} {s : State} {m : MethodId} {args : Array Value} {below : List Frame} {meth : Method} {c : Code} {D : va_G} {cA : Nat → ClassId} {Z : mZ} {bs : Ad} {n : Nat} {K : mK} {R : mR} {I : mI} {L : mL} (E : Ev p s m args c cX7_onward 9 RX7 D cA Z bs) (hr : meth.sig.returnType = (some .int)) (hlk : meth.locks = false) {o : Nat} {a1 : Nat} {a2 : Int32} {a3 : Int32} (ho : isX7 K R o) (ha1 : isX3 K R a1) {post : Int32 → Prop} {v5 : Int32} {v6 : Int32} {v7 : Int32} {H : Heap} {locs : List Loc} {ls : Array Slot} (hw : w_X7_onward_51 I o a1 a2 a3 post v5 v6 v7) (hM : mm D cA bs (n, K, R, I, L) H) (hS : va_S (Ab bs) s.heap H locs) (hl : lv_has ls 9 [(0, .ref (ad bs o)), (2, .int a2), (3, .int a3), (5, .int v5), (6, .int v6), (7, .int v7)]) : W p l e ({ frames := 1, cells := 0, slots := 0, locals := 40 } : Room) s m args below meth c H locs 0 0 (MQ below (QI D cA bs (fun r u => u = (n, K, R, I, L) ∧ post r)) args s 0 0 (Ab bs)) (F0 m 51 ls []) := by
  have hx := E.1.1
  have hb := E.1.2.1
  refine hw (fun v5 v6 v7 => ∀ (H : Heap) (locs : List Loc) (ls : Array Slot), mm D cA bs (n, K, R, I, L) H → va_S (Ab bs) s.heap H locs → lv_has ls 9 [(0, .ref (ad bs o)), (2, .int a2), (3, .int a3), (5, .int v5), (6, .int v6), (7, .int v7)] → W p l e ({ frames := 1, cells := 0, slots := 0, locals := 40 } : Room) s m args below meth c H locs 0 0 (MQ below (QI D cA bs (fun r u => u = (n, K, R, I, L) ∧ post r)) args s 0 0 (Ab bs)) (F0 m 51 ls [])) ?_ H locs ls hM hS hl
  clear hw hM hS hl
  intro v5 v6 v7 hw H locs ls hM hS hl
  refine lv_iload hx hb dX7_onward_51 (lv_at hl 5 rfl) ?_
  refine lv_iload hx hb dX7_onward_53 (lv_at hl 3 rfl) ?_
  refine lv_icmp_gt (tgt := 132) hx hb dX7_onward_55 (by decide) (fun cq => ?_) (fun cq => ?_)
  · have hw := hw.1 cq
    refine lv_iconst (v := (-1)) hx hb dX7_onward_132 (by decide) ?_
    exact m_reti hx hb hr hlk hM hS ⟨rfl, hw⟩ dX7_onward_133
  · have hw := hw.2 cq
    refine lv_aload_n hx hb dX7_onward_58 rfl (lv_at hl 0 rfl) ?_
    refine m_getr E hM fs_X7_25 ho.1 (isO_at ho 2 rfl).1 dX7_onward_59 ?_
    refine lv_iload_n hx hb dX7_onward_62 rfl (lv_at hl 1 rfl) ?_
    refine lv_bipush (v := 24) hx hb dX7_onward_63 (by decide) ?_
    refine lv_imul hx hb dX7_onward_65 ?_
    refine lv_iload_n hx hb dX7_onward_66 rfl (lv_at hl 2 rfl) ?_
    refine lv_iadd hx hb dX7_onward_67 ?_
    obtain ⟨hv, hw⟩ := hw
    refine m_iald E hM (isO_at ho 2 rfl).2 hv dX7_onward_68 ?_
    refine lv_iload hx hb dX7_onward_69 (lv_at hl 5 rfl) ?_
    refine lv_iload_n hx hb dX7_onward_71 rfl (lv_at hl 2 rfl) ?_
    refine lv_icmp_ne (tgt := 79) hx hb dX7_onward_72 (by decide) (fun cq => ?_) (fun cq => ?_)
    · have hw := hw.1 cq
      refine lv_aload_n hx hb dX7_onward_79 rfl (lv_at hl 0 rfl) ?_
      refine m_getr E hM fs_X7_22 ho.1 (isO_at ho 1 rfl).1 dX7_onward_80 ?_
      refine lv_iload hx hb dX7_onward_83 (lv_at hl 4 rfl) ?_
      refine lv_iload hx hb dX7_onward_85 (lv_at hl 5 rfl) ?_
      refine lv_iadd hx hb dX7_onward_87 ?_
      obtain ⟨hv, hw⟩ := hw
      refine m_iald E hM (isO_at ho 1 rfl).2 hv dX7_onward_88 ?_
      exact s_X7_onward_89 E hr hlk ho ha1 (fun v5 v6 v7 H locs ls  hw hM hS hl => hw H locs ls  hM hS hl)  hw hM hS (lv_sub hl [0, 1, 2, 3, 4, 5] rfl)
    · have hw := hw.2 cq
      refine lv_iconst (v := 0) hx hb dX7_onward_75 (by decide) ?_
      refine lv_goto (tgt := 89) hx hb dX7_onward_76 (by decide) ?_
      exact s_X7_onward_89 E hr hlk ho ha1 (fun v5 v6 v7 H locs ls  hw hM hS hl => hw H locs ls  hM hS hl)  hw hM hS (lv_sub hl [0, 1, 2, 3, 4, 5] rfl)
def w_X7_onward (I : mI) (o : Nat) (a1 : Nat) (a2 : Int32) (a3 : Int32) (post : Int32 → Prop) : Prop := vp_in (I o 4) 6 ∧ ∀ x1, x1 = (imax 0 (a3 - (I (a1 + 6) (I o 4).toNatClampNeg))) → vp_in (I o 4) 6 ∧ ∀ x2, x2 = (imin ((I a1 0) - 1) (a3 + (I (a1 + 6) (I o 4).toNatClampNeg))) → ∀ x3, x3 = ((a2 + 1) * 24) → (w_X7_onward_51 I o a1 a2 a3 post) x2 x3 x1
set_option maxRecDepth 100000 in
set_option maxHeartbeats 4000000 in
theorem c_X7_onward {l : Launch} {D : va_G} {cA : Nat → ClassId} {Z : mZ} {bs : Ad} {n : Nat} {K : mK} {R : mR} {I : mI} {L : mL} {o : Nat} {a1 : Nat} {a2 : Int32} {a3 : Int32} {post : Int32 → Prop} (ho : isX7 K R o) (ha1 : isX3 K R a1) (hw : w_X7_onward I o a1 a2 a3 post) : Met l yX7_onward (.code yX7_onward cX7_onward 9 (some .int) :: gw) ({ frames := 1, cells := 0, slots := 0, locals := 40 } : Room) (PreM D cA Z bs (n, K, R, I, L) [.ref (ad bs o), .ref (ad bs a1), .int a2, .int a3]) (QI D cA bs (fun r u => u = (n, K, R, I, L) ∧ post r)) 0 0 (Ab bs) := by
  refine m_met (by decide) (Nat.le_of_ble_eq_true rfl) (fun p e s m below meth c ls E hr hlk hM hS hl => ?_)
  have E : Ev p s m _ c cX7_onward 9 RX7 D cA Z bs := E
  have hl : lv_has ls 9 [(0, .ref (ad bs o)), (1, .ref (ad bs a1)), (2, .int a2), (3, .int a3)] := hl
  have hx := E.1.1
  have hb := E.1.2.1
  generalize hHe : s.heap = H at hM ⊢
  have hS : va_S (Ab bs) s.heap H [] := by rw [← hHe]; exact va_S.rf
  clear hHe
  refine lv_iconst (v := 0) hx hb dX7_onward_0 (by decide) ?_
  refine lv_iload_n hx hb dX7_onward_1 rfl (lv_at hl 3 rfl) ?_
  refine lv_aload_n hx hb dX7_onward_2 rfl (lv_at hl 1 rfl) ?_
  refine m_getr E hM fs_X7_106 ha1.1 (isO_at ha1 5 rfl).1 dX7_onward_3 ?_
  refine lv_aload_n hx hb dX7_onward_6 rfl (lv_at hl 0 rfl) ?_
  refine m_geti E hM fs_X7_31 ho.1 dX7_onward_7 ?_
  obtain ⟨hv, hw⟩ := hw
  refine m_iald E hM (isO_at ha1 5 rfl).2 hv dX7_onward_10 ?_
  refine lv_isub hx hb dX7_onward_11 ?_
  refine m_max E ml_X7_109 hl.1 (Nat.le_of_ble_eq_true rfl) (Nat.le_of_ble_eq_true rfl) (Nat.le_of_ble_eq_true rfl) (Nat.le_of_ble_eq_true rfl) dX7_onward_12 ?_
  refine lv_topi (fun x1 ex1 => ?_)
  have hw := hw x1 ex1
  refine lv_istore (lv' := [(4, .int x1), (0, .ref (ad bs o)), (1, .ref (ad bs a1)), (2, .int a2), (3, .int a3)]) hx hb dX7_onward_15 hl (by decide) rfl (fun ls hl => ?_)
  refine lv_aload_n hx hb dX7_onward_17 rfl (lv_at hl 2 rfl) ?_
  refine m_geti E hM fs_X7_54 ha1.1 dX7_onward_18 ?_
  refine lv_iconst (v := 1) hx hb dX7_onward_21 (by decide) ?_
  refine lv_isub hx hb dX7_onward_22 ?_
  refine lv_iload_n hx hb dX7_onward_23 rfl (lv_at hl 4 rfl) ?_
  refine lv_aload_n hx hb dX7_onward_24 rfl (lv_at hl 2 rfl) ?_
  refine m_getr E hM fs_X7_106 ha1.1 (isO_at ha1 5 rfl).1 dX7_onward_25 ?_
  refine lv_aload_n hx hb dX7_onward_28 rfl (lv_at hl 1 rfl) ?_
  refine m_geti E hM fs_X7_31 ho.1 dX7_onward_29 ?_
  obtain ⟨hv, hw⟩ := hw
  refine m_iald E hM (isO_at ha1 5 rfl).2 hv dX7_onward_32 ?_
  refine lv_iadd hx hb dX7_onward_33 ?_
  refine m_min E ml_X7_114 hl.1 (Nat.le_of_ble_eq_true rfl) (Nat.le_of_ble_eq_true rfl) (Nat.le_of_ble_eq_true rfl) (Nat.le_of_ble_eq_true rfl) dX7_onward_34 ?_
  refine lv_topi (fun x2 ex2 => ?_)
  have hw := hw x2 ex2
  refine lv_istore (lv' := [(5, .int x2), (4, .int x1), (0, .ref (ad bs o)), (1, .ref (ad bs a1)), (2, .int a2), (3, .int a3)]) hx hb dX7_onward_37 hl (by decide) rfl (fun ls hl => ?_)
  refine lv_iload_n hx hb dX7_onward_39 rfl (lv_at hl 4 rfl) ?_
  refine lv_iconst (v := 1) hx hb dX7_onward_40 (by decide) ?_
  refine lv_iadd hx hb dX7_onward_41 ?_
  refine lv_bipush (v := 24) hx hb dX7_onward_42 (by decide) ?_
  refine lv_imul hx hb dX7_onward_44 ?_
  refine lv_topi (fun x3 ex3 => ?_)
  have hw := hw x3 ex3
  refine lv_istore (lv' := [(6, .int x3), (5, .int x2), (4, .int x1), (0, .ref (ad bs o)), (1, .ref (ad bs a1)), (2, .int a2), (3, .int a3)]) hx hb dX7_onward_45 hl (by decide) rfl (fun ls hl => ?_)
  refine lv_iload hx hb dX7_onward_47 (lv_at hl 2 rfl) ?_
  refine lv_istore (lv' := [(7, .int x1), (6, .int x3), (5, .int x2), (4, .int x1), (0, .ref (ad bs o)), (1, .ref (ad bs a1)), (2, .int a2), (3, .int a3)]) hx hb dX7_onward_49 hl (by decide) rfl (fun ls hl => ?_)
  exact s_X7_onward_51 E hr hlk ho ha1  hw hM hS (lv_sub hl [4, 6, 7, 2, 1, 0] rfl)
theorem dX7_markUseful_0 : decode cX7_markUseful 0 = .ok (.aload_n 0, 1) := by decide +kernel
theorem dX7_markUseful_1 : decode cX7_markUseful 1 = .ok (.getfield 28, 3) := by decide +kernel
theorem dX7_markUseful_4 : decode cX7_markUseful 4 = .ok (.aload_n 0, 1) := by decide +kernel
theorem dX7_markUseful_5 : decode cX7_markUseful 5 = .ok (.getfield 9, 3) := by decide +kernel
theorem dX7_markUseful_8 : decode cX7_markUseful 8 = .ok (.iconst 1, 1) := by decide +kernel
theorem dX7_markUseful_9 : decode cX7_markUseful 9 = .ok (.aload_n 0, 1) := by decide +kernel
theorem dX7_markUseful_10 : decode cX7_markUseful 10 = .ok (.getfield 37, 3) := by decide +kernel
theorem dX7_markUseful_13 : decode cX7_markUseful 13 = .ok (.ishl, 1) := by decide +kernel
theorem dX7_markUseful_14 : decode cX7_markUseful 14 = .ok (.iastore, 1) := by decide +kernel
theorem dX7_markUseful_15 : decode cX7_markUseful 15 = .ok (.aload_n 0, 1) := by decide +kernel
theorem dX7_markUseful_16 : decode cX7_markUseful 16 = .ok (.getfield 9, 3) := by decide +kernel
theorem dX7_markUseful_19 : decode cX7_markUseful 19 = .ok (.iconst 1, 1) := by decide +kernel
theorem dX7_markUseful_20 : decode cX7_markUseful 20 = .ok (.isub, 1) := by decide +kernel
theorem dX7_markUseful_21 : decode cX7_markUseful 21 = .ok (.istore_n 2, 1) := by decide +kernel
theorem dX7_markUseful_22 : decode cX7_markUseful 22 = .ok (.iload_n 2, 1) := by decide +kernel
theorem dX7_markUseful_23 : decode cX7_markUseful 23 = .ok (.ifCond .lt 72, 3) := by decide +kernel
theorem dX7_markUseful_26 : decode cX7_markUseful 26 = .ok (.aload_n 0, 1) := by decide +kernel
theorem dX7_markUseful_27 : decode cX7_markUseful 27 = .ok (.getfield 28, 3) := by decide +kernel
theorem dX7_markUseful_30 : decode cX7_markUseful 30 = .ok (.iload_n 2, 1) := by decide +kernel
theorem dX7_markUseful_31 : decode cX7_markUseful 31 = .ok (.iconst 0, 1) := by decide +kernel
theorem dX7_markUseful_32 : decode cX7_markUseful 32 = .ok (.iastore, 1) := by decide +kernel
theorem dX7_markUseful_33 : decode cX7_markUseful 33 = .ok (.iconst 0, 1) := by decide +kernel
theorem dX7_markUseful_34 : decode cX7_markUseful 34 = .ok (.istore_n 3, 1) := by decide +kernel
theorem dX7_markUseful_35 : decode cX7_markUseful 35 = .ok (.iload_n 3, 1) := by decide +kernel
theorem dX7_markUseful_36 : decode cX7_markUseful 36 = .ok (.aload_n 1, 1) := by decide +kernel
theorem dX7_markUseful_37 : decode cX7_markUseful 37 = .ok (.getfield 54, 3) := by decide +kernel
theorem dX7_markUseful_40 : decode cX7_markUseful 40 = .ok (.if_icmp .ge 49, 3) := by decide +kernel
theorem dX7_markUseful_43 : decode cX7_markUseful 43 = .ok (.aload_n 0, 1) := by decide +kernel
theorem dX7_markUseful_44 : decode cX7_markUseful 44 = .ok (.getfield 25, 3) := by decide +kernel
theorem dX7_markUseful_47 : decode cX7_markUseful 47 = .ok (.iload_n 2, 1) := by decide +kernel
theorem dX7_markUseful_48 : decode cX7_markUseful 48 = .ok (.bipush 24, 2) := by decide +kernel
theorem dX7_markUseful_50 : decode cX7_markUseful 50 = .ok (.imul, 1) := by decide +kernel
theorem dX7_markUseful_51 : decode cX7_markUseful 51 = .ok (.iload_n 3, 1) := by decide +kernel
theorem dX7_markUseful_52 : decode cX7_markUseful 52 = .ok (.iadd, 1) := by decide +kernel
theorem dX7_markUseful_53 : decode cX7_markUseful 53 = .ok (.iaload, 1) := by decide +kernel
theorem dX7_markUseful_54 : decode cX7_markUseful 54 = .ok (.sipush 1000, 3) := by decide +kernel
theorem dX7_markUseful_57 : decode cX7_markUseful 57 = .ok (.if_icmp .ge 26, 3) := by decide +kernel
theorem dX7_markUseful_60 : decode cX7_markUseful 60 = .ok (.aload_n 0, 1) := by decide +kernel
theorem dX7_markUseful_61 : decode cX7_markUseful 61 = .ok (.aload_n 1, 1) := by decide +kernel
theorem dX7_markUseful_62 : decode cX7_markUseful 62 = .ok (.iload_n 2, 1) := by decide +kernel
theorem dX7_markUseful_63 : decode cX7_markUseful 63 = .ok (.iload_n 3, 1) := by decide +kernel
theorem dX7_markUseful_64 : decode cX7_markUseful 64 = .ok (.invokevirtual 117, 3) := by decide +kernel
theorem dX7_markUseful_67 : decode cX7_markUseful 67 = .ok (.iconst (-1), 1) := by decide +kernel
theorem dX7_markUseful_68 : decode cX7_markUseful 68 = .ok (.if_icmp .eq 15, 3) := by decide +kernel
theorem dX7_markUseful_71 : decode cX7_markUseful 71 = .ok (.aload_n 0, 1) := by decide +kernel
theorem dX7_markUseful_72 : decode cX7_markUseful 72 = .ok (.getfield 28, 3) := by decide +kernel
theorem dX7_markUseful_75 : decode cX7_markUseful 75 = .ok (.iload_n 2, 1) := by decide +kernel
theorem dX7_markUseful_76 : decode cX7_markUseful 76 = .ok (.dup2, 1) := by decide +kernel
theorem dX7_markUseful_77 : decode cX7_markUseful 77 = .ok (.iaload, 1) := by decide +kernel
theorem dX7_markUseful_78 : decode cX7_markUseful 78 = .ok (.iconst 1, 1) := by decide +kernel
theorem dX7_markUseful_79 : decode cX7_markUseful 79 = .ok (.iload_n 3, 1) := by decide +kernel
theorem dX7_markUseful_80 : decode cX7_markUseful 80 = .ok (.ishl, 1) := by decide +kernel
theorem dX7_markUseful_81 : decode cX7_markUseful 81 = .ok (.ior, 1) := by decide +kernel
theorem dX7_markUseful_82 : decode cX7_markUseful 82 = .ok (.iastore, 1) := by decide +kernel
theorem dX7_markUseful_83 : decode cX7_markUseful 83 = .ok (.iinc 3 1, 3) := by decide +kernel
theorem dX7_markUseful_86 : decode cX7_markUseful 86 = .ok (.goto (-51), 3) := by decide +kernel
theorem dX7_markUseful_89 : decode cX7_markUseful 89 = .ok (.iinc 2 (-1), 3) := by decide +kernel
theorem dX7_markUseful_92 : decode cX7_markUseful 92 = .ok (.goto (-70), 3) := by decide +kernel
theorem dX7_markUseful_95 : decode cX7_markUseful 95 = .ok (.return_, 1) := by decide +kernel
def w_X7_markUseful_35 (o : Nat) (a1 : Nat) (post : mI → Prop) (k22 : mI → Int32 → Prop) (I : mI) (v2 : Int32) (v3 : Int32) : Prop := ∀ ZZ : (mI → Int32 → Int32 → Prop), (∀ (I : mI) (v2 : Int32) (v3 : Int32), (((I a1 0) ≤ v3 → ∀ x4, x4 = v2 + (-1) → k22 I x4) ∧ (¬ (I a1 0) ≤ v3 → vp_in ((v2 * 24) + v3) 1464 ∧ (1000 ≤ (I (o + 3) ((v2 * 24) + v3).toNatClampNeg) → ∀ x5, x5 = v3 + 1 → ZZ I v2 x5) ∧ (¬ 1000 ≤ (I (o + 3) ((v2 * 24) + v3).toNatClampNeg) → w_X7_onward I o a1 v2 v3 (fun r6 => (r6 = (-1) → ∀ x7, x7 = v3 + 1 → ZZ I v2 x7) ∧ (¬ r6 = (-1) → vp_in v2 61 ∧ vp_in v2 61 ∧ ∀ I8, I8 = up2 I (o + 4) v2.toNatClampNeg ((I (o + 4) v2.toNatClampNeg) ||| (1 <<< (v3 &&& 31))) → ∀ x9, x9 = v3 + 1 → ZZ I8 v2 x9))))) → ZZ I v2 v3) → ZZ I v2 v3
set_option maxRecDepth 100000 in
set_option maxHeartbeats 4000000 in
theorem s_X7_markUseful_35 {p : Program} {l : Launch} {e : Env} {s : State} {m : MethodId} {args : Array Value} {below : List Frame} {meth : Method} {c : Code} {D : va_G} {cA : Nat → ClassId} {Z : mZ} {bs : Ad} {n : Nat} {K : mK} {R : mR} {L : mL} (E : Ev p s m args c cX7_markUseful 4 RX7 D cA Z bs) (hr : meth.sig.returnType = none) (hlk : meth.locks = false) {o : Nat} {a1 : Nat} (ho : isX7 K R o) (ha1 : isX3 K R a1) {post : mI → Prop} {k22 : mI → Int32 → Prop} (hk22 : ∀ (I : mI) (v2 : Int32) (H : Heap) (locs : List Loc) (ls : Array Slot), k22 I v2 → mm D cA bs (n, K, R, I, L) H → va_S (Ab bs) s.heap H locs → lv_has ls 4 [(0, .ref (ad bs o)), (1, .ref (ad bs a1)), (2, .int v2)] → W p l e ({ frames := 2, cells := 0, slots := 0, locals := 68 } : Room) s m args below meth c H locs 0 0 (MQ below (QV D cA bs (fun u => ∃ I', u = (n, K, R, I', L) ∧ post I')) args s 0 0 (Ab bs)) (F0 m 22 ls [])) {I : mI} {v2 : Int32} {v3 : Int32} {H : Heap} {locs : List Loc} {ls : Array Slot} (hw : w_X7_markUseful_35 o a1 post k22 I v2 v3) (hM : mm D cA bs (n, K, R, I, L) H) (hS : va_S (Ab bs) s.heap H locs) (hl : lv_has ls 4 [(0, .ref (ad bs o)), (1, .ref (ad bs a1)), (2, .int v2), (3, .int v3)]) : W p l e ({ frames := 2, cells := 0, slots := 0, locals := 68 } : Room) s m args below meth c H locs 0 0 (MQ below (QV D cA bs (fun u => ∃ I', u = (n, K, R, I', L) ∧ post I')) args s 0 0 (Ab bs)) (F0 m 35 ls []) := by
  have hx := E.1.1
  have hb := E.1.2.1
  refine hw (fun I v2 v3 => ∀ (H : Heap) (locs : List Loc) (ls : Array Slot), mm D cA bs (n, K, R, I, L) H → va_S (Ab bs) s.heap H locs → lv_has ls 4 [(0, .ref (ad bs o)), (1, .ref (ad bs a1)), (2, .int v2), (3, .int v3)] → W p l e ({ frames := 2, cells := 0, slots := 0, locals := 68 } : Room) s m args below meth c H locs 0 0 (MQ below (QV D cA bs (fun u => ∃ I', u = (n, K, R, I', L) ∧ post I')) args s 0 0 (Ab bs)) (F0 m 35 ls [])) ?_ H locs ls hM hS hl
  clear hw hM hS hl
  intro I v2 v3 hw H locs ls hM hS hl
  refine lv_iload_n hx hb dX7_markUseful_35 rfl (lv_at hl 3 rfl) ?_
  refine lv_aload_n hx hb dX7_markUseful_36 rfl (lv_at hl 1 rfl) ?_
  refine m_geti E hM fs_X7_54 ha1.1 dX7_markUseful_37 ?_
  refine lv_icmp_ge (tgt := 89) hx hb dX7_markUseful_40 (by decide) (fun cq => ?_) (fun cq => ?_)
  · have hw := hw.1 cq
    obtain ⟨x4, ex4⟩ : ∃ y : Int32, y = v2 + (-1) := ⟨_, rfl⟩
    have hw := hw x4 ex4
    refine lv_iinc (v := x4) (lv' := [(2, .int x4), (0, .ref (ad bs o)), (1, .ref (ad bs a1)), (3, .int v3)]) hx hb dX7_markUseful_89 hl (k := 2) rfl (by rw [ex4]; rfl) (by decide) rfl (fun ls hl => ?_)
    refine lv_goto (tgt := 22) hx hb dX7_markUseful_92 (by decide) ?_
    exact hk22 _ _ H locs ls  hw hM hS (lv_sub hl [1, 2, 0] rfl)
  · have hw := hw.2 cq
    refine lv_aload_n hx hb dX7_markUseful_43 rfl (lv_at hl 0 rfl) ?_
    refine m_getr E hM fs_X7_25 ho.1 (isO_at ho 2 rfl).1 dX7_markUseful_44 ?_
    refine lv_iload_n hx hb dX7_markUseful_47 rfl (lv_at hl 2 rfl) ?_
    refine lv_bipush (v := 24) hx hb dX7_markUseful_48 (by decide) ?_
    refine lv_imul hx hb dX7_markUseful_50 ?_
    refine lv_iload_n hx hb dX7_markUseful_51 rfl (lv_at hl 3 rfl) ?_
    refine lv_iadd hx hb dX7_markUseful_52 ?_
    obtain ⟨hv, hw⟩ := hw
    refine m_iald E hM (isO_at ho 2 rfl).2 hv dX7_markUseful_53 ?_
    refine lv_sipush (v := 1000) hx hb dX7_markUseful_54 (by decide) ?_
    refine lv_icmp_ge (tgt := 83) hx hb dX7_markUseful_57 (by decide) (fun cq => ?_) (fun cq => ?_)
    · have hw := hw.1 cq
      obtain ⟨x5, ex5⟩ : ∃ y : Int32, y = v3 + 1 := ⟨_, rfl⟩
      have hw := hw x5 ex5
      refine lv_iinc (v := x5) (lv' := [(3, .int x5), (0, .ref (ad bs o)), (1, .ref (ad bs a1)), (2, .int v2)]) hx hb dX7_markUseful_83 hl (k := 3) rfl (by rw [ex5]; rfl) (by decide) rfl (fun ls hl => ?_)
      refine lv_goto (tgt := 35) hx hb dX7_markUseful_86 (by decide) ?_
      exact hw H locs ls  hM hS (lv_sub hl [1, 2, 3, 0] rfl)
    · have hw := hw.2 cq
      refine lv_aload_n hx hb dX7_markUseful_60 rfl (lv_at hl 0 rfl) ?_
      refine lv_aload_n hx hb dX7_markUseful_61 rfl (lv_at hl 1 rfl) ?_
      refine lv_iload_n hx hb dX7_markUseful_62 rfl (lv_at hl 2 rfl) ?_
      refine lv_iload_n hx hb dX7_markUseful_63 rfl (lv_at hl 3 rfl) ?_
      refine m_ci (m_runV E hM hS cs_X7_117 ho.1 (by decide) rfl rfl (c_X7_onward ho ha1 hw) rfl rfl ⟨Nat.le_of_ble_eq_true rfl, Nat.le_of_ble_eq_true rfl⟩ rfl hl.1 rfl (Nat.le_of_ble_eq_true rfl) dX7_markUseful_64 ⟨Nat.le_of_ble_eq_true rfl, Nat.le_of_ble_eq_true rfl⟩) hS (fun r6 u H locs hp hM hS => ?_)
      obtain ⟨rfl, hw⟩ := hp
      refine lv_iconst (v := (-1)) hx hb dX7_markUseful_67 (by decide) ?_
      refine lv_icmp_eq (tgt := 83) hx hb dX7_markUseful_68 (by decide) (fun cq => ?_) (fun cq => ?_)
      · have hw := hw.1 cq
        obtain ⟨x7, ex7⟩ : ∃ y : Int32, y = v3 + 1 := ⟨_, rfl⟩
        have hw := hw x7 ex7
        refine lv_iinc (v := x7) (lv' := [(3, .int x7), (0, .ref (ad bs o)), (1, .ref (ad bs a1)), (2, .int v2)]) hx hb dX7_markUseful_83 hl (k := 3) rfl (by rw [ex7]; rfl) (by decide) rfl (fun ls hl => ?_)
        refine lv_goto (tgt := 35) hx hb dX7_markUseful_86 (by decide) ?_
        exact hw H locs ls  hM hS (lv_sub hl [1, 2, 3, 0] rfl)
      · have hw := hw.2 cq
        refine lv_aload_n hx hb dX7_markUseful_71 rfl (lv_at hl 0 rfl) ?_
        refine m_getr E hM fs_X7_28 ho.1 (isO_at ho 3 rfl).1 dX7_markUseful_72 ?_
        refine lv_iload_n hx hb dX7_markUseful_75 rfl (lv_at hl 2 rfl) ?_
        refine lv_dup2_11 hx hb dX7_markUseful_76 rfl rfl ?_
        obtain ⟨hv, hw⟩ := hw
        refine m_iald E hM (isO_at ho 3 rfl).2 hv dX7_markUseful_77 ?_
        refine lv_iconst (v := 1) hx hb dX7_markUseful_78 (by decide) ?_
        refine lv_iload_n hx hb dX7_markUseful_79 rfl (lv_at hl 3 rfl) ?_
        refine lv_ishl hx hb dX7_markUseful_80 ?_
        refine lv_ior hx hb dX7_markUseful_81 ?_
        obtain ⟨hv, hw⟩ := hw
        refine m_iast E hM hS (isO_at ho 3 rfl).2 hv dX7_markUseful_82 (fun I8 H locs eI8 hM hS => ?_)
        have hw := hw I8 eI8
        obtain ⟨x9, ex9⟩ : ∃ y : Int32, y = v3 + 1 := ⟨_, rfl⟩
        have hw := hw x9 ex9
        refine lv_iinc (v := x9) (lv' := [(3, .int x9), (0, .ref (ad bs o)), (1, .ref (ad bs a1)), (2, .int v2)]) hx hb dX7_markUseful_83 hl (k := 3) rfl (by rw [ex9]; rfl) (by decide) rfl (fun ls hl => ?_)
        refine lv_goto (tgt := 35) hx hb dX7_markUseful_86 (by decide) ?_
        exact hw H locs ls  hM hS (lv_sub hl [1, 2, 3, 0] rfl)
def w_X7_markUseful_22 (o : Nat) (a1 : Nat) (post : mI → Prop) (I : mI) (v2 : Int32) : Prop := ∀ ZZ : (mI → Int32 → Prop), (∀ (I : mI) (v2 : Int32), ((v2 < 0 → post I) ∧ (¬ v2 < 0 → vp_in v2 61 ∧ ∀ I3, I3 = up2 I (o + 4) v2.toNatClampNeg 0 → (w_X7_markUseful_35 o a1 post ZZ) I3 v2 0)) → ZZ I v2) → ZZ I v2
set_option maxRecDepth 100000 in
set_option maxHeartbeats 4000000 in
theorem s_X7_markUseful_22 {p : Program} {l : Launch} {e : Env} {s : State} {m : MethodId} {args : Array Value} {below : List Frame} {meth : Method} {c : Code} {D : va_G} {cA : Nat → ClassId} {Z : mZ} {bs : Ad} {n : Nat} {K : mK} {R : mR} {L : mL} (E : Ev p s m args c cX7_markUseful 4 RX7 D cA Z bs) (hr : meth.sig.returnType = none) (hlk : meth.locks = false) {o : Nat} {a1 : Nat} (ho : isX7 K R o) (ha1 : isX3 K R a1) {post : mI → Prop} {I : mI} {v2 : Int32} {H : Heap} {locs : List Loc} {ls : Array Slot} (hw : w_X7_markUseful_22 o a1 post I v2) (hM : mm D cA bs (n, K, R, I, L) H) (hS : va_S (Ab bs) s.heap H locs) (hl : lv_has ls 4 [(0, .ref (ad bs o)), (1, .ref (ad bs a1)), (2, .int v2)]) : W p l e ({ frames := 2, cells := 0, slots := 0, locals := 68 } : Room) s m args below meth c H locs 0 0 (MQ below (QV D cA bs (fun u => ∃ I', u = (n, K, R, I', L) ∧ post I')) args s 0 0 (Ab bs)) (F0 m 22 ls []) := by
  have hx := E.1.1
  have hb := E.1.2.1
  refine hw (fun I v2 => ∀ (H : Heap) (locs : List Loc) (ls : Array Slot), mm D cA bs (n, K, R, I, L) H → va_S (Ab bs) s.heap H locs → lv_has ls 4 [(0, .ref (ad bs o)), (1, .ref (ad bs a1)), (2, .int v2)] → W p l e ({ frames := 2, cells := 0, slots := 0, locals := 68 } : Room) s m args below meth c H locs 0 0 (MQ below (QV D cA bs (fun u => ∃ I', u = (n, K, R, I', L) ∧ post I')) args s 0 0 (Ab bs)) (F0 m 22 ls [])) ?_ H locs ls hM hS hl
  clear hw hM hS hl
  intro I v2 hw H locs ls hM hS hl
  refine lv_iload_n hx hb dX7_markUseful_22 rfl (lv_at hl 2 rfl) ?_
  refine lv_if_lt (tgt := 95) hx hb dX7_markUseful_23 (by decide) (fun cq => ?_) (fun cq => ?_)
  · have hw := hw.1 cq
    exact m_retv hx hb hr hlk hM hS ⟨_, rfl, hw⟩ dX7_markUseful_95
  · have hw := hw.2 cq
    refine lv_aload_n hx hb dX7_markUseful_26 rfl (lv_at hl 0 rfl) ?_
    refine m_getr E hM fs_X7_28 ho.1 (isO_at ho 3 rfl).1 dX7_markUseful_27 ?_
    refine lv_iload_n hx hb dX7_markUseful_30 rfl (lv_at hl 2 rfl) ?_
    refine lv_iconst (v := 0) hx hb dX7_markUseful_31 (by decide) ?_
    obtain ⟨hv, hw⟩ := hw
    refine m_iast E hM hS (isO_at ho 3 rfl).2 hv dX7_markUseful_32 (fun I3 H locs eI3 hM hS => ?_)
    have hw := hw I3 eI3
    refine lv_iconst (v := 0) hx hb dX7_markUseful_33 (by decide) ?_
    refine lv_istore_n (lv' := [(3, .int 0), (0, .ref (ad bs o)), (1, .ref (ad bs a1)), (2, .int v2)]) hx hb dX7_markUseful_34 rfl hl (by decide) rfl (fun ls hl => ?_)
    exact s_X7_markUseful_35 E hr hlk ho ha1 (fun I v2 H locs ls  hw hM hS hl => hw H locs ls  hM hS hl)  hw hM hS (lv_sub hl [1, 2, 3, 0] rfl)
def w_X7_markUseful (I : mI) (o : Nat) (a1 : Nat) (post : mI → Prop) : Prop := vp_in (I o 1) 61 ∧ ∀ I1, I1 = up2 I (o + 4) ((I o 1).toNatClampNeg) (1 <<< ((I o 6) &&& 31)) → ∀ x2, x2 = ((I1 o 1) - 1) → (w_X7_markUseful_22 o a1 post) I1 x2
set_option maxRecDepth 100000 in
set_option maxHeartbeats 4000000 in
theorem c_X7_markUseful {l : Launch} {D : va_G} {cA : Nat → ClassId} {Z : mZ} {bs : Ad} {n : Nat} {K : mK} {R : mR} {I : mI} {L : mL} {o : Nat} {a1 : Nat} {post : mI → Prop} (ho : isX7 K R o) (ha1 : isX3 K R a1) (hw : w_X7_markUseful I o a1 post) : Met l yX7_markUseful (.code yX7_markUseful cX7_markUseful 4 none :: gw) ({ frames := 2, cells := 0, slots := 0, locals := 68 } : Room) (PreM D cA Z bs (n, K, R, I, L) [.ref (ad bs o), .ref (ad bs a1)]) (QV D cA bs (fun u => ∃ I', u = (n, K, R, I', L) ∧ post I')) 0 0 (Ab bs) := by
  refine m_met (by decide) (Nat.le_of_ble_eq_true rfl) (fun p e s m below meth c ls E hr hlk hM hS hl => ?_)
  have E : Ev p s m _ c cX7_markUseful 4 RX7 D cA Z bs := E
  have hl : lv_has ls 4 [(0, .ref (ad bs o)), (1, .ref (ad bs a1))] := hl
  have hx := E.1.1
  have hb := E.1.2.1
  generalize hHe : s.heap = H at hM ⊢
  have hS : va_S (Ab bs) s.heap H [] := by rw [← hHe]; exact va_S.rf
  clear hHe
  refine lv_aload_n hx hb dX7_markUseful_0 rfl (lv_at hl 0 rfl) ?_
  refine m_getr E hM fs_X7_28 ho.1 (isO_at ho 3 rfl).1 dX7_markUseful_1 ?_
  refine lv_aload_n hx hb dX7_markUseful_4 rfl (lv_at hl 0 rfl) ?_
  refine m_geti E hM fs_X7_9 ho.1 dX7_markUseful_5 ?_
  refine lv_iconst (v := 1) hx hb dX7_markUseful_8 (by decide) ?_
  refine lv_aload_n hx hb dX7_markUseful_9 rfl (lv_at hl 0 rfl) ?_
  refine m_geti E hM fs_X7_37 ho.1 dX7_markUseful_10 ?_
  refine lv_ishl hx hb dX7_markUseful_13 ?_
  obtain ⟨hv, hw⟩ := hw
  refine m_iast E hM hS (isO_at ho 3 rfl).2 hv dX7_markUseful_14 (fun I1 H locs eI1 hM hS => ?_)
  have hw := hw I1 eI1
  refine lv_aload_n hx hb dX7_markUseful_15 rfl (lv_at hl 0 rfl) ?_
  refine m_geti E hM fs_X7_9 ho.1 dX7_markUseful_16 ?_
  refine lv_iconst (v := 1) hx hb dX7_markUseful_19 (by decide) ?_
  refine lv_isub hx hb dX7_markUseful_20 ?_
  refine lv_topi (fun x2 ex2 => ?_)
  have hw := hw x2 ex2
  refine lv_istore_n (lv' := [(2, .int x2), (0, .ref (ad bs o)), (1, .ref (ad bs a1))]) hx hb dX7_markUseful_21 rfl hl (by decide) rfl (fun ls hl => ?_)
  exact s_X7_markUseful_22 E hr hlk ho ha1  hw hM hS (lv_sub hl [1, 2, 0] rfl)
theorem dX7_layRow_0 : decode cX7_layRow 0 = .ok (.aload_n 0, 1) := by decide +kernel
theorem dX7_layRow_1 : decode cX7_layRow 1 = .ok (.getfield 34, 3) := by decide +kernel
theorem dX7_layRow_4 : decode cX7_layRow 4 = .ok (.istore_n 2, 1) := by decide +kernel
theorem dX7_layRow_5 : decode cX7_layRow 5 = .ok (.iconst 0, 1) := by decide +kernel
theorem dX7_layRow_6 : decode cX7_layRow 6 = .ok (.istore_n 3, 1) := by decide +kernel
theorem dX7_layRow_7 : decode cX7_layRow 7 = .ok (.iload_n 3, 1) := by decide +kernel
theorem dX7_layRow_8 : decode cX7_layRow 8 = .ok (.aload_n 0, 1) := by decide +kernel
theorem dX7_layRow_9 : decode cX7_layRow 9 = .ok (.getfield 9, 3) := by decide +kernel
theorem dX7_layRow_12 : decode cX7_layRow 12 = .ok (.if_icmp .ge 38, 3) := by decide +kernel
theorem dX7_layRow_15 : decode cX7_layRow 15 = .ok (.aload_n 0, 1) := by decide +kernel
theorem dX7_layRow_16 : decode cX7_layRow 16 = .ok (.aload_n 1, 1) := by decide +kernel
theorem dX7_layRow_17 : decode cX7_layRow 17 = .ok (.iload_n 3, 1) := by decide +kernel
theorem dX7_layRow_18 : decode cX7_layRow 18 = .ok (.iload_n 2, 1) := by decide +kernel
theorem dX7_layRow_19 : decode cX7_layRow 19 = .ok (.invokevirtual 117, 3) := by decide +kernel
theorem dX7_layRow_22 : decode cX7_layRow 22 = .ok (.istore 4, 2) := by decide +kernel
theorem dX7_layRow_24 : decode cX7_layRow 24 = .ok (.iload 4, 2) := by decide +kernel
theorem dX7_layRow_26 : decode cX7_layRow 26 = .ok (.iconst (-1), 1) := by decide +kernel
theorem dX7_layRow_27 : decode cX7_layRow 27 = .ok (.if_icmp .ne 7, 3) := by decide +kernel
theorem dX7_layRow_30 : decode cX7_layRow 30 = .ok (.iload_n 2, 1) := by decide +kernel
theorem dX7_layRow_31 : decode cX7_layRow 31 = .ok (.goto 5, 3) := by decide +kernel
theorem dX7_layRow_34 : decode cX7_layRow 34 = .ok (.iload 4, 2) := by decide +kernel
theorem dX7_layRow_36 : decode cX7_layRow 36 = .ok (.istore_n 2, 1) := by decide +kernel
theorem dX7_layRow_37 : decode cX7_layRow 37 = .ok (.aload_n 0, 1) := by decide +kernel
theorem dX7_layRow_38 : decode cX7_layRow 38 = .ok (.getfield 15, 3) := by decide +kernel
theorem dX7_layRow_41 : decode cX7_layRow 41 = .ok (.iload_n 3, 1) := by decide +kernel
theorem dX7_layRow_42 : decode cX7_layRow 42 = .ok (.iload_n 2, 1) := by decide +kernel
theorem dX7_layRow_43 : decode cX7_layRow 43 = .ok (.iastore, 1) := by decide +kernel
theorem dX7_layRow_44 : decode cX7_layRow 44 = .ok (.iinc 3 1, 3) := by decide +kernel
theorem dX7_layRow_47 : decode cX7_layRow 47 = .ok (.goto (-40), 3) := by decide +kernel
theorem dX7_layRow_50 : decode cX7_layRow 50 = .ok (.return_, 1) := by decide +kernel
def w_X7_layRow_36 (o : Nat) (a1 : Nat) (post : mI → Prop) (k7 : mI → Int32 → Int32 → Prop) (I : mI) (v3 : Int32) (s0 : Int32) : Prop := vp_in v3 60 ∧ ∀ I3, I3 = up2 I (o + 1) v3.toNatClampNeg s0 → ∀ x4, x4 = v3 + 1 → k7 I3 s0 x4
set_option maxRecDepth 100000 in
set_option maxHeartbeats 4000000 in
theorem s_X7_layRow_36 {p : Program} {l : Launch} {e : Env} {s : State} {m : MethodId} {args : Array Value} {below : List Frame} {meth : Method} {c : Code} {D : va_G} {cA : Nat → ClassId} {Z : mZ} {bs : Ad} {n : Nat} {K : mK} {R : mR} {L : mL} (E : Ev p s m args c cX7_layRow 5 RX7 D cA Z bs) (hr : meth.sig.returnType = none) (hlk : meth.locks = false) {o : Nat} {a1 : Nat} (ho : isX7 K R o) (ha1 : isX3 K R a1) {post : mI → Prop} {k7 : mI → Int32 → Int32 → Prop} (hk7 : ∀ (I : mI) (v2 : Int32) (v3 : Int32) (H : Heap) (locs : List Loc) (ls : Array Slot), k7 I v2 v3 → mm D cA bs (n, K, R, I, L) H → va_S (Ab bs) s.heap H locs → lv_has ls 5 [(0, .ref (ad bs o)), (1, .ref (ad bs a1)), (2, .int v2), (3, .int v3)] → W p l e ({ frames := 2, cells := 0, slots := 0, locals := 68 } : Room) s m args below meth c H locs 0 0 (MQ below (QV D cA bs (fun u => ∃ I', u = (n, K, R, I', L) ∧ post I')) args s 0 0 (Ab bs)) (F0 m 7 ls [])) {I : mI} {v3 : Int32} {s0 : Int32} {H : Heap} {locs : List Loc} {ls : Array Slot} (hw : w_X7_layRow_36 o a1 post k7 I v3 s0) (hM : mm D cA bs (n, K, R, I, L) H) (hS : va_S (Ab bs) s.heap H locs) (hl : lv_has ls 5 [(0, .ref (ad bs o)), (1, .ref (ad bs a1)), (3, .int v3)]) : W p l e ({ frames := 2, cells := 0, slots := 0, locals := 68 } : Room) s m args below meth c H locs 0 0 (MQ below (QV D cA bs (fun u => ∃ I', u = (n, K, R, I', L) ∧ post I')) args s 0 0 (Ab bs)) (F0 m 36 ls [.int s0]) := by
  have hx := E.1.1
  have hb := E.1.2.1
  refine lv_istore_n (lv' := [(2, .int s0), (0, .ref (ad bs o)), (1, .ref (ad bs a1)), (3, .int v3)]) hx hb dX7_layRow_36 rfl hl (by decide) rfl (fun ls hl => ?_)
  refine lv_aload_n hx hb dX7_layRow_37 rfl (lv_at hl 1 rfl) ?_
  refine m_getr E hM fs_X7_15 ho.1 (isO_at ho 0 rfl).1 dX7_layRow_38 ?_
  refine lv_iload_n hx hb dX7_layRow_41 rfl (lv_at hl 3 rfl) ?_
  refine lv_iload_n hx hb dX7_layRow_42 rfl (lv_at hl 0 rfl) ?_
  obtain ⟨hv, hw⟩ := hw
  refine m_iast E hM hS (isO_at ho 0 rfl).2 hv dX7_layRow_43 (fun I3 H locs eI3 hM hS => ?_)
  have hw := hw I3 eI3
  obtain ⟨x4, ex4⟩ : ∃ y : Int32, y = v3 + 1 := ⟨_, rfl⟩
  have hw := hw x4 ex4
  refine lv_iinc (v := x4) (lv' := [(3, .int x4), (2, .int s0), (0, .ref (ad bs o)), (1, .ref (ad bs a1))]) hx hb dX7_layRow_44 hl (k := 3) rfl (by rw [ex4]; rfl) (by decide) rfl (fun ls hl => ?_)
  refine lv_goto (tgt := 7) hx hb dX7_layRow_47 (by decide) ?_
  exact hk7 _ _ _ H locs ls  hw hM hS (lv_sub hl [2, 3, 1, 0] rfl)
def w_X7_layRow_7 (o : Nat) (a1 : Nat) (post : mI → Prop) (I : mI) (v2 : Int32) (v3 : Int32) : Prop := ∀ ZZ : (mI → Int32 → Int32 → Prop), (∀ (I : mI) (v2 : Int32) (v3 : Int32), (((I o 1) ≤ v3 → post I) ∧ (¬ (I o 1) ≤ v3 → w_X7_onward I o a1 v3 v2 (fun r2 => (¬ r2 = (-1) → (w_X7_layRow_36 o a1 post ZZ) I v3 r2) ∧ (r2 = (-1) → (w_X7_layRow_36 o a1 post ZZ) I v3 v2)))) → ZZ I v2 v3) → ZZ I v2 v3
set_option maxRecDepth 100000 in
set_option maxHeartbeats 4000000 in
theorem s_X7_layRow_7 {p : Program} {l : Launch} {e : Env} {s : State} {m : MethodId} {args : Array Value} {below : List Frame} {meth : Method} {c : Code} {D : va_G} {cA : Nat → ClassId} {Z : mZ} {bs : Ad} {n : Nat} {K : mK} {R : mR} {L : mL} (E : Ev p s m args c cX7_layRow 5 RX7 D cA Z bs) (hr : meth.sig.returnType = none) (hlk : meth.locks = false) {o : Nat} {a1 : Nat} (ho : isX7 K R o) (ha1 : isX3 K R a1) {post : mI → Prop} {I : mI} {v2 : Int32} {v3 : Int32} {H : Heap} {locs : List Loc} {ls : Array Slot} (hw : w_X7_layRow_7 o a1 post I v2 v3) (hM : mm D cA bs (n, K, R, I, L) H) (hS : va_S (Ab bs) s.heap H locs) (hl : lv_has ls 5 [(0, .ref (ad bs o)), (1, .ref (ad bs a1)), (2, .int v2), (3, .int v3)]) : W p l e ({ frames := 2, cells := 0, slots := 0, locals := 68 } : Room) s m args below meth c H locs 0 0 (MQ below (QV D cA bs (fun u => ∃ I', u = (n, K, R, I', L) ∧ post I')) args s 0 0 (Ab bs)) (F0 m 7 ls []) := by
  have hx := E.1.1
  have hb := E.1.2.1
  refine hw (fun I v2 v3 => ∀ (H : Heap) (locs : List Loc) (ls : Array Slot), mm D cA bs (n, K, R, I, L) H → va_S (Ab bs) s.heap H locs → lv_has ls 5 [(0, .ref (ad bs o)), (1, .ref (ad bs a1)), (2, .int v2), (3, .int v3)] → W p l e ({ frames := 2, cells := 0, slots := 0, locals := 68 } : Room) s m args below meth c H locs 0 0 (MQ below (QV D cA bs (fun u => ∃ I', u = (n, K, R, I', L) ∧ post I')) args s 0 0 (Ab bs)) (F0 m 7 ls [])) ?_ H locs ls hM hS hl
  clear hw hM hS hl
  intro I v2 v3 hw H locs ls hM hS hl
  refine lv_iload_n hx hb dX7_layRow_7 rfl (lv_at hl 3 rfl) ?_
  refine lv_aload_n hx hb dX7_layRow_8 rfl (lv_at hl 0 rfl) ?_
  refine m_geti E hM fs_X7_9 ho.1 dX7_layRow_9 ?_
  refine lv_icmp_ge (tgt := 50) hx hb dX7_layRow_12 (by decide) (fun cq => ?_) (fun cq => ?_)
  · have hw := hw.1 cq
    exact m_retv hx hb hr hlk hM hS ⟨_, rfl, hw⟩ dX7_layRow_50
  · have hw := hw.2 cq
    refine lv_aload_n hx hb dX7_layRow_15 rfl (lv_at hl 0 rfl) ?_
    refine lv_aload_n hx hb dX7_layRow_16 rfl (lv_at hl 1 rfl) ?_
    refine lv_iload_n hx hb dX7_layRow_17 rfl (lv_at hl 3 rfl) ?_
    refine lv_iload_n hx hb dX7_layRow_18 rfl (lv_at hl 2 rfl) ?_
    refine m_ci (m_runV E hM hS cs_X7_117 ho.1 (by decide) rfl rfl (c_X7_onward ho ha1 hw) rfl rfl ⟨Nat.le_of_ble_eq_true rfl, Nat.le_of_ble_eq_true rfl⟩ rfl hl.1 rfl (Nat.le_of_ble_eq_true rfl) dX7_layRow_19 ⟨Nat.le_of_ble_eq_true rfl, Nat.le_of_ble_eq_true rfl⟩) hS (fun r2 u H locs hp hM hS => ?_)
    obtain ⟨rfl, hw⟩ := hp
    refine lv_istore (lv' := [(4, .int r2), (0, .ref (ad bs o)), (1, .ref (ad bs a1)), (2, .int v2), (3, .int v3)]) hx hb dX7_layRow_22 hl (by decide) rfl (fun ls hl => ?_)
    refine lv_iload hx hb dX7_layRow_24 (lv_at hl 0 rfl) ?_
    refine lv_iconst (v := (-1)) hx hb dX7_layRow_26 (by decide) ?_
    refine lv_icmp_ne (tgt := 34) hx hb dX7_layRow_27 (by decide) (fun cq => ?_) (fun cq => ?_)
    · have hw := hw.1 cq
      refine lv_iload hx hb dX7_layRow_34 (lv_at hl 0 rfl) ?_
      exact s_X7_layRow_36 E hr hlk ho ha1 (fun I v2 v3 H locs ls  hw hM hS hl => hw H locs ls  hM hS hl)  hw hM hS (lv_sub hl [1, 2, 4] rfl)
    · have hw := hw.2 cq
      refine lv_iload_n hx hb dX7_layRow_30 rfl (lv_at hl 3 rfl) ?_
      refine lv_goto (tgt := 36) hx hb dX7_layRow_31 (by decide) ?_
      exact s_X7_layRow_36 E hr hlk ho ha1 (fun I v2 v3 H locs ls  hw hM hS hl => hw H locs ls  hM hS hl)  hw hM hS (lv_sub hl [1, 2, 4] rfl)
def w_X7_layRow (I : mI) (o : Nat) (a1 : Nat) (post : mI → Prop) : Prop := ∀ x1, x1 = (I o 5) → (w_X7_layRow_7 o a1 post) I x1 0
set_option maxRecDepth 100000 in
set_option maxHeartbeats 4000000 in
theorem c_X7_layRow {l : Launch} {D : va_G} {cA : Nat → ClassId} {Z : mZ} {bs : Ad} {n : Nat} {K : mK} {R : mR} {I : mI} {L : mL} {o : Nat} {a1 : Nat} {post : mI → Prop} (ho : isX7 K R o) (ha1 : isX3 K R a1) (hw : w_X7_layRow I o a1 post) : Met l yX7_layRow (.code yX7_layRow cX7_layRow 5 none :: gw) ({ frames := 2, cells := 0, slots := 0, locals := 68 } : Room) (PreM D cA Z bs (n, K, R, I, L) [.ref (ad bs o), .ref (ad bs a1)]) (QV D cA bs (fun u => ∃ I', u = (n, K, R, I', L) ∧ post I')) 0 0 (Ab bs) := by
  refine m_met (by decide) (Nat.le_of_ble_eq_true rfl) (fun p e s m below meth c ls E hr hlk hM hS hl => ?_)
  have E : Ev p s m _ c cX7_layRow 5 RX7 D cA Z bs := E
  have hl : lv_has ls 5 [(0, .ref (ad bs o)), (1, .ref (ad bs a1))] := hl
  have hx := E.1.1
  have hb := E.1.2.1
  generalize hHe : s.heap = H at hM ⊢
  have hS : va_S (Ab bs) s.heap H [] := by rw [← hHe]; exact va_S.rf
  clear hHe
  refine lv_aload_n hx hb dX7_layRow_0 rfl (lv_at hl 0 rfl) ?_
  refine m_geti E hM fs_X7_34 ho.1 dX7_layRow_1 ?_
  refine lv_topi (fun x1 ex1 => ?_)
  have hw := hw x1 ex1
  refine lv_istore_n (lv' := [(2, .int x1), (0, .ref (ad bs o)), (1, .ref (ad bs a1))]) hx hb dX7_layRow_4 rfl hl (by decide) rfl (fun ls hl => ?_)
  refine lv_iconst (v := 0) hx hb dX7_layRow_5 (by decide) ?_
  refine lv_istore_n (lv' := [(3, .int 0), (2, .int x1), (0, .ref (ad bs o)), (1, .ref (ad bs a1))]) hx hb dX7_layRow_6 rfl hl (by decide) rfl (fun ls hl => ?_)
  exact s_X7_layRow_7 E hr hlk ho ha1  hw hM hS (lv_sub hl [2, 3, 1, 0] rfl)
