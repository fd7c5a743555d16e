theorem dX12_sound_0 : decode cX12_sound 0 = .ok (.aload_n 0, 1) := by decide +kernel
theorem dX12_sound_1 : decode cX12_sound 1 = .ok (.iconst 1, 1) := by decide +kernel
theorem dX12_sound_2 : decode cX12_sound 2 = .ok (.iload_n 1, 1) := by decide +kernel
theorem dX12_sound_3 : decode cX12_sound 3 = .ok (.invokevirtual 183, 3) := by decide +kernel
theorem dX12_sound_6 : decode cX12_sound 6 = .ok (.ifCond .ne 6, 3) := by decide +kernel
theorem dX12_sound_9 : decode cX12_sound 9 = .ok (.bipush (-2), 2) := by decide +kernel
theorem dX12_sound_11 : decode cX12_sound 11 = .ok (.ireturn, 1) := by decide +kernel
theorem dX12_sound_12 : decode cX12_sound 12 = .ok (.aload_n 0, 1) := by decide +kernel
theorem dX12_sound_13 : decode cX12_sound 13 = .ok (.iconst 1, 1) := by decide +kernel
theorem dX12_sound_14 : decode cX12_sound 14 = .ok (.iload_n 1, 1) := by decide +kernel
theorem dX12_sound_15 : decode cX12_sound 15 = .ok (.invokestatic 196, 3) := by decide +kernel
theorem dX12_sound_18 : decode cX12_sound 18 = .ok (.putfield 373, 3) := by decide +kernel
theorem dX12_sound_21 : decode cX12_sound 21 = .ok (.iload_n 2, 1) := by decide +kernel
theorem dX12_sound_22 : decode cX12_sound 22 = .ok (.iconst (-1), 1) := by decide +kernel
theorem dX12_sound_23 : decode cX12_sound 23 = .ok (.if_icmp .ne 17, 3) := by decide +kernel
theorem dX12_sound_26 : decode cX12_sound 26 = .ok (.iload_n 3, 1) := by decide +kernel
theorem dX12_sound_27 : decode cX12_sound 27 = .ok (.ifCond .ne 10, 3) := by decide +kernel
theorem dX12_sound_30 : decode cX12_sound 30 = .ok (.aload_n 0, 1) := by decide +kernel
theorem dX12_sound_31 : decode cX12_sound 31 = .ok (.invokevirtual 376, 3) := by decide +kernel
theorem dX12_sound_34 : decode cX12_sound 34 = .ok (.goto 5, 3) := by decide +kernel
theorem dX12_sound_37 : decode cX12_sound 37 = .ok (.bipush (-2), 2) := by decide +kernel
theorem dX12_sound_39 : decode cX12_sound 39 = .ok (.ireturn, 1) := by decide +kernel
theorem dX12_sound_40 : decode cX12_sound 40 = .ok (.iload_n 2, 1) := by decide +kernel
theorem dX12_sound_41 : decode cX12_sound 41 = .ok (.iconst 0, 1) := by decide +kernel
theorem dX12_sound_42 : decode cX12_sound 42 = .ok (.aload_n 0, 1) := by decide +kernel
theorem dX12_sound_43 : decode cX12_sound 43 = .ok (.invokevirtual 376, 3) := by decide +kernel
theorem dX12_sound_46 : decode cX12_sound 46 = .ok (.iconst 1, 1) := by decide +kernel
theorem dX12_sound_47 : decode cX12_sound 47 = .ok (.isub, 1) := by decide +kernel
theorem dX12_sound_48 : decode cX12_sound 48 = .ok (.invokestatic 133, 3) := by decide +kernel
theorem dX12_sound_51 : decode cX12_sound 51 = .ok (.ifCond .eq 21, 3) := by decide +kernel
theorem dX12_sound_54 : decode cX12_sound 54 = .ok (.iload_n 3, 1) := by decide +kernel
theorem dX12_sound_55 : decode cX12_sound 55 = .ok (.iconst 0, 1) := by decide +kernel
theorem dX12_sound_56 : decode cX12_sound 56 = .ok (.iconst 3, 1) := by decide +kernel
theorem dX12_sound_57 : decode cX12_sound 57 = .ok (.invokestatic 133, 3) := by decide +kernel
theorem dX12_sound_60 : decode cX12_sound 60 = .ok (.ifCond .eq 12, 3) := by decide +kernel
theorem dX12_sound_63 : decode cX12_sound 63 = .ok (.aload_n 0, 1) := by decide +kernel
theorem dX12_sound_64 : decode cX12_sound 64 = .ok (.iload_n 2, 1) := by decide +kernel
theorem dX12_sound_65 : decode cX12_sound 65 = .ok (.iload_n 3, 1) := by decide +kernel
theorem dX12_sound_66 : decode cX12_sound 66 = .ok (.invokevirtual 379, 3) := by decide +kernel
theorem dX12_sound_69 : decode cX12_sound 69 = .ok (.goto 5, 3) := by decide +kernel
theorem dX12_sound_72 : decode cX12_sound 72 = .ok (.bipush (-2), 2) := by decide +kernel
theorem dX12_sound_74 : decode cX12_sound 74 = .ok (.ireturn, 1) := by decide +kernel
def w_X12_sound (I : mI) (o : Nat) (a1 : Int32) (a2 : Int32) (a3 : Int32) (post : Int32 → mI → Prop) : Prop := w_X12_isOf I o 1 a1 (fun b1 => (b1 = true → w_X12_placeOf 1 a1 (fun r2 => ∀ I3, I3 = up2 I o 44 r2 → (¬ a2 = (-1) → w_X12_sounds I3 o (fun r4 => w_X12_isIn a2 0 (r4 - 1) (fun b5 => (b5 = false → post (-2) I3) ∧ (b5 = true → w_X12_isIn a3 0 3 (fun b6 => (b6 = false → post (-2) I3) ∧ (b6 = true → w_X12_soundOf I3 o a2 a3 (fun r7 => post r7 I3))))))) ∧ (a2 = (-1) → (¬ a3 = 0 → post (-2) I3) ∧ (a3 = 0 → w_X12_sounds I3 o (fun r8 => post r8 I3))))) ∧ (b1 = false → post (-2) I))
set_option maxRecDepth 100000 in
set_option maxHeartbeats 4000000 in
theorem c_X12_sound {l : Launch} {D : va_G} {cA : Nat → ClassId} {Z : mZ} {bs : Ad} {n : Nat} {K : mK} {R : mR} {I : mI} {L : mL} {o : Nat} {a1 : Int32} {a2 : Int32} {a3 : Int32} {post : Int32 → mI → Prop} (ho : isX12 K R o) (hw : w_X12_sound I o a1 a2 a3 post) : Met l yX12_sound (.code yX12_sound cX12_sound 4 (some .int) :: gw) ({ frames := 2, cells := 0, slots := 0, locals := 44 } : Room) (PreM D cA Z bs (n, K, R, I, L) [.ref (ad bs o), .int a1, .int a2, .int a3]) (QI D cA bs (fun r u => ∃ I', u = (n, K, R, I', L) ∧ post r I')) 0 0 (Ab bs) := by
  refine m_met (by decide) (Nat.le_of_ble_eq_true rfl) (fun p e s m below meth c ls E hr hlk hM hS hl => ?_)
  have E : Ev p s m _ c cX12_sound 4 RX12 D cA Z bs := E
  have hl : lv_has ls 4 [(0, .ref (ad bs o)), (1, .int a1), (2, .int a2), (3, .int a3)] := hl
  have hx := E.1.1
  have hb := E.1.2.1
  generalize hHe : s.heap = H at hM ⊢
  have hS : va_S (Ab bs) s.heap H [] := by rw [← hHe]; exact va_S.rf
  clear hHe
  refine lv_aload_n hx hb dX12_sound_0 rfl (lv_at hl 0 rfl) ?_
  refine lv_iconst (v := 1) hx hb dX12_sound_1 (by decide) ?_
  refine lv_iload_n hx hb dX12_sound_2 rfl (lv_at hl 1 rfl) ?_
  refine m_ci (m_runV E hM hS cs_X12_183 ho.1 (by decide) rfl rfl (c_X12_isOf ho hw) rfl rfl ⟨Nat.le_of_ble_eq_true rfl, Nat.le_of_ble_eq_true rfl⟩ rfl hl.1 rfl (Nat.le_of_ble_eq_true rfl) dX12_sound_3 ⟨Nat.le_of_ble_eq_true rfl, Nat.le_of_ble_eq_true rfl⟩) hS (fun r9 u H locs hp hM hS => ?_)
  obtain ⟨b1, rfl, rfl, hw⟩ := hp
  refine lv_if_ne (tgt := 12) hx hb dX12_sound_6 (by decide) (fun cq => ?_) (fun cq => ?_)
  · have hw := hw.1 (bI_t cq)
    refine lv_aload_n hx hb dX12_sound_12 rfl (lv_at hl 0 rfl) ?_
    refine lv_iconst (v := 1) hx hb dX12_sound_13 (by decide) ?_
    refine lv_iload_n hx hb dX12_sound_14 rfl (lv_at hl 1 rfl) ?_
    refine m_ci (m_runS E hM hS cs_X12_196 (c_X12_placeOf  hw) rfl rfl ⟨Nat.le_of_ble_eq_true rfl, Nat.le_of_ble_eq_true rfl⟩ rfl hl.1 rfl (Nat.le_of_ble_eq_true rfl) dX12_sound_15 ⟨Nat.le_of_ble_eq_true rfl, Nat.le_of_ble_eq_true rfl⟩) hS (fun r2 u H locs hp hM hS => ?_)
    obtain ⟨rfl, hw⟩ := hp
    refine m_puti E hM hS fp_X12_373 ho.1 rfl rfl dX12_sound_18 (fun I3 H locs eI3 hM hS => ?_)
    have hw := hw I3 eI3
    refine lv_iload_n hx hb dX12_sound_21 rfl (lv_at hl 2 rfl) ?_
    refine lv_iconst (v := (-1)) hx hb dX12_sound_22 (by decide) ?_
    refine lv_icmp_ne (tgt := 40) hx hb dX12_sound_23 (by decide) (fun cq => ?_) (fun cq => ?_)
    · have hw := hw.1 cq
      refine lv_iload_n hx hb dX12_sound_40 rfl (lv_at hl 2 rfl) ?_
      refine lv_iconst (v := 0) hx hb dX12_sound_41 (by decide) ?_
      refine lv_aload_n hx hb dX12_sound_42 rfl (lv_at hl 0 rfl) ?_
      refine m_ci (m_runV E hM hS cs_X12_376 ho.1 (by decide) rfl rfl (c_X12_sounds ho hw) rfl rfl ⟨Nat.le_of_ble_eq_true rfl, Nat.le_of_ble_eq_true rfl⟩ rfl hl.1 rfl (Nat.le_of_ble_eq_true rfl) dX12_sound_43 ⟨Nat.le_of_ble_eq_true rfl, Nat.le_of_ble_eq_true rfl⟩) hS (fun r4 u H locs hp hM hS => ?_)
      obtain ⟨rfl, hw⟩ := hp
      refine lv_iconst (v := 1) hx hb dX12_sound_46 (by decide) ?_
      refine lv_isub hx hb dX12_sound_47 ?_
      refine m_ci (m_runS E hM hS cs_X12_133 (c_X12_isIn  hw) rfl rfl ⟨Nat.le_of_ble_eq_true rfl, Nat.le_of_ble_eq_true rfl⟩ rfl hl.1 rfl (Nat.le_of_ble_eq_true rfl) dX12_sound_48 ⟨Nat.le_of_ble_eq_true rfl, Nat.le_of_ble_eq_true rfl⟩) hS (fun r9 u H locs hp hM hS => ?_)
      obtain ⟨b5, rfl, rfl, hw⟩ := hp
      refine lv_if_eq (tgt := 72) hx hb dX12_sound_51 (by decide) (fun cq => ?_) (fun cq => ?_)
      · have hw := hw.1 (bI_f cq)
        refine lv_bipush (v := (-2)) hx hb dX12_sound_72 (by decide) ?_
        exact m_reti hx hb hr hlk hM hS ⟨_, rfl, hw⟩ dX12_sound_74
      · have hw := hw.2 (bI_t cq)
        refine lv_iload_n hx hb dX12_sound_54 rfl (lv_at hl 3 rfl) ?_
        refine lv_iconst (v := 0) hx hb dX12_sound_55 (by decide) ?_
        refine lv_iconst (v := 3) hx hb dX12_sound_56 (by decide) ?_
        refine m_ci (m_runS E hM hS cs_X12_133 (c_X12_isIn  hw) rfl rfl ⟨Nat.le_of_ble_eq_true rfl, Nat.le_of_ble_eq_true rfl⟩ rfl hl.1 rfl (Nat.le_of_ble_eq_true rfl) dX12_sound_57 ⟨Nat.le_of_ble_eq_true rfl, Nat.le_of_ble_eq_true rfl⟩) hS (fun r9 u H locs hp hM hS => ?_)
        obtain ⟨b6, rfl, rfl, hw⟩ := hp
        refine lv_if_eq (tgt := 72) hx hb dX12_sound_60 (by decide) (fun cq => ?_) (fun cq => ?_)
        · have hw := hw.1 (bI_f cq)
          refine lv_bipush (v := (-2)) hx hb dX12_sound_72 (by decide) ?_
          exact m_reti hx hb hr hlk hM hS ⟨_, rfl, hw⟩ dX12_sound_74
        · have hw := hw.2 (bI_t cq)
          refine lv_aload_n hx hb dX12_sound_63 rfl (lv_at hl 0 rfl) ?_
          refine lv_iload_n hx hb dX12_sound_64 rfl (lv_at hl 2 rfl) ?_
          refine lv_iload_n hx hb dX12_sound_65 rfl (lv_at hl 3 rfl) ?_
          refine m_ci (m_runV E hM hS cs_X12_379 ho.1 (by decide) rfl rfl (c_X12_soundOf ho hw) rfl rfl ⟨Nat.le_of_ble_eq_true rfl, Nat.le_of_ble_eq_true rfl⟩ rfl hl.1 rfl (Nat.le_of_ble_eq_true rfl) dX12_sound_66 ⟨Nat.le_of_ble_eq_true rfl, Nat.le_of_ble_eq_true rfl⟩) hS (fun r7 u H locs hp hM hS => ?_)
          obtain ⟨rfl, hw⟩ := hp
          refine lv_goto (tgt := 74) hx hb dX12_sound_69 (by decide) ?_
          exact m_reti hx hb hr hlk hM hS ⟨_, rfl, hw⟩ dX12_sound_74
    · have hw := hw.2 cq
      refine lv_iload_n hx hb dX12_sound_26 rfl (lv_at hl 3 rfl) ?_
      refine lv_if_ne (tgt := 37) hx hb dX12_sound_27 (by decide) (fun cq => ?_) (fun cq => ?_)
      · have hw := hw.1 cq
        refine lv_bipush (v := (-2)) hx hb dX12_sound_37 (by decide) ?_
        exact m_reti hx hb hr hlk hM hS ⟨_, rfl, hw⟩ dX12_sound_39
      · have hw := hw.2 cq
        refine lv_aload_n hx hb dX12_sound_30 rfl (lv_at hl 0 rfl) ?_
        refine m_ci (m_runV E hM hS cs_X12_376 ho.1 (by decide) rfl rfl (c_X12_sounds ho hw) rfl rfl ⟨Nat.le_of_ble_eq_true rfl, Nat.le_of_ble_eq_true rfl⟩ rfl hl.1 rfl (Nat.le_of_ble_eq_true rfl) dX12_sound_31 ⟨Nat.le_of_ble_eq_true rfl, Nat.le_of_ble_eq_true rfl⟩) hS (fun r8 u H locs hp hM hS => ?_)
        obtain ⟨rfl, hw⟩ := hp
        refine lv_goto (tgt := 39) hx hb dX12_sound_34 (by decide) ?_
        exact m_reti hx hb hr hlk hM hS ⟨_, rfl, hw⟩ dX12_sound_39
  · have hw := hw.2 (bI_f cq)
    refine lv_bipush (v := (-2)) hx hb dX12_sound_9 (by decide) ?_
    exact m_reti hx hb hr hlk hM hS ⟨_, rfl, hw⟩ dX12_sound_11
theorem dX12_areRead_0 : decode cX12_areRead 0 = .ok (.aload_n 0, 1) := by decide +kernel
theorem dX12_areRead_1 : decode cX12_areRead 1 = .ok (.iload_n 1, 1) := by decide +kernel
theorem dX12_areRead_2 : decode cX12_areRead 2 = .ok (.invokevirtual 214, 3) := by decide +kernel
theorem dX12_areRead_5 : decode cX12_areRead 5 = .ok (.ifCond .eq 12, 3) := by decide +kernel
theorem dX12_areRead_8 : decode cX12_areRead 8 = .ok (.aload_n 0, 1) := by decide +kernel
theorem dX12_areRead_9 : decode cX12_areRead 9 = .ok (.iconst 1, 1) := by decide +kernel
theorem dX12_areRead_10 : decode cX12_areRead 10 = .ok (.iload_n 2, 1) := by decide +kernel
theorem dX12_areRead_11 : decode cX12_areRead 11 = .ok (.invokevirtual 183, 3) := by decide +kernel
theorem dX12_areRead_14 : decode cX12_areRead 14 = .ok (.ifCond .ne 5, 3) := by decide +kernel
theorem dX12_areRead_17 : decode cX12_areRead 17 = .ok (.iconst 0, 1) := by decide +kernel
theorem dX12_areRead_18 : decode cX12_areRead 18 = .ok (.ireturn, 1) := by decide +kernel
theorem dX12_areRead_19 : decode cX12_areRead 19 = .ok (.aload_n 0, 1) := by decide +kernel
theorem dX12_areRead_20 : decode cX12_areRead 20 = .ok (.iconst 1, 1) := by decide +kernel
theorem dX12_areRead_21 : decode cX12_areRead 21 = .ok (.iload_n 2, 1) := by decide +kernel
theorem dX12_areRead_22 : decode cX12_areRead 22 = .ok (.invokestatic 196, 3) := by decide +kernel
theorem dX12_areRead_25 : decode cX12_areRead 25 = .ok (.putfield 373, 3) := by decide +kernel
theorem dX12_areRead_28 : decode cX12_areRead 28 = .ok (.iconst 1, 1) := by decide +kernel
theorem dX12_areRead_29 : decode cX12_areRead 29 = .ok (.ireturn, 1) := by decide +kernel
def w_X12_areRead (I : mI) (o : Nat) (a1 : Int32) (a2 : Int32) (post : Bool → mI → Prop) : Prop := w_X12_isHouse I o a1 (fun b1 I2 => (b1 = false → post false I2) ∧ (b1 = true → w_X12_isOf I2 o 1 a2 (fun b3 => (b3 = true → w_X12_placeOf 1 a2 (fun r4 => ∀ I5, I5 = up2 I2 o 44 r4 → post true I5)) ∧ (b3 = false → post false I2))))
set_option maxRecDepth 100000 in
set_option maxHeartbeats 4000000 in
theorem c_X12_areRead {l : Launch} {D : va_G} {cA : Nat → ClassId} {Z : mZ} {bs : Ad} {n : Nat} {K : mK} {R : mR} {I : mI} {L : mL} {o : Nat} {a1 : Int32} {a2 : Int32} {post : Bool → mI → Prop} (ho : isX12 K R o) (hw : w_X12_areRead I o a1 a2 post) : Met l yX12_areRead (.code yX12_areRead cX12_areRead 3 (some .boolean) :: gw) ({ frames := 3, cells := 0, slots := 0, locals := 65 } : Room) (PreM D cA Z bs (n, K, R, I, L) [.ref (ad bs o), .int a1, .int a2]) (QI D cA bs (fun r u => ∃ b, r = bI b ∧ ∃ I', u = (n, K, R, I', L) ∧ post b I')) 0 0 (Ab bs) := by
  refine m_met (by decide) (Nat.le_of_ble_eq_true rfl) (fun p e s m below meth c ls E hr hlk hM hS hl => ?_)
  have E : Ev p s m _ c cX12_areRead 3 RX12 D cA Z bs := E
  have hl : lv_has ls 3 [(0, .ref (ad bs o)), (1, .int a1), (2, .int a2)] := hl
  have hx := E.1.1
  have hb := E.1.2.1
  generalize hHe : s.heap = H at hM ⊢
  have hS : va_S (Ab bs) s.heap H [] := by rw [← hHe]; exact va_S.rf
  clear hHe
  refine lv_aload_n hx hb dX12_areRead_0 rfl (lv_at hl 0 rfl) ?_
  refine lv_iload_n hx hb dX12_areRead_1 rfl (lv_at hl 1 rfl) ?_
  refine m_ci (m_runV E hM hS cs_X12_214 ho.1 (by decide) rfl rfl (c_X12_isHouse ho hw) rfl rfl ⟨Nat.le_of_ble_eq_true rfl, Nat.le_of_ble_eq_true rfl⟩ rfl hl.1 rfl (Nat.le_of_ble_eq_true rfl) dX12_areRead_2 ⟨Nat.le_of_ble_eq_true rfl, Nat.le_of_ble_eq_true rfl⟩) hS (fun r9 u H locs hp hM hS => ?_)
  obtain ⟨b1, rfl, I2, rfl, hw⟩ := hp
  refine lv_if_eq (tgt := 17) hx hb dX12_areRead_5 (by decide) (fun cq => ?_) (fun cq => ?_)
  · have hw := hw.1 (bI_f cq)
    refine lv_iconst (v := 0) hx hb dX12_areRead_17 (by decide) ?_
    exact m_retz hx hb hr hlk (Or.inl rfl) hM hS ⟨false, rfl, _, rfl, hw⟩ dX12_areRead_18
  · have hw := hw.2 (bI_t cq)
    refine lv_aload_n hx hb dX12_areRead_8 rfl (lv_at hl 0 rfl) ?_
    refine lv_iconst (v := 1) hx hb dX12_areRead_9 (by decide) ?_
    refine lv_iload_n hx hb dX12_areRead_10 rfl (lv_at hl 2 rfl) ?_
    refine m_ci (m_runV E hM hS cs_X12_183 ho.1 (by decide) rfl rfl (c_X12_isOf ho hw) rfl rfl ⟨Nat.le_of_ble_eq_true rfl, Nat.le_of_ble_eq_true rfl⟩ rfl hl.1 rfl (Nat.le_of_ble_eq_true rfl) dX12_areRead_11 ⟨Nat.le_of_ble_eq_true rfl, Nat.le_of_ble_eq_true rfl⟩) hS (fun r9 u H locs hp hM hS => ?_)
    obtain ⟨b3, rfl, rfl, hw⟩ := hp
    refine lv_if_ne (tgt := 19) hx hb dX12_areRead_14 (by decide) (fun cq => ?_) (fun cq => ?_)
    · have hw := hw.1 (bI_t cq)
      refine lv_aload_n hx hb dX12_areRead_19 rfl (lv_at hl 0 rfl) ?_
      refine lv_iconst (v := 1) hx hb dX12_areRead_20 (by decide) ?_
      refine lv_iload_n hx hb dX12_areRead_21 rfl (lv_at hl 2 rfl) ?_
      refine m_ci (m_runS E hM hS cs_X12_196 (c_X12_placeOf  hw) rfl rfl ⟨Nat.le_of_ble_eq_true rfl, Nat.le_of_ble_eq_true rfl⟩ rfl hl.1 rfl (Nat.le_of_ble_eq_true rfl) dX12_areRead_22 ⟨Nat.le_of_ble_eq_true rfl, Nat.le_of_ble_eq_true rfl⟩) hS (fun r4 u H locs hp hM hS => ?_)
      obtain ⟨rfl, hw⟩ := hp
      refine m_puti E hM hS fp_X12_373 ho.1 rfl rfl dX12_areRead_25 (fun I5 H locs eI5 hM hS => ?_)
      have hw := hw I5 eI5
      refine lv_iconst (v := 1) hx hb dX12_areRead_28 (by decide) ?_
      exact m_retz hx hb hr hlk (Or.inr rfl) hM hS ⟨true, rfl, _, rfl, hw⟩ dX12_areRead_29
    · have hw := hw.2 (bI_f cq)
      refine lv_iconst (v := 0) hx hb dX12_areRead_17 (by decide) ?_
      exact m_retz hx hb hr hlk (Or.inl rfl) hM hS ⟨false, rfl, _, rfl, hw⟩ dX12_areRead_18
theorem dX12_isEcho_0 : decode cX12_isEcho 0 = .ok (.iload_n 2, 1) := by decide +kernel
theorem dX12_isEcho_1 : decode cX12_isEcho 1 = .ok (.iconst (-1), 1) := by decide +kernel
theorem dX12_isEcho_2 : decode cX12_isEcho 2 = .ok (.if_icmp .ne 7, 3) := by decide +kernel
theorem dX12_isEcho_5 : decode cX12_isEcho 5 = .ok (.iconst 1, 1) := by decide +kernel
theorem dX12_isEcho_6 : decode cX12_isEcho 6 = .ok (.goto 4, 3) := by decide +kernel
theorem dX12_isEcho_9 : decode cX12_isEcho 9 = .ok (.iconst 0, 1) := by decide +kernel
theorem dX12_isEcho_10 : decode cX12_isEcho 10 = .ok (.istore 4, 2) := by decide +kernel
theorem dX12_isEcho_12 : decode cX12_isEcho 12 = .ok (.iconst 0, 1) := by decide +kernel
theorem dX12_isEcho_13 : decode cX12_isEcho 13 = .ok (.istore 5, 2) := by decide +kernel
theorem dX12_isEcho_15 : decode cX12_isEcho 15 = .ok (.iload 5, 2) := by decide +kernel
theorem dX12_isEcho_17 : decode cX12_isEcho 17 = .ok (.aload_n 0, 1) := by decide +kernel
theorem dX12_isEcho_18 : decode cX12_isEcho 18 = .ok (.invokevirtual 208, 3) := by decide +kernel
theorem dX12_isEcho_21 : decode cX12_isEcho 21 = .ok (.if_icmp .ge 51, 3) := by decide +kernel
theorem dX12_isEcho_24 : decode cX12_isEcho 24 = .ok (.iload 4, 2) := by decide +kernel
theorem dX12_isEcho_26 : decode cX12_isEcho 26 = .ok (.ifCond .ne 33, 3) := by decide +kernel
theorem dX12_isEcho_29 : decode cX12_isEcho 29 = .ok (.aload_n 0, 1) := by decide +kernel
theorem dX12_isEcho_30 : decode cX12_isEcho 30 = .ok (.iload 5, 2) := by decide +kernel
theorem dX12_isEcho_32 : decode cX12_isEcho 32 = .ok (.iconst 0, 1) := by decide +kernel
theorem dX12_isEcho_33 : decode cX12_isEcho 33 = .ok (.invokevirtual 241, 3) := by decide +kernel
theorem dX12_isEcho_36 : decode cX12_isEcho 36 = .ok (.iload_n 2, 1) := by decide +kernel
theorem dX12_isEcho_37 : decode cX12_isEcho 37 = .ok (.if_icmp .ne 26, 3) := by decide +kernel
theorem dX12_isEcho_40 : decode cX12_isEcho 40 = .ok (.aload_n 0, 1) := by decide +kernel
theorem dX12_isEcho_41 : decode cX12_isEcho 41 = .ok (.iload_n 1, 1) := by decide +kernel
theorem dX12_isEcho_42 : decode cX12_isEcho 42 = .ok (.aload_n 0, 1) := by decide +kernel
theorem dX12_isEcho_43 : decode cX12_isEcho 43 = .ok (.iload 5, 2) := by decide +kernel
theorem dX12_isEcho_45 : decode cX12_isEcho 45 = .ok (.iload_n 2, 1) := by decide +kernel
theorem dX12_isEcho_46 : decode cX12_isEcho 46 = .ok (.iload_n 3, 1) := by decide +kernel
theorem dX12_isEcho_47 : decode cX12_isEcho 47 = .ok (.invokevirtual 271, 3) := by decide +kernel
theorem dX12_isEcho_50 : decode cX12_isEcho 50 = .ok (.iconst 2, 1) := by decide +kernel
theorem dX12_isEcho_51 : decode cX12_isEcho 51 = .ok (.idiv, 1) := by decide +kernel
theorem dX12_isEcho_52 : decode cX12_isEcho 52 = .ok (.iload_n 3, 1) := by decide +kernel
theorem dX12_isEcho_53 : decode cX12_isEcho 53 = .ok (.invokevirtual 256, 3) := by decide +kernel
theorem dX12_isEcho_56 : decode cX12_isEcho 56 = .ok (.ifCond .eq 7, 3) := by decide +kernel
theorem dX12_isEcho_59 : decode cX12_isEcho 59 = .ok (.iconst 1, 1) := by decide +kernel
theorem dX12_isEcho_60 : decode cX12_isEcho 60 = .ok (.goto 4, 3) := by decide +kernel
theorem dX12_isEcho_63 : decode cX12_isEcho 63 = .ok (.iconst 0, 1) := by decide +kernel
theorem dX12_isEcho_64 : decode cX12_isEcho 64 = .ok (.istore 4, 2) := by decide +kernel
theorem dX12_isEcho_66 : decode cX12_isEcho 66 = .ok (.iinc 5 1, 3) := by decide +kernel
theorem dX12_isEcho_69 : decode cX12_isEcho 69 = .ok (.goto (-54), 3) := by decide +kernel
theorem dX12_isEcho_72 : decode cX12_isEcho 72 = .ok (.iload 4, 2) := by decide +kernel
theorem dX12_isEcho_74 : decode cX12_isEcho 74 = .ok (.ireturn, 1) := by decide +kernel
def w_X12_isEcho_15 (I : mI) (o : Nat) (a1 : Int32) (a2 : Int32) (a3 : Int32) (post : Bool → Prop) (v4 : Int32) (v5 : Int32) : Prop := ∀ ZZ : (Int32 → Int32 → Prop), (∀ (v4 : Int32) (v5 : Int32), (w_X12_people I o (fun r1 => (r1 ≤ v5 → ∃ b2, v4 = bI b2 ∧ post b2) ∧ (¬ r1 ≤ v5 → (¬ v4 = 0 → ∀ x3, x3 = v5 + 1 → ZZ 1 x3) ∧ (v4 = 0 → w_X12_told I o v5 0 (fun r4 => (¬ r4 = a2 → ∀ x5, x5 = v5 + 1 → ZZ 0 x5) ∧ (r4 = a2 → w_X12_loudBy I o v5 a2 a3 (fun r6 => w_X12_isHeard I o a1 (r6 / 2) a3 (fun b7 => (b7 = false → ∀ x8, x8 = v5 + 1 → ZZ 0 x8) ∧ (b7 = true → ∀ x9, x9 = v5 + 1 → ZZ 1 x9))))))))) → ZZ v4 v5) → ZZ v4 v5
set_option maxRecDepth 100000 in
set_option maxHeartbeats 4000000 in
theorem s_X12_isEcho_15 {p : Program} {l : Launch} {e : Env} {s : State} {m : MethodId} {args : Array Value} {below : List Frame} {meth : Method} {c : Code} {D : va_G} {cA : Nat → ClassId} {Z : mZ} {bs : Ad} {n : Nat} {K : mK} {R : mR} {I : mI} {L : mL} (E : Ev p s m args c cX12_isEcho 6 RX12 D cA Z bs) (hr : meth.sig.returnType = (some .boolean)) (hlk : meth.locks = false) {o : Nat} {a1 : Int32} {a2 : Int32} {a3 : Int32} (ho : isX12 K R o) {post : Bool → Prop} {v4 : Int32} {v5 : Int32} {H : Heap} {locs : List Loc} {ls : Array Slot} (hw : w_X12_isEcho_15 I o a1 a2 a3 post v4 v5) (hM : mm D cA bs (n, K, R, I, L) H) (hS : va_S (Ab bs) s.heap H locs) (hl : lv_has ls 6 [(0, .ref (ad bs o)), (1, .int a1), (2, .int a2), (3, .int a3), (4, .int v4), (5, .int v5)]) : W p l e ({ frames := 3, cells := 0, slots := 0, locals := 67 } : Room) s m args below meth c H locs 0 0 (MQ below (QI D cA bs (fun r u => ∃ b, r = bI b ∧ u = (n, K, R, I, L) ∧ post b)) args s 0 0 (Ab bs)) (F0 m 15 ls []) := by
  have hx := E.1.1
  have hb := E.1.2.1
  refine hw (fun v4 v5 => ∀ (H : Heap) (locs : List Loc) (ls : Array Slot), mm D cA bs (n, K, R, I, L) H → va_S (Ab bs) s.heap H locs → lv_has ls 6 [(0, .ref (ad bs o)), (1, .int a1), (2, .int a2), (3, .int a3), (4, .int v4), (5, .int v5)] → W p l e ({ frames := 3, cells := 0, slots := 0, locals := 67 } : Room) s m args below meth c H locs 0 0 (MQ below (QI D cA bs (fun r u => ∃ b, r = bI b ∧ u = (n, K, R, I, L) ∧ post b)) args s 0 0 (Ab bs)) (F0 m 15 ls [])) ?_ H locs ls hM hS hl
  clear hw hM hS hl
  intro v4 v5 hw H locs ls hM hS hl
  refine lv_iload hx hb dX12_isEcho_15 (lv_at hl 5 rfl) ?_
  refine lv_aload_n hx hb dX12_isEcho_17 rfl (lv_at hl 0 rfl) ?_
  refine m_ci (m_runV E hM hS cs_X12_208 ho.1 (by decide) rfl rfl (c_X12_people ho hw) rfl rfl ⟨Nat.le_of_ble_eq_true rfl, Nat.le_of_ble_eq_true rfl⟩ rfl hl.1 rfl (Nat.le_of_ble_eq_true rfl) dX12_isEcho_18 ⟨Nat.le_of_ble_eq_true rfl, Nat.le_of_ble_eq_true rfl⟩) hS (fun r1 u H locs hp hM hS => ?_)
  obtain ⟨rfl, hw⟩ := hp
  refine lv_icmp_ge (tgt := 72) hx hb dX12_isEcho_21 (by decide) (fun cq => ?_) (fun cq => ?_)
  · have hw := hw.1 cq
    refine lv_iload hx hb dX12_isEcho_72 (lv_at hl 4 rfl) ?_
    obtain ⟨b2, eb2, hw⟩ := hw
    exact m_retz hx hb hr hlk (by rw [eb2]; exact bI_01 _) hM hS ⟨_, eb2, rfl, hw⟩ dX12_isEcho_74
  · have hw := hw.2 cq
    refine lv_iload hx hb dX12_isEcho_24 (lv_at hl 4 rfl) ?_
    refine lv_if_ne (tgt := 59) hx hb dX12_isEcho_26 (by decide) (fun cq => ?_) (fun cq => ?_)
    · have hw := hw.1 cq
      refine lv_iconst (v := 1) hx hb dX12_isEcho_59 (by decide) ?_
      refine lv_goto (tgt := 64) hx hb dX12_isEcho_60 (by decide) ?_
      refine lv_istore (lv' := [(4, .int 1), (0, .ref (ad bs o)), (1, .int a1), (2, .int a2), (3, .int a3), (5, .int v5)]) hx hb dX12_isEcho_64 hl (by decide) rfl (fun ls hl => ?_)
      obtain ⟨x3, ex3⟩ : ∃ y : Int32, y = v5 + 1 := ⟨_, rfl⟩
      have hw := hw x3 ex3
      refine lv_iinc (v := x3) (lv' := [(5, .int x3), (4, .int 1), (0, .ref (ad bs o)), (1, .int a1), (2, .int a2), (3, .int a3)]) hx hb dX12_isEcho_66 hl (k := 5) rfl (by rw [ex3]; rfl) (by decide) rfl (fun ls hl => ?_)
      refine lv_goto (tgt := 15) hx hb dX12_isEcho_69 (by decide) ?_
      exact hw H locs ls  hM hS (lv_sub hl [2, 3, 4, 5, 1, 0] rfl)
    · have hw := hw.2 cq
      refine lv_aload_n hx hb dX12_isEcho_29 rfl (lv_at hl 0 rfl) ?_
      refine lv_iload hx hb dX12_isEcho_30 (lv_at hl 5 rfl) ?_
      refine lv_iconst (v := 0) hx hb dX12_isEcho_32 (by decide) ?_
      refine m_ci (m_runV E hM hS cs_X12_241 ho.1 (by decide) rfl rfl (c_X12_told ho hw) rfl rfl ⟨Nat.le_of_ble_eq_true rfl, Nat.le_of_ble_eq_true rfl⟩ rfl hl.1 rfl (Nat.le_of_ble_eq_true rfl) dX12_isEcho_33 ⟨Nat.le_of_ble_eq_true rfl, Nat.le_of_ble_eq_true rfl⟩) hS (fun r4 u H locs hp hM hS => ?_)
      obtain ⟨rfl, hw⟩ := hp
      refine lv_iload_n hx hb dX12_isEcho_36 rfl (lv_at hl 2 rfl) ?_
      refine lv_icmp_ne (tgt := 63) hx hb dX12_isEcho_37 (by decide) (fun cq => ?_) (fun cq => ?_)
      · have hw := hw.1 cq
        refine lv_iconst (v := 0) hx hb dX12_isEcho_63 (by decide) ?_
        refine lv_istore (lv' := [(4, .int 0), (0, .ref (ad bs o)), (1, .int a1), (2, .int a2), (3, .int a3), (5, .int v5)]) hx hb dX12_isEcho_64 hl (by decide) rfl (fun ls hl => ?_)
        obtain ⟨x5, ex5⟩ : ∃ y : Int32, y = v5 + 1 := ⟨_, rfl⟩
        have hw := hw x5 ex5
        refine lv_iinc (v := x5) (lv' := [(5, .int x5), (4, .int 0), (0, .ref (ad bs o)), (1, .int a1), (2, .int a2), (3, .int a3)]) hx hb dX12_isEcho_66 hl (k := 5) rfl (by rw [ex5]; rfl) (by decide) rfl (fun ls hl => ?_)
        refine lv_goto (tgt := 15) hx hb dX12_isEcho_69 (by decide) ?_
        exact hw H locs ls  hM hS (lv_sub hl [2, 3, 4, 5, 1, 0] rfl)
      · have hw := hw.2 cq
        refine lv_aload_n hx hb dX12_isEcho_40 rfl (lv_at hl 0 rfl) ?_
        refine lv_iload_n hx hb dX12_isEcho_41 rfl (lv_at hl 1 rfl) ?_
        refine lv_aload_n hx hb dX12_isEcho_42 rfl (lv_at hl 0 rfl) ?_
        refine lv_iload hx hb dX12_isEcho_43 (lv_at hl 5 rfl) ?_
        refine lv_iload_n hx hb dX12_isEcho_45 rfl (lv_at hl 2 rfl) ?_
        refine lv_iload_n hx hb dX12_isEcho_46 rfl (lv_at hl 3 rfl) ?_
        refine m_ci (m_runV E hM hS cs_X12_271 ho.1 (by decide) rfl rfl (c_X12_loudBy ho hw) rfl rfl ⟨Nat.le_of_ble_eq_true rfl, Nat.le_of_ble_eq_true rfl⟩ rfl hl.1 rfl (Nat.le_of_ble_eq_true rfl) dX12_isEcho_47 ⟨Nat.le_of_ble_eq_true rfl, Nat.le_of_ble_eq_true rfl⟩) hS (fun r6 u H locs hp hM hS => ?_)
        obtain ⟨rfl, hw⟩ := hp
        refine lv_iconst (v := 2) hx hb dX12_isEcho_50 (by decide) ?_
        refine lv_idiv hx hb dX12_isEcho_51 (by decide) ?_
        refine lv_iload_n hx hb dX12_isEcho_52 rfl (lv_at hl 3 rfl) ?_
        refine m_ci (m_runV E hM hS cs_X12_256 ho.1 (by decide) rfl rfl (c_X12_isHeard ho hw) rfl rfl ⟨Nat.le_of_ble_eq_true rfl, Nat.le_of_ble_eq_true rfl⟩ rfl hl.1 rfl (Nat.le_of_ble_eq_true rfl) dX12_isEcho_53 ⟨Nat.le_of_ble_eq_true rfl, Nat.le_of_ble_eq_true rfl⟩) hS (fun r9 u H locs hp hM hS => ?_)
        obtain ⟨b7, rfl, rfl, hw⟩ := hp
        refine lv_if_eq (tgt := 63) hx hb dX12_isEcho_56 (by decide) (fun cq => ?_) (fun cq => ?_)
        · have hw := hw.1 (bI_f cq)
          refine lv_iconst (v := 0) hx hb dX12_isEcho_63 (by decide) ?_
          refine lv_istore (lv' := [(4, .int 0), (0, .ref (ad bs o)), (1, .int a1), (2, .int a2), (3, .int a3), (5, .int v5)]) hx hb dX12_isEcho_64 hl (by decide) rfl (fun ls hl => ?_)
          obtain ⟨x8, ex8⟩ : ∃ y : Int32, y = v5 + 1 := ⟨_, rfl⟩
          have hw := hw x8 ex8
          refine lv_iinc (v := x8) (lv' := [(5, .int x8), (4, .int 0), (0, .ref (ad bs o)), (1, .int a1), (2, .int a2), (3, .int a3)]) hx hb dX12_isEcho_66 hl (k := 5) rfl (by rw [ex8]; rfl) (by decide) rfl (fun ls hl => ?_)
          refine lv_goto (tgt := 15) hx hb dX12_isEcho_69 (by decide) ?_
          exact hw H locs ls  hM hS (lv_sub hl [2, 3, 4, 5, 1, 0] rfl)
        · have hw := hw.2 (bI_t cq)
          refine lv_iconst (v := 1) hx hb dX12_isEcho_59 (by decide) ?_
          refine lv_goto (tgt := 64) hx hb dX12_isEcho_60 (by decide) ?_
          refine lv_istore (lv' := [(4, .int 1), (0, .ref (ad bs o)), (1, .int a1), (2, .int a2), (3, .int a3), (5, .int v5)]) hx hb dX12_isEcho_64 hl (by decide) rfl (fun ls hl => ?_)
          obtain ⟨x9, ex9⟩ : ∃ y : Int32, y = v5 + 1 := ⟨_, rfl⟩
          have hw := hw x9 ex9
          refine lv_iinc (v := x9) (lv' := [(5, .int x9), (4, .int 1), (0, .ref (ad bs o)), (1, .int a1), (2, .int a2), (3, .int a3)]) hx hb dX12_isEcho_66 hl (k := 5) rfl (by rw [ex9]; rfl) (by decide) rfl (fun ls hl => ?_)
          refine lv_goto (tgt := 15) hx hb dX12_isEcho_69 (by decide) ?_
          exact hw H locs ls  hM hS (lv_sub hl [2, 3, 4, 5, 1, 0] rfl)
def w_X12_isEcho (I : mI) (o : Nat) (a1 : Int32) (a2 : Int32) (a3 : Int32) (post : Bool → Prop) : Prop := (¬ a2 = (-1) → (w_X12_isEcho_15 I o a1 a2 a3 post) 0 0) ∧ (a2 = (-1) → (w_X12_isEcho_15 I o a1 a2 a3 post) 1 0)
set_option maxRecDepth 100000 in
set_option maxHeartbeats 4000000 in
theorem c_X12_isEcho {l : Launch} {D : va_G} {cA : Nat → ClassId} {Z : mZ} {bs : Ad} {n : Nat} {K : mK} {R : mR} {I : mI} {L : mL} {o : Nat} {a1 : Int32} {a2 : Int32} {a3 : Int32} {post : Bool → Prop} (ho : isX12 K R o) (hw : w_X12_isEcho I o a1 a2 a3 post) : Met l yX12_isEcho (.code yX12_isEcho cX12_isEcho 6 (some .boolean) :: gw) ({ frames := 3, cells := 0, slots := 0, locals := 67 } : Room) (PreM D cA Z bs (n, K, R, I, L) [.ref (ad bs o), .int a1, .int a2, .int a3]) (QI D cA bs (fun r u => ∃ b, r = bI b ∧ u = (n, K, R, I, L) ∧ post b)) 0 0 (Ab bs) := by
  refine m_met (by decide) (Nat.le_of_ble_eq_true rfl) (fun p e s m below meth c ls E hr hlk hM hS hl => ?_)
  have E : Ev p s m _ c cX12_isEcho 6 RX12 D cA Z bs := E
  have hl : lv_has ls 6 [(0, .ref (ad bs o)), (1, .int a1), (2, .int a2), (3, .int a3)] := hl
  have hx := E.1.1
  have hb := E.1.2.1
  generalize hHe : s.heap = H at hM ⊢
  have hS : va_S (Ab bs) s.heap H [] := by rw [← hHe]; exact va_S.rf
  clear hHe
  refine lv_iload_n hx hb dX12_isEcho_0 rfl (lv_at hl 2 rfl) ?_
  refine lv_iconst (v := (-1)) hx hb dX12_isEcho_1 (by decide) ?_
  refine lv_icmp_ne (tgt := 9) hx hb dX12_isEcho_2 (by decide) (fun cq => ?_) (fun cq => ?_)
  · have hw := hw.1 cq
    refine lv_iconst (v := 0) hx hb dX12_isEcho_9 (by decide) ?_
    refine lv_istore (lv' := [(4, .int 0), (0, .ref (ad bs o)), (1, .int a1), (2, .int a2), (3, .int a3)]) hx hb dX12_isEcho_10 hl (by decide) rfl (fun ls hl => ?_)
    refine lv_iconst (v := 0) hx hb dX12_isEcho_12 (by decide) ?_
    refine lv_istore (lv' := [(5, .int 0), (4, .int 0), (0, .ref (ad bs o)), (1, .int a1), (2, .int a2), (3, .int a3)]) hx hb dX12_isEcho_13 hl (by decide) rfl (fun ls hl => ?_)
    exact s_X12_isEcho_15 E hr hlk ho  hw hM hS (lv_sub hl [2, 3, 4, 5, 1, 0] rfl)
  · have hw := hw.2 cq
    refine lv_iconst (v := 1) hx hb dX12_isEcho_5 (by decide) ?_
    refine lv_goto (tgt := 10) hx hb dX12_isEcho_6 (by decide) ?_
    refine lv_istore (lv' := [(4, .int 1), (0, .ref (ad bs o)), (1, .int a1), (2, .int a2), (3, .int a3)]) hx hb dX12_isEcho_10 hl (by decide) rfl (fun ls hl => ?_)
    refine lv_iconst (v := 0) hx hb dX12_isEcho_12 (by decide) ?_
    refine lv_istore (lv' := [(5, .int 0), (4, .int 1), (0, .ref (ad bs o)), (1, .int a1), (2, .int a2), (3, .int a3)]) hx hb dX12_isEcho_13 hl (by decide) rfl (fun ls hl => ?_)
    exact s_X12_isEcho_15 E hr hlk ho  hw hM hS (lv_sub hl [2, 3, 4, 5, 1, 0] rfl)
theorem dX12_isHis_0 : decode cX12_isHis 0 = .ok (.aload_n 0, 1) := by decide +kernel
theorem dX12_isHis_1 : decode cX12_isHis 1 = .ok (.iload_n 1, 1) := by decide +kernel
theorem dX12_isHis_2 : decode cX12_isHis 2 = .ok (.aload_n 0, 1) := by decide +kernel
theorem dX12_isHis_3 : decode cX12_isHis 3 = .ok (.iload_n 2, 1) := by decide +kernel
theorem dX12_isHis_4 : decode cX12_isHis 4 = .ok (.iconst 1, 1) := by decide +kernel
theorem dX12_isHis_5 : decode cX12_isHis 5 = .ok (.invokevirtual 379, 3) := by decide +kernel
theorem dX12_isHis_8 : decode cX12_isHis 8 = .ok (.invokevirtual 268, 3) := by decide +kernel
theorem dX12_isHis_11 : decode cX12_isHis 11 = .ok (.aload_n 0, 1) := by decide +kernel
theorem dX12_isHis_12 : decode cX12_isHis 12 = .ok (.iload_n 2, 1) := by decide +kernel
theorem dX12_isHis_13 : decode cX12_isHis 13 = .ok (.iconst 2, 1) := by decide +kernel
theorem dX12_isHis_14 : decode cX12_isHis 14 = .ok (.invokevirtual 379, 3) := by decide +kernel
theorem dX12_isHis_17 : decode cX12_isHis 17 = .ok (.if_icmp .ne 7, 3) := by decide +kernel
theorem dX12_isHis_20 : decode cX12_isHis 20 = .ok (.iconst 1, 1) := by decide +kernel
theorem dX12_isHis_21 : decode cX12_isHis 21 = .ok (.goto 4, 3) := by decide +kernel
theorem dX12_isHis_24 : decode cX12_isHis 24 = .ok (.iconst 0, 1) := by decide +kernel
theorem dX12_isHis_25 : decode cX12_isHis 25 = .ok (.ireturn, 1) := by decide +kernel
def w_X12_isHis (I : mI) (o : Nat) (a1 : Int32) (a2 : Int32) (post : Bool → Prop) : Prop := w_X12_soundOf I o a2 1 (fun r1 => w_X12_shoeOf I o a1 r1 (fun r2 => w_X12_soundOf I o a2 2 (fun r3 => (¬ r2 = r3 → post false) ∧ (r2 = r3 → post true))))
set_option maxRecDepth 100000 in
set_option maxHeartbeats 4000000 in
theorem c_X12_isHis {l : Launch} {D : va_G} {cA : Nat → ClassId} {Z : mZ} {bs : Ad} {n : Nat} {K : mK} {R : mR} {I : mI} {L : mL} {o : Nat} {a1 : Int32} {a2 : Int32} {post : Bool → Prop} (ho : isX12 K R o) (hw : w_X12_isHis I o a1 a2 post) : Met l yX12_isHis (.code yX12_isHis cX12_isHis 3 (some .boolean) :: gw) ({ frames := 2, cells := 0, slots := 0, locals := 48 } : Room) (PreM D cA Z bs (n, K, R, I, L) [.ref (ad bs o), .int a1, .int a2]) (QI D cA bs (fun r u => ∃ b, r = bI b ∧ u = (n, K, R, I, L) ∧ post b)) 0 0 (Ab bs) := by
  refine m_met (by decide) (Nat.le_of_ble_eq_true rfl) (fun p e s m below meth c ls E hr hlk hM hS hl => ?_)
  have E : Ev p s m _ c cX12_isHis 3 RX12 D cA Z bs := E
  have hl : lv_has ls 3 [(0, .ref (ad bs o)), (1, .int a1), (2, .int a2)] := hl
  have hx := E.1.1
  have hb := E.1.2.1
  generalize hHe : s.heap = H at hM ⊢
  have hS : va_S (Ab bs) s.heap H [] := by rw [← hHe]; exact va_S.rf
  clear hHe
  refine lv_aload_n hx hb dX12_isHis_0 rfl (lv_at hl 0 rfl) ?_
  refine lv_iload_n hx hb dX12_isHis_1 rfl (lv_at hl 1 rfl) ?_
  refine lv_aload_n hx hb dX12_isHis_2 rfl (lv_at hl 0 rfl) ?_
  refine lv_iload_n hx hb dX12_isHis_3 rfl (lv_at hl 2 rfl) ?_
  refine lv_iconst (v := 1) hx hb dX12_isHis_4 (by decide) ?_
  refine m_ci (m_runV E hM hS cs_X12_379 ho.1 (by decide) rfl rfl (c_X12_soundOf ho hw) rfl rfl ⟨Nat.le_of_ble_eq_true rfl, Nat.le_of_ble_eq_true rfl⟩ rfl hl.1 rfl (Nat.le_of_ble_eq_true rfl) dX12_isHis_5 ⟨Nat.le_of_ble_eq_true rfl, Nat.le_of_ble_eq_true rfl⟩) hS (fun r1 u H locs hp hM hS => ?_)
  obtain ⟨rfl, hw⟩ := hp
  refine m_ci (m_runV E hM hS cs_X12_268 ho.1 (by decide) rfl rfl (c_X12_shoeOf ho hw) rfl rfl ⟨Nat.le_of_ble_eq_true rfl, Nat.le_of_ble_eq_true rfl⟩ rfl hl.1 rfl (Nat.le_of_ble_eq_true rfl) dX12_isHis_8 ⟨Nat.le_of_ble_eq_true rfl, Nat.le_of_ble_eq_true rfl⟩) hS (fun r2 u H locs hp hM hS => ?_)
  obtain ⟨rfl, hw⟩ := hp
  refine lv_aload_n hx hb dX12_isHis_11 rfl (lv_at hl 0 rfl) ?_
  refine lv_iload_n hx hb dX12_isHis_12 rfl (lv_at hl 2 rfl) ?_
  refine lv_iconst (v := 2) hx hb dX12_isHis_13 (by decide) ?_
  refine m_ci (m_runV E hM hS cs_X12_379 ho.1 (by decide) rfl rfl (c_X12_soundOf ho hw) rfl rfl ⟨Nat.le_of_ble_eq_true rfl, Nat.le_of_ble_eq_true rfl⟩ rfl hl.1 rfl (Nat.le_of_ble_eq_true rfl) dX12_isHis_14 ⟨Nat.le_of_ble_eq_true rfl, Nat.le_of_ble_eq_true rfl⟩) hS (fun r3 u H locs hp hM hS => ?_)
  obtain ⟨rfl, hw⟩ := hp
  refine lv_icmp_ne (tgt := 24) hx hb dX12_isHis_17 (by decide) (fun cq => ?_) (fun cq => ?_)
  · have hw := hw.1 cq
    refine lv_iconst (v := 0) hx hb dX12_isHis_24 (by decide) ?_
    exact m_retz hx hb hr hlk (Or.inl rfl) hM hS ⟨false, rfl, rfl, hw⟩ dX12_isHis_25
  · have hw := hw.2 cq
    refine lv_iconst (v := 1) hx hb dX12_isHis_20 (by decide) ?_
    refine lv_goto (tgt := 25) hx hb dX12_isHis_21 (by decide) ?_
    exact m_retz hx hb hr hlk (Or.inr rfl) hM hS ⟨true, rfl, rfl, hw⟩ dX12_isHis_25
theorem dX12_madeOn_0 : decode cX12_madeOn 0 = .ok (.aload_n 0, 1) := by decide +kernel
theorem dX12_madeOn_1 : decode cX12_madeOn 1 = .ok (.iload_n 2, 1) := by decide +kernel
theorem dX12_madeOn_2 : decode cX12_madeOn 2 = .ok (.iconst 0, 1) := by decide +kernel
theorem dX12_madeOn_3 : decode cX12_madeOn 3 = .ok (.invokevirtual 379, 3) := by decide +kernel
theorem dX12_madeOn_6 : decode cX12_madeOn 6 = .ok (.istore_n 3, 1) := by decide +kernel
theorem dX12_madeOn_7 : decode cX12_madeOn 7 = .ok (.aload_n 0, 1) := by decide +kernel
theorem dX12_madeOn_8 : decode cX12_madeOn 8 = .ok (.iload_n 3, 1) := by decide +kernel
theorem dX12_madeOn_9 : decode cX12_madeOn 9 = .ok (.invokevirtual 217, 3) := by decide +kernel
theorem dX12_madeOn_12 : decode cX12_madeOn 12 = .ok (.ifCond .eq 12, 3) := by decide +kernel
theorem dX12_madeOn_15 : decode cX12_madeOn 15 = .ok (.aload_n 0, 1) := by decide +kernel
theorem dX12_madeOn_16 : decode cX12_madeOn 16 = .ok (.iload_n 1, 1) := by decide +kernel
theorem dX12_madeOn_17 : decode cX12_madeOn 17 = .ok (.iload_n 2, 1) := by decide +kernel
theorem dX12_madeOn_18 : decode cX12_madeOn 18 = .ok (.invokevirtual 382, 3) := by decide +kernel
theorem dX12_madeOn_21 : decode cX12_madeOn 21 = .ok (.ifCond .ne 5, 3) := by decide +kernel
theorem dX12_madeOn_24 : decode cX12_madeOn 24 = .ok (.iconst 0, 1) := by decide +kernel
theorem dX12_madeOn_25 : decode cX12_madeOn 25 = .ok (.ireturn, 1) := by decide +kernel
theorem dX12_madeOn_26 : decode cX12_madeOn 26 = .ok (.iconst 0, 1) := by decide +kernel
theorem dX12_madeOn_27 : decode cX12_madeOn 27 = .ok (.istore 4, 2) := by decide +kernel
theorem dX12_madeOn_29 : decode cX12_madeOn 29 = .ok (.iconst 0, 1) := by decide +kernel
theorem dX12_madeOn_30 : decode cX12_madeOn 30 = .ok (.istore 5, 2) := by decide +kernel
theorem dX12_madeOn_32 : decode cX12_madeOn 32 = .ok (.iload 5, 2) := by decide +kernel
theorem dX12_madeOn_34 : decode cX12_madeOn 34 = .ok (.aload_n 0, 1) := by decide +kernel
theorem dX12_madeOn_35 : decode cX12_madeOn 35 = .ok (.iconst 0, 1) := by decide +kernel
theorem dX12_madeOn_36 : decode cX12_madeOn 36 = .ok (.invokevirtual 205, 3) := by decide +kernel
theorem dX12_madeOn_39 : decode cX12_madeOn 39 = .ok (.if_icmp .ge 61, 3) := by decide +kernel
theorem dX12_madeOn_42 : decode cX12_madeOn 42 = .ok (.iload 4, 2) := by decide +kernel
theorem dX12_madeOn_44 : decode cX12_madeOn 44 = .ok (.aload_n 0, 1) := by decide +kernel
theorem dX12_madeOn_45 : decode cX12_madeOn 45 = .ok (.iload_n 3, 1) := by decide +kernel
theorem dX12_madeOn_46 : decode cX12_madeOn 46 = .ok (.aload_n 0, 1) := by decide +kernel
theorem dX12_madeOn_47 : decode cX12_madeOn 47 = .ok (.iload_n 1, 1) := by decide +kernel
theorem dX12_madeOn_48 : decode cX12_madeOn 48 = .ok (.aload_n 0, 1) := by decide +kernel
theorem dX12_madeOn_49 : decode cX12_madeOn 49 = .ok (.iload_n 2, 1) := by decide +kernel
theorem dX12_madeOn_50 : decode cX12_madeOn 50 = .ok (.iconst 2, 1) := by decide +kernel
theorem dX12_madeOn_51 : decode cX12_madeOn 51 = .ok (.invokevirtual 379, 3) := by decide +kernel
theorem dX12_madeOn_54 : decode cX12_madeOn 54 = .ok (.iload 5, 2) := by decide +kernel
theorem dX12_madeOn_56 : decode cX12_madeOn 56 = .ok (.invokevirtual 271, 3) := by decide +kernel
theorem dX12_madeOn_59 : decode cX12_madeOn 59 = .ok (.iload 5, 2) := by decide +kernel
theorem dX12_madeOn_61 : decode cX12_madeOn 61 = .ok (.invokevirtual 256, 3) := by decide +kernel
theorem dX12_madeOn_64 : decode cX12_madeOn 64 = .ok (.ifCond .eq 26, 3) := by decide +kernel
theorem dX12_madeOn_67 : decode cX12_madeOn 67 = .ok (.aload_n 0, 1) := by decide +kernel
theorem dX12_madeOn_68 : decode cX12_madeOn 68 = .ok (.iload_n 3, 1) := by decide +kernel
theorem dX12_madeOn_69 : decode cX12_madeOn 69 = .ok (.aload_n 0, 1) := by decide +kernel
theorem dX12_madeOn_70 : decode cX12_madeOn 70 = .ok (.iload_n 2, 1) := by decide +kernel
theorem dX12_madeOn_71 : decode cX12_madeOn 71 = .ok (.iconst 3, 1) := by decide +kernel
theorem dX12_madeOn_72 : decode cX12_madeOn 72 = .ok (.invokevirtual 379, 3) := by decide +kernel
theorem dX12_madeOn_75 : decode cX12_madeOn 75 = .ok (.iload 5, 2) := by decide +kernel
theorem dX12_madeOn_77 : decode cX12_madeOn 77 = .ok (.invokevirtual 385, 3) := by decide +kernel
theorem dX12_madeOn_80 : decode cX12_madeOn 80 = .ok (.ifCond .eq 10, 3) := by decide +kernel
theorem dX12_madeOn_83 : decode cX12_madeOn 83 = .ok (.iconst 1, 1) := by decide +kernel
theorem dX12_madeOn_84 : decode cX12_madeOn 84 = .ok (.iload 5, 2) := by decide +kernel
theorem dX12_madeOn_86 : decode cX12_madeOn 86 = .ok (.ishl, 1) := by decide +kernel
theorem dX12_madeOn_87 : decode cX12_madeOn 87 = .ok (.goto 4, 3) := by decide +kernel
theorem dX12_madeOn_90 : decode cX12_madeOn 90 = .ok (.iconst 0, 1) := by decide +kernel
theorem dX12_madeOn_91 : decode cX12_madeOn 91 = .ok (.ior, 1) := by decide +kernel
theorem dX12_madeOn_92 : decode cX12_madeOn 92 = .ok (.istore 4, 2) := by decide +kernel
theorem dX12_madeOn_94 : decode cX12_madeOn 94 = .ok (.iinc 5 1, 3) := by decide +kernel
theorem dX12_madeOn_97 : decode cX12_madeOn 97 = .ok (.goto (-65), 3) := by decide +kernel
theorem dX12_madeOn_100 : decode cX12_madeOn 100 = .ok (.iload 4, 2) := by decide +kernel
theorem dX12_madeOn_102 : decode cX12_madeOn 102 = .ok (.ireturn, 1) := by decide +kernel
def w_X12_madeOn_32 (I : mI) (o : Nat) (a1 : Int32) (a2 : Int32) (post : Int32 → Prop) (v3 : Int32) (v4 : Int32) (v5 : Int32) : Prop := ∀ ZZ : (Int32 → Int32 → Int32 → Prop), (∀ (v3 : Int32) (v4 : Int32) (v5 : Int32), (w_X12_of I o 0 (fun r4 => (r4 ≤ v5 → post v4) ∧ (¬ r4 ≤ v5 → w_X12_soundOf I o a2 2 (fun r5 => w_X12_loudBy I o a1 r5 v5 (fun r6 => w_X12_isHeard I o v3 r6 v5 (fun b7 => (b7 = false → ∀ x8, x8 = (v4 ||| 0) → ∀ x9, x9 = v5 + 1 → ZZ v3 x8 x9) ∧ (b7 = true → w_X12_soundOf I o a2 3 (fun r10 => w_X12_isEcho I o v3 r10 v5 (fun b11 => (b11 = false → ∀ x12, x12 = (v4 ||| 0) → ∀ x13, x13 = v5 + 1 → ZZ v3 x12 x13) ∧ (b11 = true → ∀ x14, x14 = (v4 ||| (1 <<< (v5 &&& 31))) → ∀ x15, x15 = v5 + 1 → ZZ v3 x14 x15)))))))))) → ZZ v3 v4 v5) → ZZ v3 v4 v5
set_option maxRecDepth 100000 in
set_option maxHeartbeats 4000000 in
theorem s_X12_madeOn_32 {p : Program} {l : Launch} {e : Env} {s : State} {m : MethodId} {args : Array Value} {below : List Frame} {meth : Method} {c : Code} {D : va_G} {cA : Nat → ClassId} {Z : mZ} {bs : Ad} {n : Nat} {K : mK} {R : mR} {I : mI} {L : mL} (E : Ev p s m args c cX12_madeOn 6 RX12 D cA Z bs) (hr : meth.sig.returnType = (some .int)) (hlk : meth.locks = false) {o : Nat} {a1 : Int32} {a2 : Int32} (ho : isX12 K R o) {post : Int32 → Prop} {v3 : Int32} {v4 : Int32} {v5 : Int32} {H : Heap} {locs : List Loc} {ls : Array Slot} (hw : w_X12_madeOn_32 I o a1 a2 post v3 v4 v5) (hM : mm D cA bs (n, K, R, I, L) H) (hS : va_S (Ab bs) s.heap H locs) (hl : lv_has ls 6 [(0, .ref (ad bs o)), (1, .int a1), (2, .int a2), (3, .int v3), (4, .int v4), (5, .int v5)]) : W p l e ({ frames := 4, cells := 0, slots := 0, locals := 92 } : Room) s m args below meth c H locs 0 0 (MQ below (QI D cA bs (fun r u => u = (n, K, R, I, L) ∧ post r)) args s 0 0 (Ab bs)) (F0 m 32 ls []) := by
  have hx := E.1.1
  have hb := E.1.2.1
  refine hw (fun v3 v4 v5 => ∀ (H : Heap) (locs : List Loc) (ls : Array Slot), mm D cA bs (n, K, R, I, L) H → va_S (Ab bs) s.heap H locs → lv_has ls 6 [(0, .ref (ad bs o)), (1, .int a1), (2, .int a2), (3, .int v3), (4, .int v4), (5, .int v5)] → W p l e ({ frames := 4, cells := 0, slots := 0, locals := 92 } : Room) s m args below meth c H locs 0 0 (MQ below (QI D cA bs (fun r u => u = (n, K, R, I, L) ∧ post r)) args s 0 0 (Ab bs)) (F0 m 32 ls [])) ?_ H locs ls hM hS hl
  clear hw hM hS hl
  intro v3 v4 v5 hw H locs ls hM hS hl
  refine lv_iload hx hb dX12_madeOn_32 (lv_at hl 5 rfl) ?_
  refine lv_aload_n hx hb dX12_madeOn_34 rfl (lv_at hl 0 rfl) ?_
  refine lv_iconst (v := 0) hx hb dX12_madeOn_35 (by decide) ?_
  refine m_ci (m_runV E hM hS cs_X12_205 ho.1 (by decide) rfl rfl (c_X12_of ho hw) rfl rfl ⟨Nat.le_of_ble_eq_true rfl, Nat.le_of_ble_eq_true rfl⟩ rfl hl.1 rfl (Nat.le_of_ble_eq_true rfl) dX12_madeOn_36 ⟨Nat.le_of_ble_eq_true rfl, Nat.le_of_ble_eq_true rfl⟩) hS (fun r4 u H locs hp hM hS => ?_)
  obtain ⟨rfl, hw⟩ := hp
  refine lv_icmp_ge (tgt := 100) hx hb dX12_madeOn_39 (by decide) (fun cq => ?_) (fun cq => ?_)
  · have hw := hw.1 cq
    refine lv_iload hx hb dX12_madeOn_100 (lv_at hl 4 rfl) ?_
    exact m_reti hx hb hr hlk hM hS ⟨rfl, hw⟩ dX12_madeOn_102
  · have hw := hw.2 cq
    refine lv_iload hx hb dX12_madeOn_42 (lv_at hl 4 rfl) ?_
    refine lv_aload_n hx hb dX12_madeOn_44 rfl (lv_at hl 0 rfl) ?_
    refine lv_iload_n hx hb dX12_madeOn_45 rfl (lv_at hl 3 rfl) ?_
    refine lv_aload_n hx hb dX12_madeOn_46 rfl (lv_at hl 0 rfl) ?_
    refine lv_iload_n hx hb dX12_madeOn_47 rfl (lv_at hl 1 rfl) ?_
    refine lv_aload_n hx hb dX12_madeOn_48 rfl (lv_at hl 0 rfl) ?_
    refine lv_iload_n hx hb dX12_madeOn_49 rfl (lv_at hl 2 rfl) ?_
    refine lv_iconst (v := 2) hx hb dX12_madeOn_50 (by decide) ?_
    refine m_ci (m_runV E hM hS cs_X12_379 ho.1 (by decide) rfl rfl (c_X12_soundOf ho hw) rfl rfl ⟨Nat.le_of_ble_eq_true rfl, Nat.le_of_ble_eq_true rfl⟩ rfl hl.1 rfl (Nat.le_of_ble_eq_true rfl) dX12_madeOn_51 ⟨Nat.le_of_ble_eq_true rfl, Nat.le_of_ble_eq_true rfl⟩) hS (fun r5 u H locs hp hM hS => ?_)
    obtain ⟨rfl, hw⟩ := hp
    refine lv_iload hx hb dX12_madeOn_54 (lv_at hl 5 rfl) ?_
    refine m_ci (m_runV E hM hS cs_X12_271 ho.1 (by decide) rfl rfl (c_X12_loudBy ho hw) rfl rfl ⟨Nat.le_of_ble_eq_true rfl, Nat.le_of_ble_eq_true rfl⟩ rfl hl.1 rfl (Nat.le_of_ble_eq_true rfl) dX12_madeOn_56 ⟨Nat.le_of_ble_eq_true rfl, Nat.le_of_ble_eq_true rfl⟩) hS (fun r6 u H locs hp hM hS => ?_)
    obtain ⟨rfl, hw⟩ := hp
    refine lv_iload hx hb dX12_madeOn_59 (lv_at hl 5 rfl) ?_
    refine m_ci (m_runV E hM hS cs_X12_256 ho.1 (by decide) rfl rfl (c_X12_isHeard ho hw) rfl rfl ⟨Nat.le_of_ble_eq_true rfl, Nat.le_of_ble_eq_true rfl⟩ rfl hl.1 rfl (Nat.le_of_ble_eq_true rfl) dX12_madeOn_61 ⟨Nat.le_of_ble_eq_true rfl, Nat.le_of_ble_eq_true rfl⟩) hS (fun r9 u H locs hp hM hS => ?_)
    obtain ⟨b7, rfl, rfl, hw⟩ := hp
    refine lv_if_eq (tgt := 90) hx hb dX12_madeOn_64 (by decide) (fun cq => ?_) (fun cq => ?_)
    · have hw := hw.1 (bI_f cq)
      refine lv_iconst (v := 0) hx hb dX12_madeOn_90 (by decide) ?_
      refine lv_ior hx hb dX12_madeOn_91 ?_
      refine lv_topi (fun x8 ex8 => ?_)
      have hw := hw x8 ex8
      refine lv_istore (lv' := [(4, .int x8), (0, .ref (ad bs o)), (1, .int a1), (2, .int a2), (3, .int v3), (5, .int v5)]) hx hb dX12_madeOn_92 hl (by decide) rfl (fun ls hl => ?_)
      obtain ⟨x9, ex9⟩ : ∃ y : Int32, y = v5 + 1 := ⟨_, rfl⟩
      have hw := hw x9 ex9
      refine lv_iinc (v := x9) (lv' := [(5, .int x9), (4, .int x8), (0, .ref (ad bs o)), (1, .int a1), (2, .int a2), (3, .int v3)]) hx hb dX12_madeOn_94 hl (k := 5) rfl (by rw [ex9]; rfl) (by decide) rfl (fun ls hl => ?_)
      refine lv_goto (tgt := 32) hx hb dX12_madeOn_97 (by decide) ?_
      exact hw H locs ls  hM hS (lv_sub hl [2, 3, 4, 5, 1, 0] rfl)
    · have hw := hw.2 (bI_t cq)
      refine lv_aload_n hx hb dX12_madeOn_67 rfl (lv_at hl 0 rfl) ?_
      refine lv_iload_n hx hb dX12_madeOn_68 rfl (lv_at hl 3 rfl) ?_
      refine lv_aload_n hx hb dX12_madeOn_69 rfl (lv_at hl 0 rfl) ?_
      refine lv_iload_n hx hb dX12_madeOn_70 rfl (lv_at hl 2 rfl) ?_
      refine lv_iconst (v := 3) hx hb dX12_madeOn_71 (by decide) ?_
      refine m_ci (m_runV E hM hS cs_X12_379 ho.1 (by decide) rfl rfl (c_X12_soundOf ho hw) rfl rfl ⟨Nat.le_of_ble_eq_true rfl, Nat.le_of_ble_eq_true rfl⟩ rfl hl.1 rfl (Nat.le_of_ble_eq_true rfl) dX12_madeOn_72 ⟨Nat.le_of_ble_eq_true rfl, Nat.le_of_ble_eq_true rfl⟩) hS (fun r10 u H locs hp hM hS => ?_)
      obtain ⟨rfl, hw⟩ := hp
      refine lv_iload hx hb dX12_madeOn_75 (lv_at hl 5 rfl) ?_
      refine m_ci (m_runV E hM hS cs_X12_385 ho.1 (by decide) rfl rfl (c_X12_isEcho ho hw) rfl rfl ⟨Nat.le_of_ble_eq_true rfl, Nat.le_of_ble_eq_true rfl⟩ rfl hl.1 rfl (Nat.le_of_ble_eq_true rfl) dX12_madeOn_77 ⟨Nat.le_of_ble_eq_true rfl, Nat.le_of_ble_eq_true rfl⟩) hS (fun r9 u H locs hp hM hS => ?_)
      obtain ⟨b11, rfl, rfl, hw⟩ := hp
      refine lv_if_eq (tgt := 90) hx hb dX12_madeOn_80 (by decide) (fun cq => ?_) (fun cq => ?_)
      · have hw := hw.1 (bI_f cq)
        refine lv_iconst (v := 0) hx hb dX12_madeOn_90 (by decide) ?_
        refine lv_ior hx hb dX12_madeOn_91 ?_
        refine lv_topi (fun x12 ex12 => ?_)
        have hw := hw x12 ex12
        refine lv_istore (lv' := [(4, .int x12), (0, .ref (ad bs o)), (1, .int a1), (2, .int a2), (3, .int v3), (5, .int v5)]) hx hb dX12_madeOn_92 hl (by decide) rfl (fun ls hl => ?_)
        obtain ⟨x13, ex13⟩ : ∃ y : Int32, y = v5 + 1 := ⟨_, rfl⟩
        have hw := hw x13 ex13
        refine lv_iinc (v := x13) (lv' := [(5, .int x13), (4, .int x12), (0, .ref (ad bs o)), (1, .int a1), (2, .int a2), (3, .int v3)]) hx hb dX12_madeOn_94 hl (k := 5) rfl (by rw [ex13]; rfl) (by decide) rfl (fun ls hl => ?_)
        refine lv_goto (tgt := 32) hx hb dX12_madeOn_97 (by decide) ?_
        exact hw H locs ls  hM hS (lv_sub hl [2, 3, 4, 5, 1, 0] rfl)
      · have hw := hw.2 (bI_t cq)
        refine lv_iconst (v := 1) hx hb dX12_madeOn_83 (by decide) ?_
        refine lv_iload hx hb dX12_madeOn_84 (lv_at hl 5 rfl) ?_
        refine lv_ishl hx hb dX12_madeOn_86 ?_
        refine lv_goto (tgt := 91) hx hb dX12_madeOn_87 (by decide) ?_
        refine lv_ior hx hb dX12_madeOn_91 ?_
        refine lv_topi (fun x14 ex14 => ?_)
        have hw := hw x14 ex14
        refine lv_istore (lv' := [(4, .int x14), (0, .ref (ad bs o)), (1, .int a1), (2, .int a2), (3, .int v3), (5, .int v5)]) hx hb dX12_madeOn_92 hl (by decide) rfl (fun ls hl => ?_)
        obtain ⟨x15, ex15⟩ : ∃ y : Int32, y = v5 + 1 := ⟨_, rfl⟩
        have hw := hw x15 ex15
        refine lv_iinc (v := x15) (lv' := [(5, .int x15), (4, .int x14), (0, .ref (ad bs o)), (1, .int a1), (2, .int a2), (3, .int v3)]) hx hb dX12_madeOn_94 hl (k := 5) rfl (by rw [ex15]; rfl) (by decide) rfl (fun ls hl => ?_)
        refine lv_goto (tgt := 32) hx hb dX12_madeOn_97 (by decide) ?_
        exact hw H locs ls  hM hS (lv_sub hl [2, 3, 4, 5, 1, 0] rfl)
def w_X12_madeOn (I : mI) (o : Nat) (a1 : Int32) (a2 : Int32) (post : Int32 → Prop) : Prop := w_X12_soundOf I o a2 0 (fun r1 => w_X12_isFlat I o r1 (fun b2 => (b2 = false → post 0) ∧ (b2 = true → w_X12_isHis I o a1 a2 (fun b3 => (b3 = true → (w_X12_madeOn_32 I o a1 a2 post) r1 0 0) ∧ (b3 = false → post 0)))))
set_option maxRecDepth 100000 in
set_option maxHeartbeats 4000000 in
theorem c_X12_madeOn {l : Launch} {D : va_G} {cA : Nat → ClassId} {Z : mZ} {bs : Ad} {n : Nat} {K : mK} {R : mR} {I : mI} {L : mL} {o : Nat} {a1 : Int32} {a2 : Int32} {post : Int32 → Prop} (ho : isX12 K R o) (hw : w_X12_madeOn I o a1 a2 post) : Met l yX12_madeOn (.code yX12_madeOn cX12_madeOn 6 (some .int) :: gw) ({ frames := 4, cells := 0, slots := 0, locals := 92 } : Room) (PreM D cA Z bs (n, K, R, I, L) [.ref (ad bs o), .int a1, .int a2]) (QI D cA bs (fun r u => u = (n, K, R, I, L) ∧ post r)) 0 0 (Ab bs) := by
  refine m_met (by decide) (Nat.le_of_ble_eq_true rfl) (fun p e s m below meth c ls E hr hlk hM hS hl => ?_)
  have E : Ev p s m _ c cX12_madeOn 6 RX12 D cA Z bs := E
  have hl : lv_has ls 6 [(0, .ref (ad bs o)), (1, .int a1), (2, .int a2)] := hl
  have hx := E.1.1
  have hb := E.1.2.1
  generalize hHe : s.heap = H at hM ⊢
  have hS : va_S (Ab bs) s.heap H [] := by rw [← hHe]; exact va_S.rf
  clear hHe
  refine lv_aload_n hx hb dX12_madeOn_0 rfl (lv_at hl 0 rfl) ?_
  refine lv_iload_n hx hb dX12_madeOn_1 rfl (lv_at hl 2 rfl) ?_
  refine lv_iconst (v := 0) hx hb dX12_madeOn_2 (by decide) ?_
  refine m_ci (m_runV E hM hS cs_X12_379 ho.1 (by decide) rfl rfl (c_X12_soundOf ho hw) rfl rfl ⟨Nat.le_of_ble_eq_true rfl, Nat.le_of_ble_eq_true rfl⟩ rfl hl.1 rfl (Nat.le_of_ble_eq_true rfl) dX12_madeOn_3 ⟨Nat.le_of_ble_eq_true rfl, Nat.le_of_ble_eq_true rfl⟩) hS (fun r1 u H locs hp hM hS => ?_)
  obtain ⟨rfl, hw⟩ := hp
  refine lv_istore_n (lv' := [(3, .int r1), (0, .ref (ad bs o)), (1, .int a1), (2, .int a2)]) hx hb dX12_madeOn_6 rfl hl (by decide) rfl (fun ls hl => ?_)
  refine lv_aload_n hx hb dX12_madeOn_7 rfl (lv_at hl 1 rfl) ?_
  refine lv_iload_n hx hb dX12_madeOn_8 rfl (lv_at hl 0 rfl) ?_
  refine m_ci (m_runV E hM hS cs_X12_217 ho.1 (by decide) rfl rfl (c_X12_isFlat ho hw) rfl rfl ⟨Nat.le_of_ble_eq_true rfl, Nat.le_of_ble_eq_true rfl⟩ rfl hl.1 rfl (Nat.le_of_ble_eq_true rfl) dX12_madeOn_9 ⟨Nat.le_of_ble_eq_true rfl, Nat.le_of_ble_eq_true rfl⟩) hS (fun r9 u H locs hp hM hS => ?_)
  obtain ⟨b2, rfl, rfl, hw⟩ := hp
  refine lv_if_eq (tgt := 24) hx hb dX12_madeOn_12 (by decide) (fun cq => ?_) (fun cq => ?_)
  · have hw := hw.1 (bI_f cq)
    refine lv_iconst (v := 0) hx hb dX12_madeOn_24 (by decide) ?_
    exact m_reti hx hb hr hlk hM hS ⟨rfl, hw⟩ dX12_madeOn_25
  · have hw := hw.2 (bI_t cq)
    refine lv_aload_n hx hb dX12_madeOn_15 rfl (lv_at hl 1 rfl) ?_
    refine lv_iload_n hx hb dX12_madeOn_16 rfl (lv_at hl 2 rfl) ?_
    refine lv_iload_n hx hb dX12_madeOn_17 rfl (lv_at hl 3 rfl) ?_
    refine m_ci (m_runV E hM hS cs_X12_382 ho.1 (by decide) rfl rfl (c_X12_isHis ho hw) rfl rfl ⟨Nat.le_of_ble_eq_true rfl, Nat.le_of_ble_eq_true rfl⟩ rfl hl.1 rfl (Nat.le_of_ble_eq_true rfl) dX12_madeOn_18 ⟨Nat.le_of_ble_eq_true rfl, Nat.le_of_ble_eq_true rfl⟩) hS (fun r9 u H locs hp hM hS => ?_)
    obtain ⟨b3, rfl, rfl, hw⟩ := hp
    refine lv_if_ne (tgt := 26) hx hb dX12_madeOn_21 (by decide) (fun cq => ?_) (fun cq => ?_)
    · have hw := hw.1 (bI_t cq)
      refine lv_iconst (v := 0) hx hb dX12_madeOn_26 (by decide) ?_
      refine lv_istore (lv' := [(4, .int 0), (3, .int r1), (0, .ref (ad bs o)), (1, .int a1), (2, .int a2)]) hx hb dX12_madeOn_27 hl (by decide) rfl (fun ls hl => ?_)
      refine lv_iconst (v := 0) hx hb dX12_madeOn_29 (by decide) ?_
      refine lv_istore (lv' := [(5, .int 0), (4, .int 0), (3, .int r1), (0, .ref (ad bs o)), (1, .int a1), (2, .int a2)]) hx hb dX12_madeOn_30 hl (by decide) rfl (fun ls hl => ?_)
      exact s_X12_madeOn_32 E hr hlk ho  hw hM hS (lv_sub hl [3, 4, 5, 2, 1, 0] rfl)
    · have hw := hw.2 (bI_f cq)
      refine lv_iconst (v := 0) hx hb dX12_madeOn_24 (by decide) ?_
      exact m_reti hx hb hr hlk hM hS ⟨rfl, hw⟩ dX12_madeOn_25
theorem dX12_makersOf_0 : decode cX12_makersOf 0 = .ok (.iconst 0, 1) := by decide +kernel
theorem dX12_makersOf_1 : decode cX12_makersOf 1 = .ok (.istore_n 2, 1) := by decide +kernel
theorem dX12_makersOf_2 : decode cX12_makersOf 2 = .ok (.iconst 0, 1) := by decide +kernel
theorem dX12_makersOf_3 : decode cX12_makersOf 3 = .ok (.istore_n 3, 1) := by decide +kernel
theorem dX12_makersOf_4 : decode cX12_makersOf 4 = .ok (.iload_n 3, 1) := by decide +kernel
theorem dX12_makersOf_5 : decode cX12_makersOf 5 = .ok (.aload_n 0, 1) := by decide +kernel
theorem dX12_makersOf_6 : decode cX12_makersOf 6 = .ok (.invokevirtual 208, 3) := by decide +kernel
theorem dX12_makersOf_9 : decode cX12_makersOf 9 = .ok (.if_icmp .ge 28, 3) := by decide +kernel
theorem dX12_makersOf_12 : decode cX12_makersOf 12 = .ok (.iload_n 2, 1) := by decide +kernel
theorem dX12_makersOf_13 : decode cX12_makersOf 13 = .ok (.aload_n 0, 1) := by decide +kernel
theorem dX12_makersOf_14 : decode cX12_makersOf 14 = .ok (.iload_n 3, 1) := by decide +kernel
theorem dX12_makersOf_15 : decode cX12_makersOf 15 = .ok (.iload_n 1, 1) := by decide +kernel
theorem dX12_makersOf_16 : decode cX12_makersOf 16 = .ok (.invokevirtual 388, 3) := by decide +kernel
theorem dX12_makersOf_19 : decode cX12_makersOf 19 = .ok (.ifCond .eq 9, 3) := by decide +kernel
theorem dX12_makersOf_22 : decode cX12_makersOf 22 = .ok (.iconst 1, 1) := by decide +kernel
theorem dX12_makersOf_23 : decode cX12_makersOf 23 = .ok (.iload_n 3, 1) := by decide +kernel
theorem dX12_makersOf_24 : decode cX12_makersOf 24 = .ok (.ishl, 1) := by decide +kernel
theorem dX12_makersOf_25 : decode cX12_makersOf 25 = .ok (.goto 4, 3) := by decide +kernel
theorem dX12_makersOf_28 : decode cX12_makersOf 28 = .ok (.iconst 0, 1) := by decide +kernel
theorem dX12_makersOf_29 : decode cX12_makersOf 29 = .ok (.ior, 1) := by decide +kernel
theorem dX12_makersOf_30 : decode cX12_makersOf 30 = .ok (.istore_n 2, 1) := by decide +kernel
theorem dX12_makersOf_31 : decode cX12_makersOf 31 = .ok (.iinc 3 1, 3) := by decide +kernel
theorem dX12_makersOf_34 : decode cX12_makersOf 34 = .ok (.goto (-30), 3) := by decide +kernel
theorem dX12_makersOf_37 : decode cX12_makersOf 37 = .ok (.iload_n 2, 1) := by decide +kernel
theorem dX12_makersOf_38 : decode cX12_makersOf 38 = .ok (.ireturn, 1) := by decide +kernel
def w_X12_makersOf_4 (I : mI) (o : Nat) (a1 : Int32) (post : Int32 → Prop) (v2 : Int32) (v3 : Int32) : Prop := ∀ ZZ : (Int32 → Int32 → Prop), (∀ (v2 : Int32) (v3 : Int32), (w_X12_people I o (fun r1 => (r1 ≤ v3 → post v2) ∧ (¬ r1 ≤ v3 → w_X12_madeOn I o v3 a1 (fun r2 => (r2 = 0 → ∀ x3, x3 = (v2 ||| 0) → ∀ x4, x4 = v3 + 1 → ZZ x3 x4) ∧ (¬ r2 = 0 → ∀ x5, x5 = (v2 ||| (1 <<< (v3 &&& 31))) → ∀ x6, x6 = v3 + 1 → ZZ x5 x6))))) → ZZ v2 v3) → ZZ v2 v3
set_option maxRecDepth 100000 in
set_option maxHeartbeats 4000000 in
theorem s_X12_makersOf_4 {p : Program} {l : Launch} {e : Env} {s : State} {m : MethodId} {args : Array Value} {below : List Frame} {meth : Method} {c : Code} {D : va_G} {cA : Nat → ClassId} {Z : mZ} {bs : Ad} {n : Nat} {K : mK} {R : mR} {I : mI} {L : mL} (E : Ev p s m args c cX12_makersOf 4 RX12 D cA Z bs) (hr : meth.sig.returnType = (some .int)) (hlk : meth.locks = false) {o : Nat} {a1 : Int32} (ho : isX12 K R o) {post : Int32 → Prop} {v2 : Int32} {v3 : Int32} {H : Heap} {locs : List Loc} {ls : Array Slot} (hw : w_X12_makersOf_4 I o a1 post v2 v3) (hM : mm D cA bs (n, K, R, I, L) H) (hS : va_S (Ab bs) s.heap H locs) (hl : lv_has ls 4 [(0, .ref (ad bs o)), (1, .int a1), (2, .int v2), (3, .int v3)]) : W p l e ({ frames := 5, cells := 0, slots := 0, locals := 117 } : Room) s m args below meth c H locs 0 0 (MQ below (QI D cA bs (fun r u => u = (n, K, R, I, L) ∧ post r)) args s 0 0 (Ab bs)) (F0 m 4 ls []) := by
  have hx := E.1.1
  have hb := E.1.2.1
  refine hw (fun v2 v3 => ∀ (H : Heap) (locs : List Loc) (ls : Array Slot), mm D cA bs (n, K, R, I, L) H → va_S (Ab bs) s.heap H locs → lv_has ls 4 [(0, .ref (ad bs o)), (1, .int a1), (2, .int v2), (3, .int v3)] → W p l e ({ frames := 5, cells := 0, slots := 0, locals := 117 } : Room) s m args below meth c H locs 0 0 (MQ below (QI D cA bs (fun r u => u = (n, K, R, I, L) ∧ post r)) args s 0 0 (Ab bs)) (F0 m 4 ls [])) ?_ H locs ls hM hS hl
  clear hw hM hS hl
  intro v2 v3 hw H locs ls hM hS hl
  refine lv_iload_n hx hb dX12_makersOf_4 rfl (lv_at hl 3 rfl) ?_
  refine lv_aload_n hx hb dX12_makersOf_5 rfl (lv_at hl 0 rfl) ?_
  refine m_ci (m_runV E hM hS cs_X12_208 ho.1 (by decide) rfl rfl (c_X12_people ho hw) rfl rfl ⟨Nat.le_of_ble_eq_true rfl, Nat.le_of_ble_eq_true rfl⟩ rfl hl.1 rfl (Nat.le_of_ble_eq_true rfl) dX12_makersOf_6 ⟨Nat.le_of_ble_eq_true rfl, Nat.le_of_ble_eq_true rfl⟩) hS (fun r1 u H locs hp hM hS => ?_)
  obtain ⟨rfl, hw⟩ := hp
  refine lv_icmp_ge (tgt := 37) hx hb dX12_makersOf_9 (by decide) (fun cq => ?_) (fun cq => ?_)
  · have hw := hw.1 cq
    refine lv_iload_n hx hb dX12_makersOf_37 rfl (lv_at hl 2 rfl) ?_
    exact m_reti hx hb hr hlk hM hS ⟨rfl, hw⟩ dX12_makersOf_38
  · have hw := hw.2 cq
    refine lv_iload_n hx hb dX12_makersOf_12 rfl (lv_at hl 2 rfl) ?_
    refine lv_aload_n hx hb dX12_makersOf_13 rfl (lv_at hl 0 rfl) ?_
    refine lv_iload_n hx hb dX12_makersOf_14 rfl (lv_at hl 3 rfl) ?_
    refine lv_iload_n hx hb dX12_makersOf_15 rfl (lv_at hl 1 rfl) ?_
    refine m_ci (m_runV E hM hS cs_X12_388 ho.1 (by decide) rfl rfl (c_X12_madeOn ho hw) rfl rfl ⟨Nat.le_of_ble_eq_true rfl, Nat.le_of_ble_eq_true rfl⟩ rfl hl.1 rfl (Nat.le_of_ble_eq_true rfl) dX12_makersOf_16 ⟨Nat.le_of_ble_eq_true rfl, Nat.le_of_ble_eq_true rfl⟩) hS (fun r2 u H locs hp hM hS => ?_)
    obtain ⟨rfl, hw⟩ := hp
    refine lv_if_eq (tgt := 28) hx hb dX12_makersOf_19 (by decide) (fun cq => ?_) (fun cq => ?_)
    · have hw := hw.1 cq
      refine lv_iconst (v := 0) hx hb dX12_makersOf_28 (by decide) ?_
      refine lv_ior hx hb dX12_makersOf_29 ?_
      refine lv_topi (fun x3 ex3 => ?_)
      have hw := hw x3 ex3
      refine lv_istore_n (lv' := [(2, .int x3), (0, .ref (ad bs o)), (1, .int a1), (3, .int v3)]) hx hb dX12_makersOf_30 rfl hl (by decide) rfl (fun ls hl => ?_)
      obtain ⟨x4, ex4⟩ : ∃ y : Int32, y = v3 + 1 := ⟨_, rfl⟩
      have hw := hw x4 ex4
      refine lv_iinc (v := x4) (lv' := [(3, .int x4), (2, .int x3), (0, .ref (ad bs o)), (1, .int a1)]) hx hb dX12_makersOf_31 hl (k := 3) rfl (by rw [ex4]; rfl) (by decide) rfl (fun ls hl => ?_)
      refine lv_goto (tgt := 4) hx hb dX12_makersOf_34 (by decide) ?_
      exact hw H locs ls  hM hS (lv_sub hl [2, 3, 1, 0] rfl)
    · have hw := hw.2 cq
      refine lv_iconst (v := 1) hx hb dX12_makersOf_22 (by decide) ?_
      refine lv_iload_n hx hb dX12_makersOf_23 rfl (lv_at hl 3 rfl) ?_
      refine lv_ishl hx hb dX12_makersOf_24 ?_
      refine lv_goto (tgt := 29) hx hb dX12_makersOf_25 (by decide) ?_
      refine lv_ior hx hb dX12_makersOf_29 ?_
      refine lv_topi (fun x5 ex5 => ?_)
      have hw := hw x5 ex5
      refine lv_istore_n (lv' := [(2, .int x5), (0, .ref (ad bs o)), (1, .int a1), (3, .int v3)]) hx hb dX12_makersOf_30 rfl hl (by decide) rfl (fun ls hl => ?_)
      obtain ⟨x6, ex6⟩ : ∃ y : Int32, y = v3 + 1 := ⟨_, rfl⟩
      have hw := hw x6 ex6
      refine lv_iinc (v := x6) (lv' := [(3, .int x6), (2, .int x5), (0, .ref (ad bs o)), (1, .int a1)]) hx hb dX12_makersOf_31 hl (k := 3) rfl (by rw [ex6]; rfl) (by decide) rfl (fun ls hl => ?_)
      refine lv_goto (tgt := 4) hx hb dX12_makersOf_34 (by decide) ?_
      exact hw H locs ls  hM hS (lv_sub hl [2, 3, 1, 0] rfl)
def w_X12_makersOf (I : mI) (o : Nat) (a1 : Int32) (post : Int32 → Prop) : Prop := (w_X12_makersOf_4 I o a1 post) 0 0
set_option maxRecDepth 100000 in
set_option maxHeartbeats 4000000 in
theorem c_X12_makersOf {l : Launch} {D : va_G} {cA : Nat → ClassId} {Z : mZ} {bs : Ad} {n : Nat} {K : mK} {R : mR} {I : mI} {L : mL} {o : Nat} {a1 : Int32} {post : Int32 → Prop} (ho : isX12 K R o) (hw : w_X12_makersOf I o a1 post) : Met l yX12_makersOf (.code yX12_makersOf cX12_makersOf 4 (some .int) :: gw) ({ frames := 5, cells := 0, slots := 0, locals := 117 } : Room) (PreM D cA Z bs (n, K, R, I, L) [.ref (ad bs o), .int a1]) (QI D cA bs (fun r u => u = (n, K, R, I, L) ∧ post r)) 0 0 (Ab bs) := by
  refine m_met (by decide) (Nat.le_of_ble_eq_true rfl) (fun p e s m below meth c ls E hr hlk hM hS hl => ?_)
  have E : Ev p s m _ c cX12_makersOf 4 RX12 D cA Z bs := E
  have hl : lv_has ls 4 [(0, .ref (ad bs o)), (1, .int a1)] := hl
  have hx := E.1.1
  have hb := E.1.2.1
  generalize hHe : s.heap = H at hM ⊢
  have hS : va_S (Ab bs) s.heap H [] := by rw [← hHe]; exact va_S.rf
  clear hHe
  refine lv_iconst (v := 0) hx hb dX12_makersOf_0 (by decide) ?_
  refine lv_istore_n (lv' := [(2, .int 0), (0, .ref (ad bs o)), (1, .int a1)]) hx hb dX12_makersOf_1 rfl hl (by decide) rfl (fun ls hl => ?_)
  refine lv_iconst (v := 0) hx hb dX12_makersOf_2 (by decide) ?_
  refine lv_istore_n (lv' := [(3, .int 0), (2, .int 0), (0, .ref (ad bs o)), (1, .int a1)]) hx hb dX12_makersOf_3 rfl hl (by decide) rfl (fun ls hl => ?_)
  exact s_X12_makersOf_4 E hr hlk ho  hw hM hS (lv_sub hl [2, 3, 1, 0] rfl)
theorem dX12_makers_0 : decode cX12_makers 0 = .ok (.aload_n 0, 1) := by decide +kernel
theorem dX12_makers_1 : decode cX12_makers 1 = .ok (.iload_n 1, 1) := by decide +kernel
theorem dX12_makers_2 : decode cX12_makers 2 = .ok (.iload_n 2, 1) := by decide +kernel
theorem dX12_makers_3 : decode cX12_makers 3 = .ok (.invokevirtual 391, 3) := by decide +kernel
theorem dX12_makers_6 : decode cX12_makers 6 = .ok (.ifCond .eq 17, 3) := by decide +kernel
theorem dX12_makers_9 : decode cX12_makers 9 = .ok (.iload_n 3, 1) := by decide +kernel
theorem dX12_makers_10 : decode cX12_makers 10 = .ok (.iconst (-1), 1) := by decide +kernel
theorem dX12_makers_11 : decode cX12_makers 11 = .ok (.aload_n 0, 1) := by decide +kernel
theorem dX12_makers_12 : decode cX12_makers 12 = .ok (.invokevirtual 376, 3) := by decide +kernel
theorem dX12_makers_15 : decode cX12_makers 15 = .ok (.iconst 1, 1) := by decide +kernel
theorem dX12_makers_16 : decode cX12_makers 16 = .ok (.isub, 1) := by decide +kernel
theorem dX12_makers_17 : decode cX12_makers 17 = .ok (.invokestatic 133, 3) := by decide +kernel
theorem dX12_makers_20 : decode cX12_makers 20 = .ok (.ifCond .ne 6, 3) := by decide +kernel
theorem dX12_makers_23 : decode cX12_makers 23 = .ok (.bipush (-2), 2) := by decide +kernel
theorem dX12_makers_25 : decode cX12_makers 25 = .ok (.ireturn, 1) := by decide +kernel
theorem dX12_makers_26 : decode cX12_makers 26 = .ok (.iload_n 3, 1) := by decide +kernel
theorem dX12_makers_27 : decode cX12_makers 27 = .ok (.iconst (-1), 1) := by decide +kernel
theorem dX12_makers_28 : decode cX12_makers 28 = .ok (.if_icmp .eq 9, 3) := by decide +kernel
theorem dX12_makers_31 : decode cX12_makers 31 = .ok (.aload_n 0, 1) := by decide +kernel
theorem dX12_makers_32 : decode cX12_makers 32 = .ok (.iload_n 3, 1) := by decide +kernel
theorem dX12_makers_33 : decode cX12_makers 33 = .ok (.invokevirtual 394, 3) := by decide +kernel
theorem dX12_makers_36 : decode cX12_makers 36 = .ok (.ireturn, 1) := by decide +kernel
theorem dX12_makers_37 : decode cX12_makers 37 = .ok (.iconst 0, 1) := by decide +kernel
theorem dX12_makers_38 : decode cX12_makers 38 = .ok (.istore 4, 2) := by decide +kernel
theorem dX12_makers_40 : decode cX12_makers 40 = .ok (.iconst 0, 1) := by decide +kernel
theorem dX12_makers_41 : decode cX12_makers 41 = .ok (.istore 5, 2) := by decide +kernel
theorem dX12_makers_43 : decode cX12_makers 43 = .ok (.iload 5, 2) := by decide +kernel
theorem dX12_makers_45 : decode cX12_makers 45 = .ok (.aload_n 0, 1) := by decide +kernel
theorem dX12_makers_46 : decode cX12_makers 46 = .ok (.invokevirtual 376, 3) := by decide +kernel
theorem dX12_makers_49 : decode cX12_makers 49 = .ok (.if_icmp .ge 31, 3) := by decide +kernel
theorem dX12_makers_52 : decode cX12_makers 52 = .ok (.iload 4, 2) := by decide +kernel
theorem dX12_makers_54 : decode cX12_makers 54 = .ok (.aload_n 0, 1) := by decide +kernel
theorem dX12_makers_55 : decode cX12_makers 55 = .ok (.iload 5, 2) := by decide +kernel
theorem dX12_makers_57 : decode cX12_makers 57 = .ok (.invokevirtual 394, 3) := by decide +kernel
theorem dX12_makers_60 : decode cX12_makers 60 = .ok (.ifCond .ne 10, 3) := by decide +kernel
theorem dX12_makers_63 : decode cX12_makers 63 = .ok (.iconst 1, 1) := by decide +kernel
theorem dX12_makers_64 : decode cX12_makers 64 = .ok (.iload 5, 2) := by decide +kernel
theorem dX12_makers_66 : decode cX12_makers 66 = .ok (.ishl, 1) := by decide +kernel
theorem dX12_makers_67 : decode cX12_makers 67 = .ok (.goto 4, 3) := by decide +kernel
theorem dX12_makers_70 : decode cX12_makers 70 = .ok (.iconst 0, 1) := by decide +kernel
theorem dX12_makers_71 : decode cX12_makers 71 = .ok (.ior, 1) := by decide +kernel
theorem dX12_makers_72 : decode cX12_makers 72 = .ok (.istore 4, 2) := by decide +kernel
theorem dX12_makers_74 : decode cX12_makers 74 = .ok (.iinc 5 1, 3) := by decide +kernel
theorem dX12_makers_77 : decode cX12_makers 77 = .ok (.goto (-34), 3) := by decide +kernel
theorem dX12_makers_80 : decode cX12_makers 80 = .ok (.iload 4, 2) := by decide +kernel
theorem dX12_makers_82 : decode cX12_makers 82 = .ok (.ireturn, 1) := by decide +kernel
def w_X12_makers_43 (o : Nat) (a1 : Int32) (a2 : Int32) (a3 : Int32) (post : Int32 → mI → Prop) (I : mI) (v4 : Int32) (v5 : Int32) : Prop := ∀ ZZ : (mI → Int32 → Int32 → Prop), (∀ (I : mI) (v4 : Int32) (v5 : Int32), (w_X12_sounds I o (fun r6 => (r6 ≤ v5 → post v4 I) ∧ (¬ r6 ≤ v5 → w_X12_makersOf I o v5 (fun r7 => (¬ r7 = 0 → ∀ x8, x8 = (v4 ||| 0) → ∀ x9, x9 = v5 + 1 → ZZ I x8 x9) ∧ (r7 = 0 → ∀ x10, x10 = (v4 ||| (1 <<< (v5 &&& 31))) → ∀ x11, x11 = v5 + 1 → ZZ I x10 x11))))) → ZZ I v4 v5) → ZZ I v4 v5
set_option maxRecDepth 100000 in
set_option maxHeartbeats 4000000 in
theorem s_X12_makers_43 {p : Program} {l : Launch} {e : Env} {s : State} {m : MethodId} {args : Array Value} {below : List Frame} {meth : Method} {c : Code} {D : va_G} {cA : Nat → ClassId} {Z : mZ} {bs : Ad} {n : Nat} {K : mK} {R : mR} {L : mL} (E : Ev p s m args c cX12_makers 6 RX12 D cA Z bs) (hr : meth.sig.returnType = (some .int)) (hlk : meth.locks = false) {o : Nat} {a1 : Int32} {a2 : Int32} {a3 : Int32} (ho : isX12 K R o) {post : Int32 → mI → Prop} {I : mI} {v4 : Int32} {v5 : Int32} {H : Heap} {locs : List Loc} {ls : Array Slot} (hw : w_X12_makers_43 o a1 a2 a3 post I v4 v5) (hM : mm D cA bs (n, K, R, I, L) H) (hS : va_S (Ab bs) s.heap H locs) (hl : lv_has ls 6 [(0, .ref (ad bs o)), (4, .int v4), (5, .int v5)]) : W p l e ({ frames := 6, cells := 0, slots := 0, locals := 140 } : Room) s m args below meth c H locs 0 0 (MQ below (QI D cA bs (fun r u => ∃ I', u = (n, K, R, I', L) ∧ post r I')) args s 0 0 (Ab bs)) (F0 m 43 ls []) := by
  have hx := E.1.1
  have hb := E.1.2.1
  refine hw (fun I v4 v5 => ∀ (H : Heap) (locs : List Loc) (ls : Array Slot), mm D cA bs (n, K, R, I, L) H → va_S (Ab bs) s.heap H locs → lv_has ls 6 [(0, .ref (ad bs o)), (4, .int v4), (5, .int v5)] → W p l e ({ frames := 6, cells := 0, slots := 0, locals := 140 } : Room) s m args below meth c H locs 0 0 (MQ below (QI D cA bs (fun r u => ∃ I', u = (n, K, R, I', L) ∧ post r I')) args s 0 0 (Ab bs)) (F0 m 43 ls [])) ?_ H locs ls hM hS hl
  clear hw hM hS hl
  intro I v4 v5 hw H locs ls hM hS hl
  refine lv_iload hx hb dX12_makers_43 (lv_at hl 2 rfl) ?_
  refine lv_aload_n hx hb dX12_makers_45 rfl (lv_at hl 0 rfl) ?_
  refine m_ci (m_runV E hM hS cs_X12_376 ho.1 (by decide) rfl rfl (c_X12_sounds ho hw) rfl rfl ⟨Nat.le_of_ble_eq_true rfl, Nat.le_of_ble_eq_true rfl⟩ rfl hl.1 rfl (Nat.le_of_ble_eq_true rfl) dX12_makers_46 ⟨Nat.le_of_ble_eq_true rfl, Nat.le_of_ble_eq_true rfl⟩) hS (fun r6 u H locs hp hM hS => ?_)
  obtain ⟨rfl, hw⟩ := hp
  refine lv_icmp_ge (tgt := 80) hx hb dX12_makers_49 (by decide) (fun cq => ?_) (fun cq => ?_)
  · have hw := hw.1 cq
    refine lv_iload hx hb dX12_makers_80 (lv_at hl 1 rfl) ?_
    exact m_reti hx hb hr hlk hM hS ⟨_, rfl, hw⟩ dX12_makers_82
  · have hw := hw.2 cq
    refine lv_iload hx hb dX12_makers_52 (lv_at hl 1 rfl) ?_
    refine lv_aload_n hx hb dX12_makers_54 rfl (lv_at hl 0 rfl) ?_
    refine lv_iload hx hb dX12_makers_55 (lv_at hl 2 rfl) ?_
    refine m_ci (m_runV E hM hS cs_X12_394 ho.1 (by decide) rfl rfl (c_X12_makersOf ho hw) rfl rfl ⟨Nat.le_of_ble_eq_true rfl, Nat.le_of_ble_eq_true rfl⟩ rfl hl.1 rfl (Nat.le_of_ble_eq_true rfl) dX12_makers_57 ⟨Nat.le_of_ble_eq_true rfl, Nat.le_of_ble_eq_true rfl⟩) hS (fun r7 u H locs hp hM hS => ?_)
    obtain ⟨rfl, hw⟩ := hp
    refine lv_if_ne (tgt := 70) hx hb dX12_makers_60 (by decide) (fun cq => ?_) (fun cq => ?_)
    · have hw := hw.1 cq
      refine lv_iconst (v := 0) hx hb dX12_makers_70 (by decide) ?_
      refine lv_ior hx hb dX12_makers_71 ?_
      refine lv_topi (fun x8 ex8 => ?_)
      have hw := hw x8 ex8
      refine lv_istore (lv' := [(4, .int x8), (0, .ref (ad bs o)), (5, .int v5)]) hx hb dX12_makers_72 hl (by decide) rfl (fun ls hl => ?_)
      obtain ⟨x9, ex9⟩ : ∃ y : Int32, y = v5 + 1 := ⟨_, rfl⟩
      have hw := hw x9 ex9
      refine lv_iinc (v := x9) (lv' := [(5, .int x9), (4, .int x8), (0, .ref (ad bs o))]) hx hb dX12_makers_74 hl (k := 2) rfl (by rw [ex9]; rfl) (by decide) rfl (fun ls hl => ?_)
      refine lv_goto (tgt := 43) hx hb dX12_makers_77 (by decide) ?_
      exact hw H locs ls  hM hS (lv_sub hl [2, 1, 0] rfl)
    · have hw := hw.2 cq
      refine lv_iconst (v := 1) hx hb dX12_makers_63 (by decide) ?_
      refine lv_iload hx hb dX12_makers_64 (lv_at hl 2 rfl) ?_
      refine lv_ishl hx hb dX12_makers_66 ?_
      refine lv_goto (tgt := 71) hx hb dX12_makers_67 (by decide) ?_
      refine lv_ior hx hb dX12_makers_71 ?_
      refine lv_topi (fun x10 ex10 => ?_)
      have hw := hw x10 ex10
      refine lv_istore (lv' := [(4, .int x10), (0, .ref (ad bs o)), (5, .int v5)]) hx hb dX12_makers_72 hl (by decide) rfl (fun ls hl => ?_)
      obtain ⟨x11, ex11⟩ : ∃ y : Int32, y = v5 + 1 := ⟨_, rfl⟩
      have hw := hw x11 ex11
      refine lv_iinc (v := x11) (lv' := [(5, .int x11), (4, .int x10), (0, .ref (ad bs o))]) hx hb dX12_makers_74 hl (k := 2) rfl (by rw [ex11]; rfl) (by decide) rfl (fun ls hl => ?_)
      refine lv_goto (tgt := 43) hx hb dX12_makers_77 (by decide) ?_
      exact hw H locs ls  hM hS (lv_sub hl [2, 1, 0] rfl)
def w_X12_makers (I : mI) (o : Nat) (a1 : Int32) (a2 : Int32) (a3 : Int32) (post : Int32 → mI → Prop) : Prop := w_X12_areRead I o a1 a2 (fun b1 I2 => (b1 = false → post (-2) I2) ∧ (b1 = true → w_X12_sounds I2 o (fun r3 => w_X12_isIn a3 (-1) (r3 - 1) (fun b4 => (b4 = true → (a3 = (-1) → (w_X12_makers_43 o a1 a2 a3 post) I2 0 0) ∧ (¬ a3 = (-1) → w_X12_makersOf I2 o a3 (fun r5 => post r5 I2))) ∧ (b4 = false → post (-2) I2)))))
set_option maxRecDepth 100000 in
set_option maxHeartbeats 4000000 in
theorem c_X12_makers {l : Launch} {D : va_G} {cA : Nat → ClassId} {Z : mZ} {bs : Ad} {n : Nat} {K : mK} {R : mR} {I : mI} {L : mL} {o : Nat} {a1 : Int32} {a2 : Int32} {a3 : Int32} {post : Int32 → mI → Prop} (ho : isX12 K R o) (hw : w_X12_makers I o a1 a2 a3 post) : Met l yX12_makers (.code yX12_makers cX12_makers 6 (some .int) :: gw) ({ frames := 6, cells := 0, slots := 0, locals := 140 } : Room) (PreM D cA Z bs (n, K, R, I, L) [.ref (ad bs o), .int a1, .int a2, .int a3]) (QI D cA bs (fun r u => ∃ I', u = (n, K, R, I', L) ∧ post r I')) 0 0 (Ab bs) := by
  refine m_met (by decide) (Nat.le_of_ble_eq_true rfl) (fun p e s m below meth c ls E hr hlk hM hS hl => ?_)
  have E : Ev p s m _ c cX12_makers 6 RX12 D cA Z bs := E
  have hl : lv_has ls 6 [(0, .ref (ad bs o)), (1, .int a1), (2, .int a2), (3, .int a3)] := hl
  have hx := E.1.1
  have hb := E.1.2.1
  generalize hHe : s.heap = H at hM ⊢
  have hS : va_S (Ab bs) s.heap H [] := by rw [← hHe]; exact va_S.rf
  clear hHe
  refine lv_aload_n hx hb dX12_makers_0 rfl (lv_at hl 0 rfl) ?_
  refine lv_iload_n hx hb dX12_makers_1 rfl (lv_at hl 1 rfl) ?_
  refine lv_iload_n hx hb dX12_makers_2 rfl (lv_at hl 2 rfl) ?_
  refine m_ci (m_runV E hM hS cs_X12_391 ho.1 (by decide) rfl rfl (c_X12_areRead ho hw) rfl rfl ⟨Nat.le_of_ble_eq_true rfl, Nat.le_of_ble_eq_true rfl⟩ rfl hl.1 rfl (Nat.le_of_ble_eq_true rfl) dX12_makers_3 ⟨Nat.le_of_ble_eq_true rfl, Nat.le_of_ble_eq_true rfl⟩) hS (fun r9 u H locs hp hM hS => ?_)
  obtain ⟨b1, rfl, I2, rfl, hw⟩ := hp
  refine lv_if_eq (tgt := 23) hx hb dX12_makers_6 (by decide) (fun cq => ?_) (fun cq => ?_)
  · have hw := hw.1 (bI_f cq)
    refine lv_bipush (v := (-2)) hx hb dX12_makers_23 (by decide) ?_
    exact m_reti hx hb hr hlk hM hS ⟨_, rfl, hw⟩ dX12_makers_25
  · have hw := hw.2 (bI_t cq)
    refine lv_iload_n hx hb dX12_makers_9 rfl (lv_at hl 3 rfl) ?_
    refine lv_iconst (v := (-1)) hx hb dX12_makers_10 (by decide) ?_
    refine lv_aload_n hx hb dX12_makers_11 rfl (lv_at hl 0 rfl) ?_
    refine m_ci (m_runV E hM hS cs_X12_376 ho.1 (by decide) rfl rfl (c_X12_sounds ho hw) rfl rfl ⟨Nat.le_of_ble_eq_true rfl, Nat.le_of_ble_eq_true rfl⟩ rfl hl.1 rfl (Nat.le_of_ble_eq_true rfl) dX12_makers_12 ⟨Nat.le_of_ble_eq_true rfl, Nat.le_of_ble_eq_true rfl⟩) hS (fun r3 u H locs hp hM hS => ?_)
    obtain ⟨rfl, hw⟩ := hp
    refine lv_iconst (v := 1) hx hb dX12_makers_15 (by decide) ?_
    refine lv_isub hx hb dX12_makers_16 ?_
    refine m_ci (m_runS E hM hS cs_X12_133 (c_X12_isIn  hw) rfl rfl ⟨Nat.le_of_ble_eq_true rfl, Nat.le_of_ble_eq_true rfl⟩ rfl hl.1 rfl (Nat.le_of_ble_eq_true rfl) dX12_makers_17 ⟨Nat.le_of_ble_eq_true rfl, Nat.le_of_ble_eq_true rfl⟩) hS (fun r9 u H locs hp hM hS => ?_)
    obtain ⟨b4, rfl, rfl, hw⟩ := hp
    refine lv_if_ne (tgt := 26) hx hb dX12_makers_20 (by decide) (fun cq => ?_) (fun cq => ?_)
    · have hw := hw.1 (bI_t cq)
      refine lv_iload_n hx hb dX12_makers_26 rfl (lv_at hl 3 rfl) ?_
      refine lv_iconst (v := (-1)) hx hb dX12_makers_27 (by decide) ?_
      refine lv_icmp_eq (tgt := 37) hx hb dX12_makers_28 (by decide) (fun cq => ?_) (fun cq => ?_)
      · have hw := hw.1 cq
        refine lv_iconst (v := 0) hx hb dX12_makers_37 (by decide) ?_
        refine lv_istore (lv' := [(4, .int 0), (0, .ref (ad bs o)), (1, .int a1), (2, .int a2), (3, .int a3)]) hx hb dX12_makers_38 hl (by decide) rfl (fun ls hl => ?_)
        refine lv_iconst (v := 0) hx hb dX12_makers_40 (by decide) ?_
        refine lv_istore (lv' := [(5, .int 0), (4, .int 0), (0, .ref (ad bs o)), (1, .int a1), (2, .int a2), (3, .int a3)]) hx hb dX12_makers_41 hl (by decide) rfl (fun ls hl => ?_)
        exact s_X12_makers_43 E hr hlk ho  hw hM hS (lv_sub hl [2, 1, 0] rfl)
      · have hw := hw.2 cq
        refine lv_aload_n hx hb dX12_makers_31 rfl (lv_at hl 0 rfl) ?_
        refine lv_iload_n hx hb dX12_makers_32 rfl (lv_at hl 3 rfl) ?_
        refine m_ci (m_runV E hM hS cs_X12_394 ho.1 (by decide) rfl rfl (c_X12_makersOf ho hw) rfl rfl ⟨Nat.le_of_ble_eq_true rfl, Nat.le_of_ble_eq_true rfl⟩ rfl hl.1 rfl (Nat.le_of_ble_eq_true rfl) dX12_makers_33 ⟨Nat.le_of_ble_eq_true rfl, Nat.le_of_ble_eq_true rfl⟩) hS (fun r5 u H locs hp hM hS => ?_)
        obtain ⟨rfl, hw⟩ := hp
        exact m_reti hx hb hr hlk hM hS ⟨_, rfl, hw⟩ dX12_makers_36
    · have hw := hw.2 (bI_f cq)
      refine lv_bipush (v := (-2)) hx hb dX12_makers_23 (by decide) ?_
      exact m_reti hx hb hr hlk hM hS ⟨_, rfl, hw⟩ dX12_makers_25
theorem dX12_sorts_0 : decode cX12_sorts 0 = .ok (.aload_n 0, 1) := by decide +kernel
theorem dX12_sorts_1 : decode cX12_sorts 1 = .ok (.iconst 0, 1) := by decide +kernel
theorem dX12_sorts_2 : decode cX12_sorts 2 = .ok (.putfield 397, 3) := by decide +kernel
theorem dX12_sorts_5 : decode cX12_sorts 5 = .ok (.iconst 0, 1) := by decide +kernel
theorem dX12_sorts_6 : decode cX12_sorts 6 = .ok (.istore_n 2, 1) := by decide +kernel
theorem dX12_sorts_7 : decode cX12_sorts 7 = .ok (.iload_n 2, 1) := by decide +kernel
theorem dX12_sorts_8 : decode cX12_sorts 8 = .ok (.bipush 100, 2) := by decide +kernel
theorem dX12_sorts_10 : decode cX12_sorts 10 = .ok (.if_icmp .ge 67, 3) := by decide +kernel
theorem dX12_sorts_13 : decode cX12_sorts 13 = .ok (.iconst 0, 1) := by decide +kernel
theorem dX12_sorts_14 : decode cX12_sorts 14 = .ok (.istore_n 3, 1) := by decide +kernel
theorem dX12_sorts_15 : decode cX12_sorts 15 = .ok (.iload_n 3, 1) := by decide +kernel
theorem dX12_sorts_16 : decode cX12_sorts 16 = .ok (.aload_n 0, 1) := by decide +kernel
theorem dX12_sorts_17 : decode cX12_sorts 17 = .ok (.invokevirtual 376, 3) := by decide +kernel
theorem dX12_sorts_20 : decode cX12_sorts 20 = .ok (.if_icmp .ge 51, 3) := by decide +kernel
theorem dX12_sorts_23 : decode cX12_sorts 23 = .ok (.aload_n 0, 1) := by decide +kernel
theorem dX12_sorts_24 : decode cX12_sorts 24 = .ok (.iload_n 3, 1) := by decide +kernel
theorem dX12_sorts_25 : decode cX12_sorts 25 = .ok (.iconst 1, 1) := by decide +kernel
theorem dX12_sorts_26 : decode cX12_sorts 26 = .ok (.invokevirtual 379, 3) := by decide +kernel
theorem dX12_sorts_29 : decode cX12_sorts 29 = .ok (.iload_n 2, 1) := by decide +kernel
theorem dX12_sorts_30 : decode cX12_sorts 30 = .ok (.if_icmp .ne 35, 3) := by decide +kernel
theorem dX12_sorts_33 : decode cX12_sorts 33 = .ok (.aload_n 0, 1) := by decide +kernel
theorem dX12_sorts_34 : decode cX12_sorts 34 = .ok (.iload_n 1, 1) := by decide +kernel
theorem dX12_sorts_35 : decode cX12_sorts 35 = .ok (.iload_n 3, 1) := by decide +kernel
theorem dX12_sorts_36 : decode cX12_sorts 36 = .ok (.invokevirtual 382, 3) := by decide +kernel
theorem dX12_sorts_39 : decode cX12_sorts 39 = .ok (.ifCond .ne 6, 3) := by decide +kernel
theorem dX12_sorts_42 : decode cX12_sorts 42 = .ok (.goto 23, 3) := by decide +kernel
theorem dX12_sorts_45 : decode cX12_sorts 45 = .ok (.aload_n 0, 1) := by decide +kernel
theorem dX12_sorts_46 : decode cX12_sorts 46 = .ok (.getfield 68, 3) := by decide +kernel
theorem dX12_sorts_49 : decode cX12_sorts 49 = .ok (.aload_n 0, 1) := by decide +kernel
theorem dX12_sorts_50 : decode cX12_sorts 50 = .ok (.getfield 397, 3) := by decide +kernel
theorem dX12_sorts_53 : decode cX12_sorts 53 = .ok (.iload_n 3, 1) := by decide +kernel
theorem dX12_sorts_54 : decode cX12_sorts 54 = .ok (.iastore, 1) := by decide +kernel
theorem dX12_sorts_55 : decode cX12_sorts 55 = .ok (.aload_n 0, 1) := by decide +kernel
theorem dX12_sorts_56 : decode cX12_sorts 56 = .ok (.dup, 1) := by decide +kernel
theorem dX12_sorts_57 : decode cX12_sorts 57 = .ok (.getfield 397, 3) := by decide +kernel
theorem dX12_sorts_60 : decode cX12_sorts 60 = .ok (.iconst 1, 1) := by decide +kernel
theorem dX12_sorts_61 : decode cX12_sorts 61 = .ok (.iadd, 1) := by decide +kernel
theorem dX12_sorts_62 : decode cX12_sorts 62 = .ok (.putfield 397, 3) := by decide +kernel
theorem dX12_sorts_65 : decode cX12_sorts 65 = .ok (.iinc 3 1, 3) := by decide +kernel
theorem dX12_sorts_68 : decode cX12_sorts 68 = .ok (.goto (-53), 3) := by decide +kernel
theorem dX12_sorts_71 : decode cX12_sorts 71 = .ok (.iinc 2 1, 3) := by decide +kernel
theorem dX12_sorts_74 : decode cX12_sorts 74 = .ok (.goto (-67), 3) := by decide +kernel
theorem dX12_sorts_77 : decode cX12_sorts 77 = .ok (.return_, 1) := by decide +kernel
def w_X12_sorts_15 (o : Nat) (a1 : Int32) (post : mI → Prop) (k7 : mI → Int32 → Prop) (I : mI) (v2 : Int32) (v3 : Int32) : Prop := ∀ ZZ : (mI → Int32 → Int32 → Prop), (∀ (I : mI) (v2 : Int32) (v3 : Int32), (w_X12_sounds I o (fun r2 => (r2 ≤ v3 → ∀ x3, x3 = v2 + 1 → k7 I x3) ∧ (¬ r2 ≤ v3 → w_X12_soundOf I o v3 1 (fun r4 => (¬ r4 = v2 → ∀ x5, x5 = v3 + 1 → ZZ I v2 x5) ∧ (r4 = v2 → w_X12_isHis I o a1 v3 (fun b6 => (b6 = true → vp_in (I o 45) 10 ∧ ∀ I7, I7 = up2 I (o + 20) ((I o 45).toNatClampNeg) v3 → ∀ I8, I8 = up2 I7 o 45 ((I7 o 45) + 1) → ∀ x9, x9 = v3 + 1 → ZZ I8 v2 x9) ∧ (b6 = false → ∀ x10, x10 = v3 + 1 → ZZ I v2 x10))))))) → ZZ I v2 v3) → ZZ I v2 v3
set_option maxRecDepth 100000 in
set_option maxHeartbeats 4000000 in
theorem s_X12_sorts_15 {p : Program} {l : Launch} {e : Env} {s : State} {m : MethodId} {args : Array Value} {below : List Frame} {meth : Method} {c : Code} {D : va_G} {cA : Nat → ClassId} {Z : mZ} {bs : Ad} {n : Nat} {K : mK} {R : mR} {L : mL} (E : Ev p s m args c cX12_sorts 4 RX12 D cA Z bs) (hr : meth.sig.returnType = none) (hlk : meth.locks = false) {o : Nat} {a1 : Int32} (ho : isX12 K R o) {post : mI → Prop} {k7 : mI → Int32 → Prop} (hk7 : ∀ (I : mI) (v2 : Int32) (H : Heap) (locs : List Loc) (ls : Array Slot), k7 I v2 → mm D cA bs (n, K, R, I, L) H → va_S (Ab bs) s.heap H locs → lv_has ls 4 [(0, .ref (ad bs o)), (1, .int a1), (2, .int v2)] → W p l e ({ frames := 3, cells := 0, slots := 0, locals := 70 } : Room) s m args below meth c H locs 0 0 (MQ below (QV D cA bs (fun u => ∃ I', u = (n, K, R, I', L) ∧ post I')) args s 0 0 (Ab bs)) (F0 m 7 ls [])) {I : mI} {v2 : Int32} {v3 : Int32} {H : Heap} {locs : List Loc} {ls : Array Slot} (hw : w_X12_sorts_15 o a1 post k7 I v2 v3) (hM : mm D cA bs (n, K, R, I, L) H) (hS : va_S (Ab bs) s.heap H locs) (hl : lv_has ls 4 [(0, .ref (ad bs o)), (1, .int a1), (2, .int v2), (3, .int v3)]) : W p l e ({ frames := 3, cells := 0, slots := 0, locals := 70 } : Room) s m args below meth c H locs 0 0 (MQ below (QV D cA bs (fun u => ∃ I', u = (n, K, R, I', L) ∧ post I')) args s 0 0 (Ab bs)) (F0 m 15 ls []) := by
  have hx := E.1.1
  have hb := E.1.2.1
  refine hw (fun I v2 v3 => ∀ (H : Heap) (locs : List Loc) (ls : Array Slot), mm D cA bs (n, K, R, I, L) H → va_S (Ab bs) s.heap H locs → lv_has ls 4 [(0, .ref (ad bs o)), (1, .int a1), (2, .int v2), (3, .int v3)] → W p l e ({ frames := 3, cells := 0, slots := 0, locals := 70 } : Room) s m args below meth c H locs 0 0 (MQ below (QV D cA bs (fun u => ∃ I', u = (n, K, R, I', L) ∧ post I')) args s 0 0 (Ab bs)) (F0 m 15 ls [])) ?_ H locs ls hM hS hl
  clear hw hM hS hl
  intro I v2 v3 hw H locs ls hM hS hl
  refine lv_iload_n hx hb dX12_sorts_15 rfl (lv_at hl 3 rfl) ?_
  refine lv_aload_n hx hb dX12_sorts_16 rfl (lv_at hl 0 rfl) ?_
  refine m_ci (m_runV E hM hS cs_X12_376 ho.1 (by decide) rfl rfl (c_X12_sounds ho hw) rfl rfl ⟨Nat.le_of_ble_eq_true rfl, Nat.le_of_ble_eq_true rfl⟩ rfl hl.1 rfl (Nat.le_of_ble_eq_true rfl) dX12_sorts_17 ⟨Nat.le_of_ble_eq_true rfl, Nat.le_of_ble_eq_true rfl⟩) hS (fun r2 u H locs hp hM hS => ?_)
  obtain ⟨rfl, hw⟩ := hp
  refine lv_icmp_ge (tgt := 71) hx hb dX12_sorts_20 (by decide) (fun cq => ?_) (fun cq => ?_)
  · have hw := hw.1 cq
    obtain ⟨x3, ex3⟩ : ∃ y : Int32, y = v2 + 1 := ⟨_, rfl⟩
    have hw := hw x3 ex3
    refine lv_iinc (v := x3) (lv' := [(2, .int x3), (0, .ref (ad bs o)), (1, .int a1), (3, .int v3)]) hx hb dX12_sorts_71 hl (k := 2) rfl (by rw [ex3]; rfl) (by decide) rfl (fun ls hl => ?_)
    refine lv_goto (tgt := 7) hx hb dX12_sorts_74 (by decide) ?_
    exact hk7 _ _ H locs ls  hw hM hS (lv_sub hl [1, 2, 0] rfl)
  · have hw := hw.2 cq
    refine lv_aload_n hx hb dX12_sorts_23 rfl (lv_at hl 0 rfl) ?_
    refine lv_iload_n hx hb dX12_sorts_24 rfl (lv_at hl 3 rfl) ?_
    refine lv_iconst (v := 1) hx hb dX12_sorts_25 (by decide) ?_
    refine m_ci (m_runV E hM hS cs_X12_379 ho.1 (by decide) rfl rfl (c_X12_soundOf ho hw) rfl rfl ⟨Nat.le_of_ble_eq_true rfl, Nat.le_of_ble_eq_true rfl⟩ rfl hl.1 rfl (Nat.le_of_ble_eq_true rfl) dX12_sorts_26 ⟨Nat.le_of_ble_eq_true rfl, Nat.le_of_ble_eq_true rfl⟩) hS (fun r4 u H locs hp hM hS => ?_)
    obtain ⟨rfl, hw⟩ := hp
    refine lv_iload_n hx hb dX12_sorts_29 rfl (lv_at hl 2 rfl) ?_
    refine lv_icmp_ne (tgt := 65) hx hb dX12_sorts_30 (by decide) (fun cq => ?_) (fun cq => ?_)
    · have hw := hw.1 cq
      obtain ⟨x5, ex5⟩ : ∃ y : Int32, y = v3 + 1 := ⟨_, rfl⟩
      have hw := hw x5 ex5
      refine lv_iinc (v := x5) (lv' := [(3, .int x5), (0, .ref (ad bs o)), (1, .int a1), (2, .int v2)]) hx hb dX12_sorts_65 hl (k := 3) rfl (by rw [ex5]; rfl) (by decide) rfl (fun ls hl => ?_)
      refine lv_goto (tgt := 15) hx hb dX12_sorts_68 (by decide) ?_
      exact hw H locs ls  hM hS (lv_sub hl [1, 2, 3, 0] rfl)
    · have hw := hw.2 cq
      refine lv_aload_n hx hb dX12_sorts_33 rfl (lv_at hl 0 rfl) ?_
      refine lv_iload_n hx hb dX12_sorts_34 rfl (lv_at hl 1 rfl) ?_
      refine lv_iload_n hx hb dX12_sorts_35 rfl (lv_at hl 3 rfl) ?_
      refine m_ci (m_runV E hM hS cs_X12_382 ho.1 (by decide) rfl rfl (c_X12_isHis ho hw) rfl rfl ⟨Nat.le_of_ble_eq_true rfl, Nat.le_of_ble_eq_true rfl⟩ rfl hl.1 rfl (Nat.le_of_ble_eq_true rfl) dX12_sorts_36 ⟨Nat.le_of_ble_eq_true rfl, Nat.le_of_ble_eq_true rfl⟩) hS (fun r9 u H locs hp hM hS => ?_)
      obtain ⟨b6, rfl, rfl, hw⟩ := hp
      refine lv_if_ne (tgt := 45) hx hb dX12_sorts_39 (by decide) (fun cq => ?_) (fun cq => ?_)
      · have hw := hw.1 (bI_t cq)
        refine lv_aload_n hx hb dX12_sorts_45 rfl (lv_at hl 0 rfl) ?_
        refine m_getr E hM fs_X12_68 ho.1 (isO_at ho 19 rfl).1 dX12_sorts_46 ?_
        refine lv_aload_n hx hb dX12_sorts_49 rfl (lv_at hl 0 rfl) ?_
        refine m_geti E hM fs_X12_397 ho.1 dX12_sorts_50 ?_
        refine lv_iload_n hx hb dX12_sorts_53 rfl (lv_at hl 3 rfl) ?_
        obtain ⟨hv, hw⟩ := hw
        refine m_iast E hM hS (isO_at ho 19 rfl).2 hv dX12_sorts_54 (fun I7 H locs eI7 hM hS => ?_)
        have hw := hw I7 eI7
        refine lv_aload_n hx hb dX12_sorts_55 rfl (lv_at hl 0 rfl) ?_
        refine lv_dup hx hb dX12_sorts_56 rfl ?_
        refine m_geti E hM fs_X12_397 ho.1 dX12_sorts_57 ?_
        refine lv_iconst (v := 1) hx hb dX12_sorts_60 (by decide) ?_
        refine lv_iadd hx hb dX12_sorts_61 ?_
        refine m_puti E hM hS fp_X12_397 ho.1 rfl rfl dX12_sorts_62 (fun I8 H locs eI8 hM hS => ?_)
        have hw := hw I8 eI8
        obtain ⟨x9, ex9⟩ : ∃ y : Int32, y = v3 + 1 := ⟨_, rfl⟩
        have hw := hw x9 ex9
        refine lv_iinc (v := x9) (lv' := [(3, .int x9), (0, .ref (ad bs o)), (1, .int a1), (2, .int v2)]) hx hb dX12_sorts_65 hl (k := 3) rfl (by rw [ex9]; rfl) (by decide) rfl (fun ls hl => ?_)
        refine lv_goto (tgt := 15) hx hb dX12_sorts_68 (by decide) ?_
        exact hw H locs ls  hM hS (lv_sub hl [1, 2, 3, 0] rfl)
      · have hw := hw.2 (bI_f cq)
        refine lv_goto (tgt := 65) hx hb dX12_sorts_42 (by decide) ?_
        obtain ⟨x10, ex10⟩ : ∃ y : Int32, y = v3 + 1 := ⟨_, rfl⟩
        have hw := hw x10 ex10
        refine lv_iinc (v := x10) (lv' := [(3, .int x10), (0, .ref (ad bs o)), (1, .int a1), (2, .int v2)]) hx hb dX12_sorts_65 hl (k := 3) rfl (by rw [ex10]; rfl) (by decide) rfl (fun ls hl => ?_)
        refine lv_goto (tgt := 15) hx hb dX12_sorts_68 (by decide) ?_
        exact hw H locs ls  hM hS (lv_sub hl [1, 2, 3, 0] rfl)
def w_X12_sorts_7 (o : Nat) (a1 : Int32) (post : mI → Prop) (I : mI) (v2 : Int32) : Prop := ∀ ZZ : (mI → Int32 → Prop), (∀ (I : mI) (v2 : Int32), ((100 ≤ v2 → post I) ∧ (¬ 100 ≤ v2 → (w_X12_sorts_15 o a1 post ZZ) I v2 0)) → ZZ I v2) → ZZ I v2
set_option maxRecDepth 100000 in
set_option maxHeartbeats 4000000 in
theorem s_X12_sorts_7 {p : Program} {l : Launch} {e : Env} {s : State} {m : MethodId} {args : Array Value} {below : List Frame} {meth : Method} {c : Code} {D : va_G} {cA : Nat → ClassId} {Z : mZ} {bs : Ad} {n : Nat} {K : mK} {R : mR} {L : mL} (E : Ev p s m args c cX12_sorts 4 RX12 D cA Z bs) (hr : meth.sig.returnType = none) (hlk : meth.locks = false) {o : Nat} {a1 : Int32} (ho : isX12 K R o) {post : mI → Prop} {I : mI} {v2 : Int32} {H : Heap} {locs : List Loc} {ls : Array Slot} (hw : w_X12_sorts_7 o a1 post I v2) (hM : mm D cA bs (n, K, R, I, L) H) (hS : va_S (Ab bs) s.heap H locs) (hl : lv_has ls 4 [(0, .ref (ad bs o)), (1, .int a1), (2, .int v2)]) : W p l e ({ frames := 3, cells := 0, slots := 0, locals := 70 } : Room) s m args below meth c H locs 0 0 (MQ below (QV D cA bs (fun u => ∃ I', u = (n, K, R, I', L) ∧ post I')) args s 0 0 (Ab bs)) (F0 m 7 ls []) := by
  have hx := E.1.1
  have hb := E.1.2.1
  refine hw (fun I v2 => ∀ (H : Heap) (locs : List Loc) (ls : Array Slot), mm D cA bs (n, K, R, I, L) H → va_S (Ab bs) s.heap H locs → lv_has ls 4 [(0, .ref (ad bs o)), (1, .int a1), (2, .int v2)] → W p l e ({ frames := 3, cells := 0, slots := 0, locals := 70 } : Room) s m args below meth c H locs 0 0 (MQ below (QV D cA bs (fun u => ∃ I', u = (n, K, R, I', L) ∧ post I')) args s 0 0 (Ab bs)) (F0 m 7 ls [])) ?_ H locs ls hM hS hl
  clear hw hM hS hl
  intro I v2 hw H locs ls hM hS hl
  refine lv_iload_n hx hb dX12_sorts_7 rfl (lv_at hl 2 rfl) ?_
  refine lv_bipush (v := 100) hx hb dX12_sorts_8 (by decide) ?_
  refine lv_icmp_ge (tgt := 77) hx hb dX12_sorts_10 (by decide) (fun cq => ?_) (fun cq => ?_)
  · have hw := hw.1 cq
    exact m_retv hx hb hr hlk hM hS ⟨_, rfl, hw⟩ dX12_sorts_77
  · have hw := hw.2 cq
    refine lv_iconst (v := 0) hx hb dX12_sorts_13 (by decide) ?_
    refine lv_istore_n (lv' := [(3, .int 0), (0, .ref (ad bs o)), (1, .int a1), (2, .int v2)]) hx hb dX12_sorts_14 rfl hl (by decide) rfl (fun ls hl => ?_)
    exact s_X12_sorts_15 E hr hlk ho (fun I v2 H locs ls  hw hM hS hl => hw H locs ls  hM hS hl)  hw hM hS (lv_sub hl [1, 2, 3, 0] rfl)
def w_X12_sorts (I : mI) (o : Nat) (a1 : Int32) (post : mI → Prop) : Prop := ∀ I1, I1 = up2 I o 45 0 → (w_X12_sorts_7 o a1 post) I1 0
set_option maxRecDepth 100000 in
set_option maxHeartbeats 4000000 in
theorem c_X12_sorts {l : Launch} {D : va_G} {cA : Nat → ClassId} {Z : mZ} {bs : Ad} {n : Nat} {K : mK} {R : mR} {I : mI} {L : mL} {o : Nat} {a1 : Int32} {post : mI → Prop} (ho : isX12 K R o) (hw : w_X12_sorts I o a1 post) : Met l yX12_sorts (.code yX12_sorts cX12_sorts 4 none :: gw) ({ frames := 3, cells := 0, slots := 0, locals := 70 } : Room) (PreM D cA Z bs (n, K, R, I, L) [.ref (ad bs o), .int a1]) (QV D cA bs (fun u => ∃ I', u = (n, K, R, I', L) ∧ post I')) 0 0 (Ab bs) := by
  refine m_met (by decide) (Nat.le_of_ble_eq_true rfl) (fun p e s m below meth c ls E hr hlk hM hS hl => ?_)
  have E : Ev p s m _ c cX12_sorts 4 RX12 D cA Z bs := E
  have hl : lv_has ls 4 [(0, .ref (ad bs o)), (1, .int a1)] := hl
  have hx := E.1.1
  have hb := E.1.2.1
  generalize hHe : s.heap = H at hM ⊢
  have hS : va_S (Ab bs) s.heap H [] := by rw [← hHe]; exact va_S.rf
  clear hHe
  refine lv_aload_n hx hb dX12_sorts_0 rfl (lv_at hl 0 rfl) ?_
  refine lv_iconst (v := 0) hx hb dX12_sorts_1 (by decide) ?_
  refine m_puti E hM hS fp_X12_397 ho.1 rfl rfl dX12_sorts_2 (fun I1 H locs eI1 hM hS => ?_)
  have hw := hw I1 eI1
  refine lv_iconst (v := 0) hx hb dX12_sorts_5 (by decide) ?_
  refine lv_istore_n (lv' := [(2, .int 0), (0, .ref (ad bs o)), (1, .int a1)]) hx hb dX12_sorts_6 rfl hl (by decide) rfl (fun ls hl => ?_)
  exact s_X12_sorts_7 E hr hlk ho  hw hM hS (lv_sub hl [1, 2, 0] rfl)
theorem dX12_isGone_0 : decode cX12_isGone 0 = .ok (.iload_n 3, 1) := by decide +kernel
theorem dX12_isGone_1 : decode cX12_isGone 1 = .ok (.iload 4, 2) := by decide +kernel
theorem dX12_isGone_3 : decode cX12_isGone 3 = .ok (.if_icmp .le 10, 3) := by decide +kernel
theorem dX12_isGone_6 : decode cX12_isGone 6 = .ok (.iload_n 3, 1) := by decide +kernel
theorem dX12_isGone_7 : decode cX12_isGone 7 = .ok (.iload 4, 2) := by decide +kernel
theorem dX12_isGone_9 : decode cX12_isGone 9 = .ok (.isub, 1) := by decide +kernel
theorem dX12_isGone_10 : decode cX12_isGone 10 = .ok (.goto 7, 3) := by decide +kernel
theorem dX12_isGone_13 : decode cX12_isGone 13 = .ok (.iload 4, 2) := by decide +kernel
theorem dX12_isGone_15 : decode cX12_isGone 15 = .ok (.iload_n 3, 1) := by decide +kernel
theorem dX12_isGone_16 : decode cX12_isGone 16 = .ok (.isub, 1) := by decide +kernel
theorem dX12_isGone_17 : decode cX12_isGone 17 = .ok (.istore 5, 2) := by decide +kernel
theorem dX12_isGone_19 : decode cX12_isGone 19 = .ok (.iload 5, 2) := by decide +kernel
theorem dX12_isGone_21 : decode cX12_isGone 21 = .ok (.aload_n 0, 1) := by decide +kernel
theorem dX12_isGone_22 : decode cX12_isGone 22 = .ok (.iload_n 1, 1) := by decide +kernel
theorem dX12_isGone_23 : decode cX12_isGone 23 = .ok (.iconst 2, 1) := by decide +kernel
theorem dX12_isGone_24 : decode cX12_isGone 24 = .ok (.invokevirtual 241, 3) := by decide +kernel
theorem dX12_isGone_27 : decode cX12_isGone 27 = .ok (.aload_n 0, 1) := by decide +kernel
theorem dX12_isGone_28 : decode cX12_isGone 28 = .ok (.aload_n 0, 1) := by decide +kernel
theorem dX12_isGone_29 : decode cX12_isGone 29 = .ok (.getfield 68, 3) := by decide +kernel
theorem dX12_isGone_32 : decode cX12_isGone 32 = .ok (.iload_n 2, 1) := by decide +kernel
theorem dX12_isGone_33 : decode cX12_isGone 33 = .ok (.iconst 1, 1) := by decide +kernel
theorem dX12_isGone_34 : decode cX12_isGone 34 = .ok (.iadd, 1) := by decide +kernel
theorem dX12_isGone_35 : decode cX12_isGone 35 = .ok (.iaload, 1) := by decide +kernel
theorem dX12_isGone_36 : decode cX12_isGone 36 = .ok (.iconst 1, 1) := by decide +kernel
theorem dX12_isGone_37 : decode cX12_isGone 37 = .ok (.invokevirtual 379, 3) := by decide +kernel
theorem dX12_isGone_40 : decode cX12_isGone 40 = .ok (.aload_n 0, 1) := by decide +kernel
theorem dX12_isGone_41 : decode cX12_isGone 41 = .ok (.aload_n 0, 1) := by decide +kernel
theorem dX12_isGone_42 : decode cX12_isGone 42 = .ok (.getfield 68, 3) := by decide +kernel
theorem dX12_isGone_45 : decode cX12_isGone 45 = .ok (.iload_n 2, 1) := by decide +kernel
theorem dX12_isGone_46 : decode cX12_isGone 46 = .ok (.iaload, 1) := by decide +kernel
theorem dX12_isGone_47 : decode cX12_isGone 47 = .ok (.iconst 1, 1) := by decide +kernel
theorem dX12_isGone_48 : decode cX12_isGone 48 = .ok (.invokevirtual 379, 3) := by decide +kernel
theorem dX12_isGone_51 : decode cX12_isGone 51 = .ok (.isub, 1) := by decide +kernel
theorem dX12_isGone_52 : decode cX12_isGone 52 = .ok (.imul, 1) := by decide +kernel
theorem dX12_isGone_53 : decode cX12_isGone 53 = .ok (.if_icmp .gt 7, 3) := by decide +kernel
theorem dX12_isGone_56 : decode cX12_isGone 56 = .ok (.iconst 1, 1) := by decide +kernel
theorem dX12_isGone_57 : decode cX12_isGone 57 = .ok (.goto 4, 3) := by decide +kernel
theorem dX12_isGone_60 : decode cX12_isGone 60 = .ok (.iconst 0, 1) := by decide +kernel
theorem dX12_isGone_61 : decode cX12_isGone 61 = .ok (.ireturn, 1) := by decide +kernel
def w_X12_isGone_17 (I : mI) (o : Nat) (a1 : Int32) (a2 : Int32) (a3 : Int32) (a4 : Int32) (post : Bool → Prop) (s0 : Int32) : Prop := w_X12_told I o a1 2 (fun r1 => vp_in (a2 + 1) 10 ∧ w_X12_soundOf I o (I (o + 20) (a2 + 1).toNatClampNeg) 1 (fun r2 => vp_in a2 10 ∧ w_X12_soundOf I o (I (o + 20) a2.toNatClampNeg) 1 (fun r3 => ((r1 * (r2 - r3)) < s0 → post false) ∧ (¬ (r1 * (r2 - r3)) < s0 → post true))))
set_option maxRecDepth 100000 in
set_option maxHeartbeats 4000000 in
theorem s_X12_isGone_17 {p : Program} {l : Launch} {e : Env} {s : State} {m : MethodId} {args : Array Value} {below : List Frame} {meth : Method} {c : Code} {D : va_G} {cA : Nat → ClassId} {Z : mZ} {bs : Ad} {n : Nat} {K : mK} {R : mR} {I : mI} {L : mL} (E : Ev p s m args c cX12_isGone 6 RX12 D cA Z bs) (hr : meth.sig.returnType = (some .boolean)) (hlk : meth.locks = false) {o : Nat} {a1 : Int32} {a2 : Int32} {a3 : Int32} {a4 : Int32} (ho : isX12 K R o) {post : Bool → Prop} {s0 : Int32} {H : Heap} {locs : List Loc} {ls : Array Slot} (hw : w_X12_isGone_17 I o a1 a2 a3 a4 post s0) (hM : mm D cA bs (n, K, R, I, L) H) (hS : va_S (Ab bs) s.heap H locs) (hl : lv_has ls 6 [(0, .ref (ad bs o)), (1, .int a1), (2, .int a2)]) : W p l e ({ frames := 1, cells := 0, slots := 0, locals := 22 } : Room) s m args below meth c H locs 0 0 (MQ below (QI D cA bs (fun r u => ∃ b, r = bI b ∧ u = (n, K, R, I, L) ∧ post b)) args s 0 0 (Ab bs)) (F0 m 17 ls [.int s0]) := by
  have hx := E.1.1
  have hb := E.1.2.1
  refine lv_istore (lv' := [(5, .int s0), (0, .ref (ad bs o)), (1, .int a1), (2, .int a2)]) hx hb dX12_isGone_17 hl (by decide) rfl (fun ls hl => ?_)
  refine lv_iload hx hb dX12_isGone_19 (lv_at hl 0 rfl) ?_
  refine lv_aload_n hx hb dX12_isGone_21 rfl (lv_at hl 1 rfl) ?_
  refine lv_iload_n hx hb dX12_isGone_22 rfl (lv_at hl 2 rfl) ?_
  refine lv_iconst (v := 2) hx hb dX12_isGone_23 (by decide) ?_
  refine m_ci (m_runV E hM hS cs_X12_241 ho.1 (by decide) rfl rfl (c_X12_told ho hw) rfl rfl ⟨Nat.le_of_ble_eq_true rfl, Nat.le_of_ble_eq_true rfl⟩ rfl hl.1 rfl (Nat.le_of_ble_eq_true rfl) dX12_isGone_24 ⟨Nat.le_of_ble_eq_true rfl, Nat.le_of_ble_eq_true rfl⟩) hS (fun r1 u H locs hp hM hS => ?_)
  obtain ⟨rfl, hw⟩ := hp
  refine lv_aload_n hx hb dX12_isGone_27 rfl (lv_at hl 1 rfl) ?_
  refine lv_aload_n hx hb dX12_isGone_28 rfl (lv_at hl 1 rfl) ?_
  refine m_getr E hM fs_X12_68 ho.1 (isO_at ho 19 rfl).1 dX12_isGone_29 ?_
  refine lv_iload_n hx hb dX12_isGone_32 rfl (lv_at hl 3 rfl) ?_
  refine lv_iconst (v := 1) hx hb dX12_isGone_33 (by decide) ?_
  refine lv_iadd hx hb dX12_isGone_34 ?_
  obtain ⟨hv, hw⟩ := hw
  refine m_iald E hM (isO_at ho 19 rfl).2 hv dX12_isGone_35 ?_
  refine lv_iconst (v := 1) hx hb dX12_isGone_36 (by decide) ?_
  refine m_ci (m_runV E hM hS cs_X12_379 ho.1 (by decide) rfl rfl (c_X12_soundOf ho hw) rfl rfl ⟨Nat.le_of_ble_eq_true rfl, Nat.le_of_ble_eq_true rfl⟩ rfl hl.1 rfl (Nat.le_of_ble_eq_true rfl) dX12_isGone_37 ⟨Nat.le_of_ble_eq_true rfl, Nat.le_of_ble_eq_true rfl⟩) hS (fun r2 u H locs hp hM hS => ?_)
  obtain ⟨rfl, hw⟩ := hp
  refine lv_aload_n hx hb dX12_isGone_40 rfl (lv_at hl 1 rfl) ?_
  refine lv_aload_n hx hb dX12_isGone_41 rfl (lv_at hl 1 rfl) ?_
  refine m_getr E hM fs_X12_68 ho.1 (isO_at ho 19 rfl).1 dX12_isGone_42 ?_
  refine lv_iload_n hx hb dX12_isGone_45 rfl (lv_at hl 3 rfl) ?_
  obtain ⟨hv, hw⟩ := hw
  refine m_iald E hM (isO_at ho 19 rfl).2 hv dX12_isGone_46 ?_
  refine lv_iconst (v := 1) hx hb dX12_isGone_47 (by decide) ?_
  refine m_ci (m_runV E hM hS cs_X12_379 ho.1 (by decide) rfl rfl (c_X12_soundOf ho hw) rfl rfl ⟨Nat.le_of_ble_eq_true rfl, Nat.le_of_ble_eq_true rfl⟩ rfl hl.1 rfl (Nat.le_of_ble_eq_true rfl) dX12_isGone_48 ⟨Nat.le_of_ble_eq_true rfl, Nat.le_of_ble_eq_true rfl⟩) hS (fun r3 u H locs hp hM hS => ?_)
  obtain ⟨rfl, hw⟩ := hp
  refine lv_isub hx hb dX12_isGone_51 ?_
  refine lv_imul hx hb dX12_isGone_52 ?_
  refine lv_icmp_gt (tgt := 60) hx hb dX12_isGone_53 (by decide) (fun cq => ?_) (fun cq => ?_)
  · have hw := hw.1 cq
    refine lv_iconst (v := 0) hx hb dX12_isGone_60 (by decide) ?_
    exact m_retz hx hb hr hlk (Or.inl rfl) hM hS ⟨false, rfl, rfl, hw⟩ dX12_isGone_61
  · have hw := hw.2 cq
    refine lv_iconst (v := 1) hx hb dX12_isGone_56 (by decide) ?_
    refine lv_goto (tgt := 61) hx hb dX12_isGone_57 (by decide) ?_
    exact m_retz hx hb hr hlk (Or.inr rfl) hM hS ⟨true, rfl, rfl, hw⟩ dX12_isGone_61
def w_X12_isGone (I : mI) (o : Nat) (a1 : Int32) (a2 : Int32) (a3 : Int32) (a4 : Int32) (post : Bool → Prop) : Prop := (a3 ≤ a4 → (w_X12_isGone_17 I o a1 a2 a3 a4 post) (a4 - a3)) ∧ (¬ a3 ≤ a4 → (w_X12_isGone_17 I o a1 a2 a3 a4 post) (a3 - a4))
set_option maxRecDepth 100000 in
set_option maxHeartbeats 4000000 in
theorem c_X12_isGone {l : Launch} {D : va_G} {cA : Nat → ClassId} {Z : mZ} {bs : Ad} {n : Nat} {K : mK} {R : mR} {I : mI} {L : mL} {o : Nat} {a1 : Int32} {a2 : Int32} {a3 : Int32} {a4 : Int32} {post : Bool → Prop} (ho : isX12 K R o) (hw : w_X12_isGone I o a1 a2 a3 a4 post) : Met l yX12_isGone (.code yX12_isGone cX12_isGone 6 (some .boolean) :: gw) ({ frames := 1, cells := 0, slots := 0, locals := 22 } : Room) (PreM D cA Z bs (n, K, R, I, L) [.ref (ad bs o), .int a1, .int a2, .int a3, .int a4]) (QI D cA bs (fun r u => ∃ b, r = bI b ∧ u = (n, K, R, I, L) ∧ post b)) 0 0 (Ab bs) := by
  refine m_met (by decide) (Nat.le_of_ble_eq_true rfl) (fun p e s m below meth c ls E hr hlk hM hS hl => ?_)
  have E : Ev p s m _ c cX12_isGone 6 RX12 D cA Z bs := E
  have hl : lv_has ls 6 [(0, .ref (ad bs o)), (1, .int a1), (2, .int a2), (3, .int a3), (4, .int a4)] := hl
  have hx := E.1.1
  have hb := E.1.2.1
  generalize hHe : s.heap = H at hM ⊢
  have hS : va_S (Ab bs) s.heap H [] := by rw [← hHe]; exact va_S.rf
  clear hHe
  refine lv_iload_n hx hb dX12_isGone_0 rfl (lv_at hl 3 rfl) ?_
  refine lv_iload hx hb dX12_isGone_1 (lv_at hl 4 rfl) ?_
  refine lv_icmp_le (tgt := 13) hx hb dX12_isGone_3 (by decide) (fun cq => ?_) (fun cq => ?_)
  · have hw := hw.1 cq
    refine lv_iload hx hb dX12_isGone_13 (lv_at hl 4 rfl) ?_
    refine lv_iload_n hx hb dX12_isGone_15 rfl (lv_at hl 3 rfl) ?_
    refine lv_isub hx hb dX12_isGone_16 ?_
    exact s_X12_isGone_17 E hr hlk ho  hw hM hS (lv_sub hl [0, 1, 2] rfl)
  · have hw := hw.2 cq
    refine lv_iload_n hx hb dX12_isGone_6 rfl (lv_at hl 3 rfl) ?_
    refine lv_iload hx hb dX12_isGone_7 (lv_at hl 4 rfl) ?_
    refine lv_isub hx hb dX12_isGone_9 ?_
    refine lv_goto (tgt := 17) hx hb dX12_isGone_10 (by decide) ?_
    exact s_X12_isGone_17 E hr hlk ho  hw hM hS (lv_sub hl [0, 1, 2] rfl)
theorem dX12_tracks_0 : decode cX12_tracks 0 = .ok (.aload_n 0, 1) := by decide +kernel
theorem dX12_tracks_1 : decode cX12_tracks 1 = .ok (.iload_n 1, 1) := by decide +kernel
theorem dX12_tracks_2 : decode cX12_tracks 2 = .ok (.invokevirtual 400, 3) := by decide +kernel
theorem dX12_tracks_5 : decode cX12_tracks 5 = .ok (.iconst 0, 1) := by decide +kernel
theorem dX12_tracks_6 : decode cX12_tracks 6 = .ok (.istore_n 2, 1) := by decide +kernel
theorem dX12_tracks_7 : decode cX12_tracks 7 = .ok (.iload_n 2, 1) := by decide +kernel
theorem dX12_tracks_8 : decode cX12_tracks 8 = .ok (.aload_n 0, 1) := by decide +kernel
theorem dX12_tracks_9 : decode cX12_tracks 9 = .ok (.getfield 397, 3) := by decide +kernel
theorem dX12_tracks_12 : decode cX12_tracks 12 = .ok (.if_icmp .ge 153, 3) := by decide +kernel
theorem dX12_tracks_15 : decode cX12_tracks 15 = .ok (.aload_n 0, 1) := by decide +kernel
theorem dX12_tracks_16 : decode cX12_tracks 16 = .ok (.iload_n 1, 1) := by decide +kernel
theorem dX12_tracks_17 : decode cX12_tracks 17 = .ok (.aload_n 0, 1) := by decide +kernel
theorem dX12_tracks_18 : decode cX12_tracks 18 = .ok (.getfield 68, 3) := by decide +kernel
theorem dX12_tracks_21 : decode cX12_tracks 21 = .ok (.iload_n 2, 1) := by decide +kernel
theorem dX12_tracks_22 : decode cX12_tracks 22 = .ok (.iaload, 1) := by decide +kernel
theorem dX12_tracks_23 : decode cX12_tracks 23 = .ok (.invokevirtual 388, 3) := by decide +kernel
theorem dX12_tracks_26 : decode cX12_tracks 26 = .ok (.istore_n 3, 1) := by decide +kernel
theorem dX12_tracks_27 : decode cX12_tracks 27 = .ok (.iconst 0, 1) := by decide +kernel
theorem dX12_tracks_28 : decode cX12_tracks 28 = .ok (.istore 4, 2) := by decide +kernel
theorem dX12_tracks_30 : decode cX12_tracks 30 = .ok (.iload 4, 2) := by decide +kernel
theorem dX12_tracks_32 : decode cX12_tracks 32 = .ok (.aload_n 0, 1) := by decide +kernel
theorem dX12_tracks_33 : decode cX12_tracks 33 = .ok (.iconst 0, 1) := by decide +kernel
theorem dX12_tracks_34 : decode cX12_tracks 34 = .ok (.invokevirtual 205, 3) := by decide +kernel
theorem dX12_tracks_37 : decode cX12_tracks 37 = .ok (.if_icmp .ge 122, 3) := by decide +kernel
theorem dX12_tracks_40 : decode cX12_tracks 40 = .ok (.aload_n 0, 1) := by decide +kernel
theorem dX12_tracks_41 : decode cX12_tracks 41 = .ok (.getfield 71, 3) := by decide +kernel
theorem dX12_tracks_44 : decode cX12_tracks 44 = .ok (.bipush 24, 2) := by decide +kernel
theorem dX12_tracks_46 : decode cX12_tracks 46 = .ok (.iload_n 2, 1) := by decide +kernel
theorem dX12_tracks_47 : decode cX12_tracks 47 = .ok (.imul, 1) := by decide +kernel
theorem dX12_tracks_48 : decode cX12_tracks 48 = .ok (.iload 4, 2) := by decide +kernel
theorem dX12_tracks_50 : decode cX12_tracks 50 = .ok (.iadd, 1) := by decide +kernel
theorem dX12_tracks_51 : decode cX12_tracks 51 = .ok (.lconst 0, 1) := by decide +kernel
theorem dX12_tracks_52 : decode cX12_tracks 52 = .ok (.lastore, 1) := by decide +kernel
theorem dX12_tracks_53 : decode cX12_tracks 53 = .ok (.iload_n 3, 1) := by decide +kernel
theorem dX12_tracks_54 : decode cX12_tracks 54 = .ok (.iload 4, 2) := by decide +kernel
theorem dX12_tracks_56 : decode cX12_tracks 56 = .ok (.ishr, 1) := by decide +kernel
theorem dX12_tracks_57 : decode cX12_tracks 57 = .ok (.iconst 1, 1) := by decide +kernel
theorem dX12_tracks_58 : decode cX12_tracks 58 = .ok (.iand, 1) := by decide +kernel
theorem dX12_tracks_59 : decode cX12_tracks 59 = .ok (.ifCond .ne 6, 3) := by decide +kernel
theorem dX12_tracks_62 : decode cX12_tracks 62 = .ok (.goto 91, 3) := by decide +kernel
theorem dX12_tracks_65 : decode cX12_tracks 65 = .ok (.aload_n 0, 1) := by decide +kernel
theorem dX12_tracks_66 : decode cX12_tracks 66 = .ok (.getfield 71, 3) := by decide +kernel
theorem dX12_tracks_69 : decode cX12_tracks 69 = .ok (.bipush 24, 2) := by decide +kernel
theorem dX12_tracks_71 : decode cX12_tracks 71 = .ok (.iload_n 2, 1) := by decide +kernel
theorem dX12_tracks_72 : decode cX12_tracks 72 = .ok (.imul, 1) := by decide +kernel
theorem dX12_tracks_73 : decode cX12_tracks 73 = .ok (.iload 4, 2) := by decide +kernel
theorem dX12_tracks_75 : decode cX12_tracks 75 = .ok (.iadd, 1) := by decide +kernel
theorem dX12_tracks_76 : decode cX12_tracks 76 = .ok (.iload_n 2, 1) := by decide +kernel
theorem dX12_tracks_77 : decode cX12_tracks 77 = .ok (.ifCond .ne 7, 3) := by decide +kernel
theorem dX12_tracks_80 : decode cX12_tracks 80 = .ok (.lconst 1, 1) := by decide +kernel
theorem dX12_tracks_81 : decode cX12_tracks 81 = .ok (.goto 4, 3) := by decide +kernel
theorem dX12_tracks_84 : decode cX12_tracks 84 = .ok (.lconst 0, 1) := by decide +kernel
theorem dX12_tracks_85 : decode cX12_tracks 85 = .ok (.lastore, 1) := by decide +kernel
theorem dX12_tracks_86 : decode cX12_tracks 86 = .ok (.iconst 0, 1) := by decide +kernel
theorem dX12_tracks_87 : decode cX12_tracks 87 = .ok (.istore 5, 2) := by decide +kernel
theorem dX12_tracks_89 : decode cX12_tracks 89 = .ok (.iload 5, 2) := by decide +kernel
theorem dX12_tracks_91 : decode cX12_tracks 91 = .ok (.aload_n 0, 1) := by decide +kernel
theorem dX12_tracks_92 : decode cX12_tracks 92 = .ok (.iconst 0, 1) := by decide +kernel
theorem dX12_tracks_93 : decode cX12_tracks 93 = .ok (.invokevirtual 205, 3) := by decide +kernel
theorem dX12_tracks_96 : decode cX12_tracks 96 = .ok (.if_icmp .ge 57, 3) := by decide +kernel
theorem dX12_tracks_99 : decode cX12_tracks 99 = .ok (.iload_n 2, 1) := by decide +kernel
theorem dX12_tracks_100 : decode cX12_tracks 100 = .ok (.ifCond .le 53, 3) := by decide +kernel
theorem dX12_tracks_103 : decode cX12_tracks 103 = .ok (.aload_n 0, 1) := by decide +kernel
theorem dX12_tracks_104 : decode cX12_tracks 104 = .ok (.iload_n 1, 1) := by decide +kernel
theorem dX12_tracks_105 : decode cX12_tracks 105 = .ok (.iload_n 2, 1) := by decide +kernel
theorem dX12_tracks_106 : decode cX12_tracks 106 = .ok (.iconst 1, 1) := by decide +kernel
theorem dX12_tracks_107 : decode cX12_tracks 107 = .ok (.isub, 1) := by decide +kernel
theorem dX12_tracks_108 : decode cX12_tracks 108 = .ok (.iload 5, 2) := by decide +kernel
theorem dX12_tracks_110 : decode cX12_tracks 110 = .ok (.iload 4, 2) := by decide +kernel
theorem dX12_tracks_112 : decode cX12_tracks 112 = .ok (.invokevirtual 403, 3) := by decide +kernel
theorem dX12_tracks_115 : decode cX12_tracks 115 = .ok (.ifCond .eq 32, 3) := by decide +kernel
theorem dX12_tracks_118 : decode cX12_tracks 118 = .ok (.aload_n 0, 1) := by decide +kernel
theorem dX12_tracks_119 : decode cX12_tracks 119 = .ok (.getfield 71, 3) := by decide +kernel
theorem dX12_tracks_122 : decode cX12_tracks 122 = .ok (.bipush 24, 2) := by decide +kernel
theorem dX12_tracks_124 : decode cX12_tracks 124 = .ok (.iload_n 2, 1) := by decide +kernel
theorem dX12_tracks_125 : decode cX12_tracks 125 = .ok (.imul, 1) := by decide +kernel
theorem dX12_tracks_126 : decode cX12_tracks 126 = .ok (.iload 4, 2) := by decide +kernel
theorem dX12_tracks_128 : decode cX12_tracks 128 = .ok (.iadd, 1) := by decide +kernel
theorem dX12_tracks_129 : decode cX12_tracks 129 = .ok (.dup2, 1) := by decide +kernel
theorem dX12_tracks_130 : decode cX12_tracks 130 = .ok (.laload, 1) := by decide +kernel
theorem dX12_tracks_131 : decode cX12_tracks 131 = .ok (.aload_n 0, 1) := by decide +kernel
theorem dX12_tracks_132 : decode cX12_tracks 132 = .ok (.getfield 71, 3) := by decide +kernel
theorem dX12_tracks_135 : decode cX12_tracks 135 = .ok (.bipush 24, 2) := by decide +kernel
theorem dX12_tracks_137 : decode cX12_tracks 137 = .ok (.iload_n 2, 1) := by decide +kernel
theorem dX12_tracks_138 : decode cX12_tracks 138 = .ok (.iconst 1, 1) := by decide +kernel
theorem dX12_tracks_139 : decode cX12_tracks 139 = .ok (.isub, 1) := by decide +kernel
theorem dX12_tracks_140 : decode cX12_tracks 140 = .ok (.imul, 1) := by decide +kernel
theorem dX12_tracks_141 : decode cX12_tracks 141 = .ok (.iload 5, 2) := by decide +kernel
theorem dX12_tracks_143 : decode cX12_tracks 143 = .ok (.iadd, 1) := by decide +kernel
theorem dX12_tracks_144 : decode cX12_tracks 144 = .ok (.laload, 1) := by decide +kernel
theorem dX12_tracks_145 : decode cX12_tracks 145 = .ok (.ladd, 1) := by decide +kernel
theorem dX12_tracks_146 : decode cX12_tracks 146 = .ok (.lastore, 1) := by decide +kernel
theorem dX12_tracks_147 : decode cX12_tracks 147 = .ok (.iinc 5 1, 3) := by decide +kernel
theorem dX12_tracks_150 : decode cX12_tracks 150 = .ok (.goto (-61), 3) := by decide +kernel
theorem dX12_tracks_153 : decode cX12_tracks 153 = .ok (.iinc 4 1, 3) := by decide +kernel
theorem dX12_tracks_156 : decode cX12_tracks 156 = .ok (.goto (-126), 3) := by decide +kernel
theorem dX12_tracks_159 : decode cX12_tracks 159 = .ok (.iinc 2 1, 3) := by decide +kernel
theorem dX12_tracks_162 : decode cX12_tracks 162 = .ok (.goto (-155), 3) := by decide +kernel
theorem dX12_tracks_165 : decode cX12_tracks 165 = .ok (.aload_n 0, 1) := by decide +kernel
theorem dX12_tracks_166 : decode cX12_tracks 166 = .ok (.getfield 397, 3) := by decide +kernel
theorem dX12_tracks_169 : decode cX12_tracks 169 = .ok (.iconst 1, 1) := by decide +kernel
theorem dX12_tracks_170 : decode cX12_tracks 170 = .ok (.isub, 1) := by decide +kernel
theorem dX12_tracks_171 : decode cX12_tracks 171 = .ok (.istore_n 2, 1) := by decide +kernel
theorem dX12_tracks_172 : decode cX12_tracks 172 = .ok (.iload_n 2, 1) := by decide +kernel
theorem dX12_tracks_173 : decode cX12_tracks 173 = .ok (.ifCond .lt 163, 3) := by decide +kernel
theorem dX12_tracks_176 : decode cX12_tracks 176 = .ok (.aload_n 0, 1) := by decide +kernel
theorem dX12_tracks_177 : decode cX12_tracks 177 = .ok (.iload_n 1, 1) := by decide +kernel
theorem dX12_tracks_178 : decode cX12_tracks 178 = .ok (.aload_n 0, 1) := by decide +kernel
theorem dX12_tracks_179 : decode cX12_tracks 179 = .ok (.getfield 68, 3) := by decide +kernel
theorem dX12_tracks_182 : decode cX12_tracks 182 = .ok (.iload_n 2, 1) := by decide +kernel
theorem dX12_tracks_183 : decode cX12_tracks 183 = .ok (.iaload, 1) := by decide +kernel
theorem dX12_tracks_184 : decode cX12_tracks 184 = .ok (.invokevirtual 388, 3) := by decide +kernel
theorem dX12_tracks_187 : decode cX12_tracks 187 = .ok (.istore_n 3, 1) := by decide +kernel
theorem dX12_tracks_188 : decode cX12_tracks 188 = .ok (.iconst 0, 1) := by decide +kernel
theorem dX12_tracks_189 : decode cX12_tracks 189 = .ok (.istore 4, 2) := by decide +kernel
theorem dX12_tracks_191 : decode cX12_tracks 191 = .ok (.iload 4, 2) := by decide +kernel
theorem dX12_tracks_193 : decode cX12_tracks 193 = .ok (.aload_n 0, 1) := by decide +kernel
theorem dX12_tracks_194 : decode cX12_tracks 194 = .ok (.iconst 0, 1) := by decide +kernel
theorem dX12_tracks_195 : decode cX12_tracks 195 = .ok (.invokevirtual 205, 3) := by decide +kernel
theorem dX12_tracks_198 : decode cX12_tracks 198 = .ok (.if_icmp .ge 132, 3) := by decide +kernel
theorem dX12_tracks_201 : decode cX12_tracks 201 = .ok (.aload_n 0, 1) := by decide +kernel
theorem dX12_tracks_202 : decode cX12_tracks 202 = .ok (.getfield 75, 3) := by decide +kernel
theorem dX12_tracks_205 : decode cX12_tracks 205 = .ok (.bipush 24, 2) := by decide +kernel
theorem dX12_tracks_207 : decode cX12_tracks 207 = .ok (.iload_n 2, 1) := by decide +kernel
theorem dX12_tracks_208 : decode cX12_tracks 208 = .ok (.imul, 1) := by decide +kernel
theorem dX12_tracks_209 : decode cX12_tracks 209 = .ok (.iload 4, 2) := by decide +kernel
theorem dX12_tracks_211 : decode cX12_tracks 211 = .ok (.iadd, 1) := by decide +kernel
theorem dX12_tracks_212 : decode cX12_tracks 212 = .ok (.lconst 0, 1) := by decide +kernel
theorem dX12_tracks_213 : decode cX12_tracks 213 = .ok (.lastore, 1) := by decide +kernel
theorem dX12_tracks_214 : decode cX12_tracks 214 = .ok (.iload_n 3, 1) := by decide +kernel
theorem dX12_tracks_215 : decode cX12_tracks 215 = .ok (.iload 4, 2) := by decide +kernel
theorem dX12_tracks_217 : decode cX12_tracks 217 = .ok (.ishr, 1) := by decide +kernel
theorem dX12_tracks_218 : decode cX12_tracks 218 = .ok (.iconst 1, 1) := by decide +kernel
theorem dX12_tracks_219 : decode cX12_tracks 219 = .ok (.iand, 1) := by decide +kernel
theorem dX12_tracks_220 : decode cX12_tracks 220 = .ok (.ifCond .ne 6, 3) := by decide +kernel
theorem dX12_tracks_223 : decode cX12_tracks 223 = .ok (.goto 101, 3) := by decide +kernel
theorem dX12_tracks_226 : decode cX12_tracks 226 = .ok (.aload_n 0, 1) := by decide +kernel
theorem dX12_tracks_227 : decode cX12_tracks 227 = .ok (.getfield 75, 3) := by decide +kernel
theorem dX12_tracks_230 : decode cX12_tracks 230 = .ok (.bipush 24, 2) := by decide +kernel
theorem dX12_tracks_232 : decode cX12_tracks 232 = .ok (.iload_n 2, 1) := by decide +kernel
theorem dX12_tracks_233 : decode cX12_tracks 233 = .ok (.imul, 1) := by decide +kernel
theorem dX12_tracks_234 : decode cX12_tracks 234 = .ok (.iload 4, 2) := by decide +kernel
theorem dX12_tracks_236 : decode cX12_tracks 236 = .ok (.iadd, 1) := by decide +kernel
theorem dX12_tracks_237 : decode cX12_tracks 237 = .ok (.iload_n 2, 1) := by decide +kernel
theorem dX12_tracks_238 : decode cX12_tracks 238 = .ok (.aload_n 0, 1) := by decide +kernel
theorem dX12_tracks_239 : decode cX12_tracks 239 = .ok (.getfield 397, 3) := by decide +kernel
theorem dX12_tracks_242 : decode cX12_tracks 242 = .ok (.iconst 1, 1) := by decide +kernel
theorem dX12_tracks_243 : decode cX12_tracks 243 = .ok (.isub, 1) := by decide +kernel
theorem dX12_tracks_244 : decode cX12_tracks 244 = .ok (.if_icmp .ne 7, 3) := by decide +kernel
theorem dX12_tracks_247 : decode cX12_tracks 247 = .ok (.lconst 1, 1) := by decide +kernel
theorem dX12_tracks_248 : decode cX12_tracks 248 = .ok (.goto 4, 3) := by decide +kernel
theorem dX12_tracks_251 : decode cX12_tracks 251 = .ok (.lconst 0, 1) := by decide +kernel
theorem dX12_tracks_252 : decode cX12_tracks 252 = .ok (.lastore, 1) := by decide +kernel
theorem dX12_tracks_253 : decode cX12_tracks 253 = .ok (.iconst 0, 1) := by decide +kernel
theorem dX12_tracks_254 : decode cX12_tracks 254 = .ok (.istore 5, 2) := by decide +kernel
theorem dX12_tracks_256 : decode cX12_tracks 256 = .ok (.iload 5, 2) := by decide +kernel
theorem dX12_tracks_258 : decode cX12_tracks 258 = .ok (.aload_n 0, 1) := by decide +kernel
theorem dX12_tracks_259 : decode cX12_tracks 259 = .ok (.iconst 0, 1) := by decide +kernel
theorem dX12_tracks_260 : decode cX12_tracks 260 = .ok (.invokevirtual 205, 3) := by decide +kernel
theorem dX12_tracks_263 : decode cX12_tracks 263 = .ok (.if_icmp .ge 61, 3) := by decide +kernel
theorem dX12_tracks_266 : decode cX12_tracks 266 = .ok (.iload_n 2, 1) := by decide +kernel
theorem dX12_tracks_267 : decode cX12_tracks 267 = .ok (.aload_n 0, 1) := by decide +kernel
theorem dX12_tracks_268 : decode cX12_tracks 268 = .ok (.getfield 397, 3) := by decide +kernel
theorem dX12_tracks_271 : decode cX12_tracks 271 = .ok (.iconst 1, 1) := by decide +kernel
theorem dX12_tracks_272 : decode cX12_tracks 272 = .ok (.isub, 1) := by decide +kernel
theorem dX12_tracks_273 : decode cX12_tracks 273 = .ok (.if_icmp .ge 51, 3) := by decide +kernel
theorem dX12_tracks_276 : decode cX12_tracks 276 = .ok (.aload_n 0, 1) := by decide +kernel
theorem dX12_tracks_277 : decode cX12_tracks 277 = .ok (.iload_n 1, 1) := by decide +kernel
theorem dX12_tracks_278 : decode cX12_tracks 278 = .ok (.iload_n 2, 1) := by decide +kernel
theorem dX12_tracks_279 : decode cX12_tracks 279 = .ok (.iload 4, 2) := by decide +kernel
theorem dX12_tracks_281 : decode cX12_tracks 281 = .ok (.iload 5, 2) := by decide +kernel
theorem dX12_tracks_283 : decode cX12_tracks 283 = .ok (.invokevirtual 403, 3) := by decide +kernel
theorem dX12_tracks_286 : decode cX12_tracks 286 = .ok (.ifCond .eq 32, 3) := by decide +kernel
theorem dX12_tracks_289 : decode cX12_tracks 289 = .ok (.aload_n 0, 1) := by decide +kernel
theorem dX12_tracks_290 : decode cX12_tracks 290 = .ok (.getfield 75, 3) := by decide +kernel
theorem dX12_tracks_293 : decode cX12_tracks 293 = .ok (.bipush 24, 2) := by decide +kernel
theorem dX12_tracks_295 : decode cX12_tracks 295 = .ok (.iload_n 2, 1) := by decide +kernel
theorem dX12_tracks_296 : decode cX12_tracks 296 = .ok (.imul, 1) := by decide +kernel
theorem dX12_tracks_297 : decode cX12_tracks 297 = .ok (.iload 4, 2) := by decide +kernel
theorem dX12_tracks_299 : decode cX12_tracks 299 = .ok (.iadd, 1) := by decide +kernel
theorem dX12_tracks_300 : decode cX12_tracks 300 = .ok (.dup2, 1) := by decide +kernel
theorem dX12_tracks_301 : decode cX12_tracks 301 = .ok (.laload, 1) := by decide +kernel
theorem dX12_tracks_302 : decode cX12_tracks 302 = .ok (.aload_n 0, 1) := by decide +kernel
theorem dX12_tracks_303 : decode cX12_tracks 303 = .ok (.getfield 75, 3) := by decide +kernel
theorem dX12_tracks_306 : decode cX12_tracks 306 = .ok (.bipush 24, 2) := by decide +kernel
theorem dX12_tracks_308 : decode cX12_tracks 308 = .ok (.iload_n 2, 1) := by decide +kernel
theorem dX12_tracks_309 : decode cX12_tracks 309 = .ok (.iconst 1, 1) := by decide +kernel
theorem dX12_tracks_310 : decode cX12_tracks 310 = .ok (.iadd, 1) := by decide +kernel
theorem dX12_tracks_311 : decode cX12_tracks 311 = .ok (.imul, 1) := by decide +kernel
theorem dX12_tracks_312 : decode cX12_tracks 312 = .ok (.iload 5, 2) := by decide +kernel
theorem dX12_tracks_314 : decode cX12_tracks 314 = .ok (.iadd, 1) := by decide +kernel
theorem dX12_tracks_315 : decode cX12_tracks 315 = .ok (.laload, 1) := by decide +kernel
theorem dX12_tracks_316 : decode cX12_tracks 316 = .ok (.ladd, 1) := by decide +kernel
theorem dX12_tracks_317 : decode cX12_tracks 317 = .ok (.lastore, 1) := by decide +kernel
theorem dX12_tracks_318 : decode cX12_tracks 318 = .ok (.iinc 5 1, 3) := by decide +kernel
theorem dX12_tracks_321 : decode cX12_tracks 321 = .ok (.goto (-65), 3) := by decide +kernel
theorem dX12_tracks_324 : decode cX12_tracks 324 = .ok (.iinc 4 1, 3) := by decide +kernel
theorem dX12_tracks_327 : decode cX12_tracks 327 = .ok (.goto (-136), 3) := by decide +kernel
theorem dX12_tracks_330 : decode cX12_tracks 330 = .ok (.iinc 2 (-1), 3) := by decide +kernel
theorem dX12_tracks_333 : decode cX12_tracks 333 = .ok (.goto (-161), 3) := by decide +kernel
theorem dX12_tracks_336 : decode cX12_tracks 336 = .ok (.return_, 1) := by decide +kernel
def w_X12_tracks_89 (o : Nat) (a1 : Int32) (post : mI → mL → Prop) (k30 : mI → mL → Int32 → Int32 → Int32 → Prop) (I : mI) (L : mL) (v2 : Int32) (v3 : Int32) (v4 : Int32) (v5 : Int32) : Prop := ∀ ZZ : (mI → mL → Int32 → Int32 → Int32 → Int32 → Prop), (∀ (I : mI) (L : mL) (v2 : Int32) (v3 : Int32) (v4 : Int32) (v5 : Int32), (w_X12_of I o 0 (fun r9 => (r9 ≤ v5 → ∀ x10, x10 = v4 + 1 → k30 I L v2 v3 x10) ∧ (¬ r9 ≤ v5 → (v2 ≤ 0 → ∀ x11, x11 = v4 + 1 → k30 I L v2 v3 x11) ∧ (¬ v2 ≤ 0 → w_X12_isGone I o a1 (v2 - 1) v5 v4 (fun b12 => (b12 = false → ∀ x13, x13 = v5 + 1 → ZZ I L v2 v3 v4 x13) ∧ (b12 = true → vp_in ((24 * v2) + v4) 240 ∧ vp_in ((24 * (v2 - 1)) + v5) 240 ∧ vp_in ((24 * v2) + v4) 240 ∧ ∀ L14, L14 = up2 L (o + 21) (((24 * v2) + v4).toNatClampNeg) ((L (o + 21) ((24 * v2) + v4).toNatClampNeg) + (L (o + 21) ((24 * (v2 - 1)) + v5).toNatClampNeg)) → ∀ x15, x15 = v5 + 1 → ZZ I L14 v2 v3 v4 x15)))))) → ZZ I L v2 v3 v4 v5) → ZZ I L v2 v3 v4 v5
set_option maxRecDepth 100000 in
set_option maxHeartbeats 4000000 in
theorem s_X12_tracks_89 {p : Program} {l : Launch} {e : Env} {s : State} {m : MethodId} {args : Array Value} {below : List Frame} {meth : Method} {c : Code} {D : va_G} {cA : Nat → ClassId} {Z : mZ} {bs : Ad} {n : Nat} {K : mK} {R : mR} (E : Ev p s m args c cX12_tracks 6 RX12 D cA Z bs) (hr : meth.sig.returnType = none) (hlk : meth.locks = false) {o : Nat} {a1 : Int32} (ho : isX12 K R o) {post : mI → mL → Prop} {k30 : mI → mL → Int32 → Int32 → Int32 → Prop} (hk30 : ∀ (I : mI) (L : mL) (v2 : Int32) (v3 : Int32) (v4 : Int32) (H : Heap) (locs : List Loc) (ls : Array Slot), k30 I L v2 v3 v4 → mm D cA bs (n, K, R, I, L) H → va_S (Ab bs) s.heap H locs → lv_has ls 6 [(0, .ref (ad bs o)), (1, .int a1), (2, .int v2), (3, .int v3), (4, .int v4)] → W p l e ({ frames := 5, cells := 0, slots := 0, locals := 117 } : Room) s m args below meth c H locs 0 0 (MQ below (QV D cA bs (fun u => ∃ I' L', u = (n, K, R, I', L') ∧ post I' L')) args s 0 0 (Ab bs)) (F0 m 30 ls [])) {I : mI} {L : mL} {v2 : Int32} {v3 : Int32} {v4 : Int32} {v5 : Int32} {H : Heap} {locs : List Loc} {ls : Array Slot} (hw : w_X12_tracks_89 o a1 post k30 I L v2 v3 v4 v5) (hM : mm D cA bs (n, K, R, I, L) H) (hS : va_S (Ab bs) s.heap H locs) (hl : lv_has ls 6 [(0, .ref (ad bs o)), (1, .int a1), (2, .int v2), (3, .int v3), (4, .int v4), (5, .int v5)]) : W p l e ({ frames := 5, cells := 0, slots := 0, locals := 117 } : Room) s m args below meth c H locs 0 0 (MQ below (QV D cA bs (fun u => ∃ I' L', u = (n, K, R, I', L') ∧ post I' L')) args s 0 0 (Ab bs)) (F0 m 89 ls []) := by
  have hx := E.1.1
  have hb := E.1.2.1
  refine hw (fun I L v2 v3 v4 v5 => ∀ (H : Heap) (locs : List Loc) (ls : Array Slot), mm D cA bs (n, K, R, I, L) H → va_S (Ab bs) s.heap H locs → lv_has ls 6 [(0, .ref (ad bs o)), (1, .int a1), (2, .int v2), (3, .int v3), (4, .int v4), (5, .int v5)] → W p l e ({ frames := 5, cells := 0, slots := 0, locals := 117 } : Room) s m args below meth c H locs 0 0 (MQ below (QV D cA bs (fun u => ∃ I' L', u = (n, K, R, I', L') ∧ post I' L')) args s 0 0 (Ab bs)) (F0 m 89 ls [])) ?_ H locs ls hM hS hl
  clear hw hM hS hl
  intro I L v2 v3 v4 v5 hw H locs ls hM hS hl
  refine lv_iload hx hb dX12_tracks_89 (lv_at hl 5 rfl) ?_
  refine lv_aload_n hx hb dX12_tracks_91 rfl (lv_at hl 0 rfl) ?_
  refine lv_iconst (v := 0) hx hb dX12_tracks_92 (by decide) ?_
  refine m_ci (m_runV E hM hS cs_X12_205 ho.1 (by decide) rfl rfl (c_X12_of ho hw) rfl rfl ⟨Nat.le_of_ble_eq_true rfl, Nat.le_of_ble_eq_true rfl⟩ rfl hl.1 rfl (Nat.le_of_ble_eq_true rfl) dX12_tracks_93 ⟨Nat.le_of_ble_eq_true rfl, Nat.le_of_ble_eq_true rfl⟩) hS (fun r9 u H locs hp hM hS => ?_)
  obtain ⟨rfl, hw⟩ := hp
  refine lv_icmp_ge (tgt := 153) hx hb dX12_tracks_96 (by decide) (fun cq => ?_) (fun cq => ?_)
  · have hw := hw.1 cq
    obtain ⟨x10, ex10⟩ : ∃ y : Int32, y = v4 + 1 := ⟨_, rfl⟩
    have hw := hw x10 ex10
    refine lv_iinc (v := x10) (lv' := [(4, .int x10), (0, .ref (ad bs o)), (1, .int a1), (2, .int v2), (3, .int v3), (5, .int v5)]) hx hb dX12_tracks_153 hl (k := 4) rfl (by rw [ex10]; rfl) (by decide) rfl (fun ls hl => ?_)
    refine lv_goto (tgt := 30) hx hb dX12_tracks_156 (by decide) ?_
    exact hk30 _ _ _ _ _ H locs ls  hw hM hS (lv_sub hl [1, 2, 3, 4, 0] rfl)
  · have hw := hw.2 cq
    refine lv_iload_n hx hb dX12_tracks_99 rfl (lv_at hl 2 rfl) ?_
    refine lv_if_le (tgt := 153) hx hb dX12_tracks_100 (by decide) (fun cq => ?_) (fun cq => ?_)
    · have hw := hw.1 cq
      obtain ⟨x11, ex11⟩ : ∃ y : Int32, y = v4 + 1 := ⟨_, rfl⟩
      have hw := hw x11 ex11
      refine lv_iinc (v := x11) (lv' := [(4, .int x11), (0, .ref (ad bs o)), (1, .int a1), (2, .int v2), (3, .int v3), (5, .int v5)]) hx hb dX12_tracks_153 hl (k := 4) rfl (by rw [ex11]; rfl) (by decide) rfl (fun ls hl => ?_)
      refine lv_goto (tgt := 30) hx hb dX12_tracks_156 (by decide) ?_
      exact hk30 _ _ _ _ _ H locs ls  hw hM hS (lv_sub hl [1, 2, 3, 4, 0] rfl)
    · have hw := hw.2 cq
      refine lv_aload_n hx hb dX12_tracks_103 rfl (lv_at hl 0 rfl) ?_
      refine lv_iload_n hx hb dX12_tracks_104 rfl (lv_at hl 1 rfl) ?_
      refine lv_iload_n hx hb dX12_tracks_105 rfl (lv_at hl 2 rfl) ?_
      refine lv_iconst (v := 1) hx hb dX12_tracks_106 (by decide) ?_
      refine lv_isub hx hb dX12_tracks_107 ?_
      refine lv_iload hx hb dX12_tracks_108 (lv_at hl 5 rfl) ?_
      refine lv_iload hx hb dX12_tracks_110 (lv_at hl 4 rfl) ?_
      refine m_ci (m_runV E hM hS cs_X12_403 ho.1 (by decide) rfl rfl (c_X12_isGone ho hw) rfl rfl ⟨Nat.le_of_ble_eq_true rfl, Nat.le_of_ble_eq_true rfl⟩ rfl hl.1 rfl (Nat.le_of_ble_eq_true rfl) dX12_tracks_112 ⟨Nat.le_of_ble_eq_true rfl, Nat.le_of_ble_eq_true rfl⟩) hS (fun r9 u H locs hp hM hS => ?_)
      obtain ⟨b12, rfl, rfl, hw⟩ := hp
      refine lv_if_eq (tgt := 147) hx hb dX12_tracks_115 (by decide) (fun cq => ?_) (fun cq => ?_)
      · have hw := hw.1 (bI_f cq)
        obtain ⟨x13, ex13⟩ : ∃ y : Int32, y = v5 + 1 := ⟨_, rfl⟩
        have hw := hw x13 ex13
        refine lv_iinc (v := x13) (lv' := [(5, .int x13), (0, .ref (ad bs o)), (1, .int a1), (2, .int v2), (3, .int v3), (4, .int v4)]) hx hb dX12_tracks_147 hl (k := 5) rfl (by rw [ex13]; rfl) (by decide) rfl (fun ls hl => ?_)
        refine lv_goto (tgt := 89) hx hb dX12_tracks_150 (by decide) ?_
        exact hw H locs ls  hM hS (lv_sub hl [1, 2, 3, 4, 5, 0] rfl)
      · have hw := hw.2 (bI_t cq)
        refine lv_aload_n hx hb dX12_tracks_118 rfl (lv_at hl 0 rfl) ?_
        refine m_getr E hM fs_X12_71 ho.1 (isO_at ho 20 rfl).1 dX12_tracks_119 ?_
        refine lv_bipush (v := 24) hx hb dX12_tracks_122 (by decide) ?_
        refine lv_iload_n hx hb dX12_tracks_124 rfl (lv_at hl 2 rfl) ?_
        refine lv_imul hx hb dX12_tracks_125 ?_
        refine lv_iload hx hb dX12_tracks_126 (lv_at hl 4 rfl) ?_
        refine lv_iadd hx hb dX12_tracks_128 ?_
        refine lv_dup2_11 hx hb dX12_tracks_129 rfl rfl ?_
        obtain ⟨hv, hw⟩ := hw
        refine m_lald E hM (isO_at ho 20 rfl).2 hv dX12_tracks_130 ?_
        refine lv_aload_n hx hb dX12_tracks_131 rfl (lv_at hl 0 rfl) ?_
        refine m_getr E hM fs_X12_71 ho.1 (isO_at ho 20 rfl).1 dX12_tracks_132 ?_
        refine lv_bipush (v := 24) hx hb dX12_tracks_135 (by decide) ?_
        refine lv_iload_n hx hb dX12_tracks_137 rfl (lv_at hl 2 rfl) ?_
        refine lv_iconst (v := 1) hx hb dX12_tracks_138 (by decide) ?_
        refine lv_isub hx hb dX12_tracks_139 ?_
        refine lv_imul hx hb dX12_tracks_140 ?_
        refine lv_iload hx hb dX12_tracks_141 (lv_at hl 5 rfl) ?_
        refine lv_iadd hx hb dX12_tracks_143 ?_
        obtain ⟨hv, hw⟩ := hw
        refine m_lald E hM (isO_at ho 20 rfl).2 hv dX12_tracks_144 ?_
        refine lv_ladd hx hb dX12_tracks_145 ?_
        obtain ⟨hv, hw⟩ := hw
        refine m_last E hM hS (isO_at ho 20 rfl).2 hv dX12_tracks_146 (fun L14 H locs eL14 hM hS => ?_)
        have hw := hw L14 eL14
        obtain ⟨x15, ex15⟩ : ∃ y : Int32, y = v5 + 1 := ⟨_, rfl⟩
        have hw := hw x15 ex15
        refine lv_iinc (v := x15) (lv' := [(5, .int x15), (0, .ref (ad bs o)), (1, .int a1), (2, .int v2), (3, .int v3), (4, .int v4)]) hx hb dX12_tracks_147 hl (k := 5) rfl (by rw [ex15]; rfl) (by decide) rfl (fun ls hl => ?_)
        refine lv_goto (tgt := 89) hx hb dX12_tracks_150 (by decide) ?_
        exact hw H locs ls  hM hS (lv_sub hl [1, 2, 3, 4, 5, 0] rfl)
def w_X12_tracks_85 (o : Nat) (a1 : Int32) (post : mI → mL → Prop) (k30 : mI → mL → Int32 → Int32 → Int32 → Prop) (I : mI) (L : mL) (v2 : Int32) (v3 : Int32) (v4 : Int32) (s1 : Int32) (s2 : Int64) : Prop := vp_in s1 240 ∧ ∀ L8, L8 = up2 L (o + 21) s1.toNatClampNeg s2 → (w_X12_tracks_89 o a1 post k30) I L8 v2 v3 v4 0
set_option maxRecDepth 100000 in
set_option maxHeartbeats 4000000 in
theorem s_X12_tracks_85 {p : Program} {l : Launch} {e : Env} {s : State} {m : MethodId} {args : Array Value} {below : List Frame} {meth : Method} {c : Code} {D : va_G} {cA : Nat → ClassId} {Z : mZ} {bs : Ad} {n : Nat} {K : mK} {R : mR} (E : Ev p s m args c cX12_tracks 6 RX12 D cA Z bs) (hr : meth.sig.returnType = none) (hlk : meth.locks = false) {o : Nat} {a1 : Int32} (ho : isX12 K R o) {post : mI → mL → Prop} {k30 : mI → mL → Int32 → Int32 → Int32 → Prop} (hk30 : ∀ (I : mI) (L : mL) (v2 : Int32) (v3 : Int32) (v4 : Int32) (H : Heap) (locs : List Loc) (ls : Array Slot), k30 I L v2 v3 v4 → mm D cA bs (n, K, R, I, L) H → va_S (Ab bs) s.heap H locs → lv_has ls 6 [(0, .ref (ad bs o)), (1, .int a1), (2, .int v2), (3, .int v3), (4, .int v4)] → W p l e ({ frames := 5, cells := 0, slots := 0, locals := 117 } : Room) s m args below meth c H locs 0 0 (MQ below (QV D cA bs (fun u => ∃ I' L', u = (n, K, R, I', L') ∧ post I' L')) args s 0 0 (Ab bs)) (F0 m 30 ls [])) {I : mI} {L : mL} {v2 : Int32} {v3 : Int32} {v4 : Int32} {s1 : Int32} {s2 : Int64} {H : Heap} {locs : List Loc} {ls : Array Slot} (hw : w_X12_tracks_85 o a1 post k30 I L v2 v3 v4 s1 s2) (hM : mm D cA bs (n, K, R, I, L) H) (hS : va_S (Ab bs) s.heap H locs) (hl : lv_has ls 6 [(0, .ref (ad bs o)), (1, .int a1), (2, .int v2), (3, .int v3), (4, .int v4)]) : W p l e ({ frames := 5, cells := 0, slots := 0, locals := 117 } : Room) s m args below meth c H locs 0 0 (MQ below (QV D cA bs (fun u => ∃ I' L', u = (n, K, R, I', L') ∧ post I' L')) args s 0 0 (Ab bs)) (F0 m 85 ls [.long s2, .int s1, .ref (ad bs (o + 21))]) := by
  have hx := E.1.1
  have hb := E.1.2.1
  obtain ⟨hv, hw⟩ := hw
  refine m_last E hM hS (isO_at ho 20 rfl).2 hv dX12_tracks_85 (fun L8 H locs eL8 hM hS => ?_)
  have hw := hw L8 eL8
  refine lv_iconst (v := 0) hx hb dX12_tracks_86 (by decide) ?_
  refine lv_istore (lv' := [(5, .int 0), (0, .ref (ad bs o)), (1, .int a1), (2, .int v2), (3, .int v3), (4, .int v4)]) hx hb dX12_tracks_87 hl (by decide) rfl (fun ls hl => ?_)
  exact s_X12_tracks_89 E hr hlk ho hk30  hw hM hS (lv_sub hl [1, 2, 3, 4, 5, 0] rfl)
def w_X12_tracks_30 (o : Nat) (a1 : Int32) (post : mI → mL → Prop) (k7 : mI → mL → Int32 → Prop) (I : mI) (L : mL) (v2 : Int32) (v3 : Int32) (v4 : Int32) : Prop := ∀ ZZ : (mI → mL → Int32 → Int32 → Int32 → Prop), (∀ (I : mI) (L : mL) (v2 : Int32) (v3 : Int32) (v4 : Int32), (w_X12_of I o 0 (fun r4 => (r4 ≤ v4 → ∀ x5, x5 = v2 + 1 → k7 I L x5) ∧ (¬ r4 ≤ v4 → vp_in ((24 * v2) + v4) 240 ∧ ∀ L6, L6 = up2 L (o + 21) (((24 * v2) + v4).toNatClampNeg) (0 : Int64) → (¬ ((v3 >>> (v4 &&& 31)) &&& 1) = 0 → (¬ v2 = 0 → (w_X12_tracks_85 o a1 post ZZ) I L6 v2 v3 v4 ((24 * v2) + v4) (0 : Int64)) ∧ (v2 = 0 → (w_X12_tracks_85 o a1 post ZZ) I L6 v2 v3 v4 ((24 * v2) + v4) (1 : Int64))) ∧ (((v3 >>> (v4 &&& 31)) &&& 1) = 0 → ∀ x7, x7 = v4 + 1 → ZZ I L6 v2 v3 x7)))) → ZZ I L v2 v3 v4) → ZZ I L v2 v3 v4
set_option maxRecDepth 100000 in
set_option maxHeartbeats 4000000 in
theorem s_X12_tracks_30 {p : Program} {l : Launch} {e : Env} {s : State} {m : MethodId} {args : Array Value} {below : List Frame} {meth : Method} {c : Code} {D : va_G} {cA : Nat → ClassId} {Z : mZ} {bs : Ad} {n : Nat} {K : mK} {R : mR} (E : Ev p s m args c cX12_tracks 6 RX12 D cA Z bs) (hr : meth.sig.returnType = none) (hlk : meth.locks = false) {o : Nat} {a1 : Int32} (ho : isX12 K R o) {post : mI → mL → Prop} {k7 : mI → mL → Int32 → Prop} (hk7 : ∀ (I : mI) (L : mL) (v2 : Int32) (H : Heap) (locs : List Loc) (ls : Array Slot), k7 I L v2 → mm D cA bs (n, K, R, I, L) H → va_S (Ab bs) s.heap H locs → lv_has ls 6 [(0, .ref (ad bs o)), (1, .int a1), (2, .int v2)] → W p l e ({ frames := 5, cells := 0, slots := 0, locals := 117 } : Room) s m args below meth c H locs 0 0 (MQ below (QV D cA bs (fun u => ∃ I' L', u = (n, K, R, I', L') ∧ post I' L')) args s 0 0 (Ab bs)) (F0 m 7 ls [])) {I : mI} {L : mL} {v2 : Int32} {v3 : Int32} {v4 : Int32} {H : Heap} {locs : List Loc} {ls : Array Slot} (hw : w_X12_tracks_30 o a1 post k7 I L v2 v3 v4) (hM : mm D cA bs (n, K, R, I, L) H) (hS : va_S (Ab bs) s.heap H locs) (hl : lv_has ls 6 [(0, .ref (ad bs o)), (1, .int a1), (2, .int v2), (3, .int v3), (4, .int v4)]) : W p l e ({ frames := 5, cells := 0, slots := 0, locals := 117 } : Room) s m args below meth c H locs 0 0 (MQ below (QV D cA bs (fun u => ∃ I' L', u = (n, K, R, I', L') ∧ post I' L')) args s 0 0 (Ab bs)) (F0 m 30 ls []) := by
  have hx := E.1.1
  have hb := E.1.2.1
  refine hw (fun I L v2 v3 v4 => ∀ (H : Heap) (locs : List Loc) (ls : Array Slot), mm D cA bs (n, K, R, I, L) H → va_S (Ab bs) s.heap H locs → lv_has ls 6 [(0, .ref (ad bs o)), (1, .int a1), (2, .int v2), (3, .int v3), (4, .int v4)] → W p l e ({ frames := 5, cells := 0, slots := 0, locals := 117 } : Room) s m args below meth c H locs 0 0 (MQ below (QV D cA bs (fun u => ∃ I' L', u = (n, K, R, I', L') ∧ post I' L')) args s 0 0 (Ab bs)) (F0 m 30 ls [])) ?_ H locs ls hM hS hl
  clear hw hM hS hl
  intro I L v2 v3 v4 hw H locs ls hM hS hl
  refine lv_iload hx hb dX12_tracks_30 (lv_at hl 4 rfl) ?_
  refine lv_aload_n hx hb dX12_tracks_32 rfl (lv_at hl 0 rfl) ?_
  refine lv_iconst (v := 0) hx hb dX12_tracks_33 (by decide) ?_
  refine m_ci (m_runV E hM hS cs_X12_205 ho.1 (by decide) rfl rfl (c_X12_of ho hw) rfl rfl ⟨Nat.le_of_ble_eq_true rfl, Nat.le_of_ble_eq_true rfl⟩ rfl hl.1 rfl (Nat.le_of_ble_eq_true rfl) dX12_tracks_34 ⟨Nat.le_of_ble_eq_true rfl, Nat.le_of_ble_eq_true rfl⟩) hS (fun r4 u H locs hp hM hS => ?_)
  obtain ⟨rfl, hw⟩ := hp
  refine lv_icmp_ge (tgt := 159) hx hb dX12_tracks_37 (by decide) (fun cq => ?_) (fun cq => ?_)
  · have hw := hw.1 cq
    obtain ⟨x5, ex5⟩ : ∃ y : Int32, y = v2 + 1 := ⟨_, rfl⟩
    have hw := hw x5 ex5
    refine lv_iinc (v := x5) (lv' := [(2, .int x5), (0, .ref (ad bs o)), (1, .int a1), (3, .int v3), (4, .int v4)]) hx hb dX12_tracks_159 hl (k := 2) rfl (by rw [ex5]; rfl) (by decide) rfl (fun ls hl => ?_)
    refine lv_goto (tgt := 7) hx hb dX12_tracks_162 (by decide) ?_
    exact hk7 _ _ _ H locs ls  hw hM hS (lv_sub hl [1, 2, 0] rfl)
  · have hw := hw.2 cq
    refine lv_aload_n hx hb dX12_tracks_40 rfl (lv_at hl 0 rfl) ?_
    refine m_getr E hM fs_X12_71 ho.1 (isO_at ho 20 rfl).1 dX12_tracks_41 ?_
    refine lv_bipush (v := 24) hx hb dX12_tracks_44 (by decide) ?_
    refine lv_iload_n hx hb dX12_tracks_46 rfl (lv_at hl 2 rfl) ?_
    refine lv_imul hx hb dX12_tracks_47 ?_
    refine lv_iload hx hb dX12_tracks_48 (lv_at hl 4 rfl) ?_
    refine lv_iadd hx hb dX12_tracks_50 ?_
    refine lv_lconst (v := 0) hx hb dX12_tracks_51 (by decide) ?_
    obtain ⟨hv, hw⟩ := hw
    refine m_last E hM hS (isO_at ho 20 rfl).2 hv dX12_tracks_52 (fun L6 H locs eL6 hM hS => ?_)
    have hw := hw L6 eL6
    refine lv_iload_n hx hb dX12_tracks_53 rfl (lv_at hl 3 rfl) ?_
    refine lv_iload hx hb dX12_tracks_54 (lv_at hl 4 rfl) ?_
    refine lv_ishr hx hb dX12_tracks_56 ?_
    refine lv_iconst (v := 1) hx hb dX12_tracks_57 (by decide) ?_
    refine lv_iand hx hb dX12_tracks_58 ?_
    refine lv_if_ne (tgt := 65) hx hb dX12_tracks_59 (by decide) (fun cq => ?_) (fun cq => ?_)
    · have hw := hw.1 cq
      refine lv_aload_n hx hb dX12_tracks_65 rfl (lv_at hl 0 rfl) ?_
      refine m_getr E hM fs_X12_71 ho.1 (isO_at ho 20 rfl).1 dX12_tracks_66 ?_
      refine lv_bipush (v := 24) hx hb dX12_tracks_69 (by decide) ?_
      refine lv_iload_n hx hb dX12_tracks_71 rfl (lv_at hl 2 rfl) ?_
      refine lv_imul hx hb dX12_tracks_72 ?_
      refine lv_iload hx hb dX12_tracks_73 (lv_at hl 4 rfl) ?_
      refine lv_iadd hx hb dX12_tracks_75 ?_
      refine lv_iload_n hx hb dX12_tracks_76 rfl (lv_at hl 2 rfl) ?_
      refine lv_if_ne (tgt := 84) hx hb dX12_tracks_77 (by decide) (fun cq => ?_) (fun cq => ?_)
      · have hw := hw.1 cq
        refine lv_lconst (v := 0) hx hb dX12_tracks_84 (by decide) ?_
        exact s_X12_tracks_85 E hr hlk ho (fun I L v2 v3 v4 H locs ls  hw hM hS hl => hw H locs ls  hM hS hl)  hw hM hS (lv_sub hl [0, 1, 2, 3, 4] rfl)
      · have hw := hw.2 cq
        refine lv_lconst (v := 1) hx hb dX12_tracks_80 (by decide) ?_
        refine lv_goto (tgt := 85) hx hb dX12_tracks_81 (by decide) ?_
        exact s_X12_tracks_85 E hr hlk ho (fun I L v2 v3 v4 H locs ls  hw hM hS hl => hw H locs ls  hM hS hl)  hw hM hS (lv_sub hl [0, 1, 2, 3, 4] rfl)
    · have hw := hw.2 cq
      refine lv_goto (tgt := 153) hx hb dX12_tracks_62 (by decide) ?_
      obtain ⟨x7, ex7⟩ : ∃ y : Int32, y = v4 + 1 := ⟨_, rfl⟩
      have hw := hw x7 ex7
      refine lv_iinc (v := x7) (lv' := [(4, .int x7), (0, .ref (ad bs o)), (1, .int a1), (2, .int v2), (3, .int v3)]) hx hb dX12_tracks_153 hl (k := 4) rfl (by rw [ex7]; rfl) (by decide) rfl (fun ls hl => ?_)
      refine lv_goto (tgt := 30) hx hb dX12_tracks_156 (by decide) ?_
      exact hw H locs ls  hM hS (lv_sub hl [1, 2, 3, 4, 0] rfl)
def w_X12_tracks_7 (o : Nat) (a1 : Int32) (post : mI → mL → Prop) (k172 : mI → mL → Int32 → Prop) (I : mI) (L : mL) (v2 : Int32) : Prop := ∀ ZZ : (mI → mL → Int32 → Prop), (∀ (I : mI) (L : mL) (v2 : Int32), (((I o 45) ≤ v2 → ∀ x2, x2 = ((I o 45) - 1) → k172 I L x2) ∧ (¬ (I o 45) ≤ v2 → vp_in v2 10 ∧ w_X12_madeOn I o a1 (I (o + 20) v2.toNatClampNeg) (fun r3 => (w_X12_tracks_30 o a1 post ZZ) I L v2 r3 0))) → ZZ I L v2) → ZZ I L v2
set_option maxRecDepth 100000 in
set_option maxHeartbeats 4000000 in
theorem s_X12_tracks_7 {p : Program} {l : Launch} {e : Env} {s : State} {m : MethodId} {args : Array Value} {below : List Frame} {meth : Method} {c : Code} {D : va_G} {cA : Nat → ClassId} {Z : mZ} {bs : Ad} {n : Nat} {K : mK} {R : mR} (E : Ev p s m args c cX12_tracks 6 RX12 D cA Z bs) (hr : meth.sig.returnType = none) (hlk : meth.locks = false) {o : Nat} {a1 : Int32} (ho : isX12 K R o) {post : mI → mL → Prop} {k172 : mI → mL → Int32 → Prop} (hk172 : ∀ (I : mI) (L : mL) (v2 : Int32) (H : Heap) (locs : List Loc) (ls : Array Slot), k172 I L v2 → mm D cA bs (n, K, R, I, L) H → va_S (Ab bs) s.heap H locs → lv_has ls 6 [(0, .ref (ad bs o)), (1, .int a1), (2, .int v2)] → W p l e ({ frames := 5, cells := 0, slots := 0, locals := 117 } : Room) s m args below meth c H locs 0 0 (MQ below (QV D cA bs (fun u => ∃ I' L', u = (n, K, R, I', L') ∧ post I' L')) args s 0 0 (Ab bs)) (F0 m 172 ls [])) {I : mI} {L : mL} {v2 : Int32} {H : Heap} {locs : List Loc} {ls : Array Slot} (hw : w_X12_tracks_7 o a1 post k172 I L v2) (hM : mm D cA bs (n, K, R, I, L) H) (hS : va_S (Ab bs) s.heap H locs) (hl : lv_has ls 6 [(0, .ref (ad bs o)), (1, .int a1), (2, .int v2)]) : W p l e ({ frames := 5, cells := 0, slots := 0, locals := 117 } : Room) s m args below meth c H locs 0 0 (MQ below (QV D cA bs (fun u => ∃ I' L', u = (n, K, R, I', L') ∧ post I' L')) args s 0 0 (Ab bs)) (F0 m 7 ls []) := by
  have hx := E.1.1
  have hb := E.1.2.1
  refine hw (fun I L v2 => ∀ (H : Heap) (locs : List Loc) (ls : Array Slot), mm D cA bs (n, K, R, I, L) H → va_S (Ab bs) s.heap H locs → lv_has ls 6 [(0, .ref (ad bs o)), (1, .int a1), (2, .int v2)] → W p l e ({ frames := 5, cells := 0, slots := 0, locals := 117 } : Room) s m args below meth c H locs 0 0 (MQ below (QV D cA bs (fun u => ∃ I' L', u = (n, K, R, I', L') ∧ post I' L')) args s 0 0 (Ab bs)) (F0 m 7 ls [])) ?_ H locs ls hM hS hl
  clear hw hM hS hl
  intro I L v2 hw H locs ls hM hS hl
  refine lv_iload_n hx hb dX12_tracks_7 rfl (lv_at hl 2 rfl) ?_
  refine lv_aload_n hx hb dX12_tracks_8 rfl (lv_at hl 0 rfl) ?_
  refine m_geti E hM fs_X12_397 ho.1 dX12_tracks_9 ?_
  refine lv_icmp_ge (tgt := 165) hx hb dX12_tracks_12 (by decide) (fun cq => ?_) (fun cq => ?_)
  · have hw := hw.1 cq
    refine lv_aload_n hx hb dX12_tracks_165 rfl (lv_at hl 0 rfl) ?_
    refine m_geti E hM fs_X12_397 ho.1 dX12_tracks_166 ?_
    refine lv_iconst (v := 1) hx hb dX12_tracks_169 (by decide) ?_
    refine lv_isub hx hb dX12_tracks_170 ?_
    refine lv_topi (fun x2 ex2 => ?_)
    have hw := hw x2 ex2
    refine lv_istore_n (lv' := [(2, .int x2), (0, .ref (ad bs o)), (1, .int a1)]) hx hb dX12_tracks_171 rfl hl (by decide) rfl (fun ls hl => ?_)
    exact hk172 _ _ _ H locs ls  hw hM hS (lv_sub hl [1, 2, 0] rfl)
  · have hw := hw.2 cq
    refine lv_aload_n hx hb dX12_tracks_15 rfl (lv_at hl 0 rfl) ?_
    refine lv_iload_n hx hb dX12_tracks_16 rfl (lv_at hl 1 rfl) ?_
    refine lv_aload_n hx hb dX12_tracks_17 rfl (lv_at hl 0 rfl) ?_
    refine m_getr E hM fs_X12_68 ho.1 (isO_at ho 19 rfl).1 dX12_tracks_18 ?_
    refine lv_iload_n hx hb dX12_tracks_21 rfl (lv_at hl 2 rfl) ?_
    obtain ⟨hv, hw⟩ := hw
    refine m_iald E hM (isO_at ho 19 rfl).2 hv dX12_tracks_22 ?_
    refine m_ci (m_runV E hM hS cs_X12_388 ho.1 (by decide) rfl rfl (c_X12_madeOn ho hw) rfl rfl ⟨Nat.le_of_ble_eq_true rfl, Nat.le_of_ble_eq_true rfl⟩ rfl hl.1 rfl (Nat.le_of_ble_eq_true rfl) dX12_tracks_23 ⟨Nat.le_of_ble_eq_true rfl, Nat.le_of_ble_eq_true rfl⟩) hS (fun r3 u H locs hp hM hS => ?_)
    obtain ⟨rfl, hw⟩ := hp
    refine lv_istore_n (lv' := [(3, .int r3), (0, .ref (ad bs o)), (1, .int a1), (2, .int v2)]) hx hb dX12_tracks_26 rfl hl (by decide) rfl (fun ls hl => ?_)
    refine lv_iconst (v := 0) hx hb dX12_tracks_27 (by decide) ?_
    refine lv_istore (lv' := [(4, .int 0), (3, .int r3), (0, .ref (ad bs o)), (1, .int a1), (2, .int v2)]) hx hb dX12_tracks_28 hl (by decide) rfl (fun ls hl => ?_)
    exact s_X12_tracks_30 E hr hlk ho (fun I L v2 H locs ls  hw hM hS hl => hw H locs ls  hM hS hl)  hw hM hS (lv_sub hl [2, 3, 4, 1, 0] rfl)
def w_X12_tracks_256 (o : Nat) (a1 : Int32) (post : mI → mL → Prop) (k191 : mI → mL → Int32 → Int32 → Int32 → Prop) (I : mI) (L : mL) (v2 : Int32) (v3 : Int32) (v4 : Int32) (v5 : Int32) : Prop := ∀ ZZ : (mI → mL → Int32 → Int32 → Int32 → Int32 → Prop), (∀ (I : mI) (L : mL) (v2 : Int32) (v3 : Int32) (v4 : Int32) (v5 : Int32), (w_X12_of I o 0 (fun r22 => (r22 ≤ v5 → ∀ x23, x23 = v4 + 1 → k191 I L v2 v3 x23) ∧ (¬ r22 ≤ v5 → (((I o 45) - 1) ≤ v2 → ∀ x24, x24 = v4 + 1 → k191 I L v2 v3 x24) ∧ (¬ ((I o 45) - 1) ≤ v2 → w_X12_isGone I o a1 v2 v4 v5 (fun b25 => (b25 = false → ∀ x26, x26 = v5 + 1 → ZZ I L v2 v3 v4 x26) ∧ (b25 = true → vp_in ((24 * v2) + v4) 240 ∧ vp_in ((24 * (v2 + 1)) + v5) 240 ∧ vp_in ((24 * v2) + v4) 240 ∧ ∀ L27, L27 = up2 L (o + 22) (((24 * v2) + v4).toNatClampNeg) ((L (o + 22) ((24 * v2) + v4).toNatClampNeg) + (L (o + 22) ((24 * (v2 + 1)) + v5).toNatClampNeg)) → ∀ x28, x28 = v5 + 1 → ZZ I L27 v2 v3 v4 x28)))))) → ZZ I L v2 v3 v4 v5) → ZZ I L v2 v3 v4 v5
set_option maxRecDepth 100000 in
set_option maxHeartbeats 4000000 in
theorem s_X12_tracks_256 {p : Program} {l : Launch} {e : Env} {s : State} {m : MethodId} {args : Array Value} {below : List Frame} {meth : Method} {c : Code} {D : va_G} {cA : Nat → ClassId} {Z : mZ} {bs : Ad} {n : Nat} {K : mK} {R : mR} (E : Ev p s m args c cX12_tracks 6 RX12 D cA Z bs) (hr : meth.sig.returnType = none) (hlk : meth.locks = false) {o : Nat} {a1 : Int32} (ho : isX12 K R o) {post : mI → mL → Prop} {k191 : mI → mL → Int32 → Int32 → Int32 → Prop} (hk191 : ∀ (I : mI) (L : mL) (v2 : Int32) (v3 : Int32) (v4 : Int32) (H : Heap) (locs : List Loc) (ls : Array Slot), k191 I L v2 v3 v4 → mm D cA bs (n, K, R, I, L) H → va_S (Ab bs) s.heap H locs → lv_has ls 6 [(0, .ref (ad bs o)), (1, .int a1), (2, .int v2), (3, .int v3), (4, .int v4)] → W p l e ({ frames := 5, cells := 0, slots := 0, locals := 117 } : Room) s m args below meth c H locs 0 0 (MQ below (QV D cA bs (fun u => ∃ I' L', u = (n, K, R, I', L') ∧ post I' L')) args s 0 0 (Ab bs)) (F0 m 191 ls [])) {I : mI} {L : mL} {v2 : Int32} {v3 : Int32} {v4 : Int32} {v5 : Int32} {H : Heap} {locs : List Loc} {ls : Array Slot} (hw : w_X12_tracks_256 o a1 post k191 I L v2 v3 v4 v5) (hM : mm D cA bs (n, K, R, I, L) H) (hS : va_S (Ab bs) s.heap H locs) (hl : lv_has ls 6 [(0, .ref (ad bs o)), (1, .int a1), (2, .int v2), (3, .int v3), (4, .int v4), (5, .int v5)]) : W p l e ({ frames := 5, cells := 0, slots := 0, locals := 117 } : Room) s m args below meth c H locs 0 0 (MQ below (QV D cA bs (fun u => ∃ I' L', u = (n, K, R, I', L') ∧ post I' L')) args s 0 0 (Ab bs)) (F0 m 256 ls []) := by
  have hx := E.1.1
  have hb := E.1.2.1
  refine hw (fun I L v2 v3 v4 v5 => ∀ (H : Heap) (locs : List Loc) (ls : Array Slot), mm D cA bs (n, K, R, I, L) H → va_S (Ab bs) s.heap H locs → lv_has ls 6 [(0, .ref (ad bs o)), (1, .int a1), (2, .int v2), (3, .int v3), (4, .int v4), (5, .int v5)] → W p l e ({ frames := 5, cells := 0, slots := 0, locals := 117 } : Room) s m args below meth c H locs 0 0 (MQ below (QV D cA bs (fun u => ∃ I' L', u = (n, K, R, I', L') ∧ post I' L')) args s 0 0 (Ab bs)) (F0 m 256 ls [])) ?_ H locs ls hM hS hl
  clear hw hM hS hl
  intro I L v2 v3 v4 v5 hw H locs ls hM hS hl
  refine lv_iload hx hb dX12_tracks_256 (lv_at hl 5 rfl) ?_
  refine lv_aload_n hx hb dX12_tracks_258 rfl (lv_at hl 0 rfl) ?_
  refine lv_iconst (v := 0) hx hb dX12_tracks_259 (by decide) ?_
  refine m_ci (m_runV E hM hS cs_X12_205 ho.1 (by decide) rfl rfl (c_X12_of ho hw) rfl rfl ⟨Nat.le_of_ble_eq_true rfl, Nat.le_of_ble_eq_true rfl⟩ rfl hl.1 rfl (Nat.le_of_ble_eq_true rfl) dX12_tracks_260 ⟨Nat.le_of_ble_eq_true rfl, Nat.le_of_ble_eq_true rfl⟩) hS (fun r22 u H locs hp hM hS => ?_)
  obtain ⟨rfl, hw⟩ := hp
  refine lv_icmp_ge (tgt := 324) hx hb dX12_tracks_263 (by decide) (fun cq => ?_) (fun cq => ?_)
  · have hw := hw.1 cq
    obtain ⟨x23, ex23⟩ : ∃ y : Int32, y = v4 + 1 := ⟨_, rfl⟩
    have hw := hw x23 ex23
    refine lv_iinc (v := x23) (lv' := [(4, .int x23), (0, .ref (ad bs o)), (1, .int a1), (2, .int v2), (3, .int v3), (5, .int v5)]) hx hb dX12_tracks_324 hl (k := 4) rfl (by rw [ex23]; rfl) (by decide) rfl (fun ls hl => ?_)
    refine lv_goto (tgt := 191) hx hb dX12_tracks_327 (by decide) ?_
    exact hk191 _ _ _ _ _ H locs ls  hw hM hS (lv_sub hl [1, 2, 3, 4, 0] rfl)
  · have hw := hw.2 cq
    refine lv_iload_n hx hb dX12_tracks_266 rfl (lv_at hl 2 rfl) ?_
    refine lv_aload_n hx hb dX12_tracks_267 rfl (lv_at hl 0 rfl) ?_
    refine m_geti E hM fs_X12_397 ho.1 dX12_tracks_268 ?_
    refine lv_iconst (v := 1) hx hb dX12_tracks_271 (by decide) ?_
    refine lv_isub hx hb dX12_tracks_272 ?_
    refine lv_icmp_ge (tgt := 324) hx hb dX12_tracks_273 (by decide) (fun cq => ?_) (fun cq => ?_)
    · have hw := hw.1 cq
      obtain ⟨x24, ex24⟩ : ∃ y : Int32, y = v4 + 1 := ⟨_, rfl⟩
      have hw := hw x24 ex24
      refine lv_iinc (v := x24) (lv' := [(4, .int x24), (0, .ref (ad bs o)), (1, .int a1), (2, .int v2), (3, .int v3), (5, .int v5)]) hx hb dX12_tracks_324 hl (k := 4) rfl (by rw [ex24]; rfl) (by decide) rfl (fun ls hl => ?_)
      refine lv_goto (tgt := 191) hx hb dX12_tracks_327 (by decide) ?_
      exact hk191 _ _ _ _ _ H locs ls  hw hM hS (lv_sub hl [1, 2, 3, 4, 0] rfl)
    · have hw := hw.2 cq
      refine lv_aload_n hx hb dX12_tracks_276 rfl (lv_at hl 0 rfl) ?_
      refine lv_iload_n hx hb dX12_tracks_277 rfl (lv_at hl 1 rfl) ?_
      refine lv_iload_n hx hb dX12_tracks_278 rfl (lv_at hl 2 rfl) ?_
      refine lv_iload hx hb dX12_tracks_279 (lv_at hl 4 rfl) ?_
      refine lv_iload hx hb dX12_tracks_281 (lv_at hl 5 rfl) ?_
      refine m_ci (m_runV E hM hS cs_X12_403 ho.1 (by decide) rfl rfl (c_X12_isGone ho hw) rfl rfl ⟨Nat.le_of_ble_eq_true rfl, Nat.le_of_ble_eq_true rfl⟩ rfl hl.1 rfl (Nat.le_of_ble_eq_true rfl) dX12_tracks_283 ⟨Nat.le_of_ble_eq_true rfl, Nat.le_of_ble_eq_true rfl⟩) hS (fun r9 u H locs hp hM hS => ?_)
      obtain ⟨b25, rfl, rfl, hw⟩ := hp
      refine lv_if_eq (tgt := 318) hx hb dX12_tracks_286 (by decide) (fun cq => ?_) (fun cq => ?_)
      · have hw := hw.1 (bI_f cq)
        obtain ⟨x26, ex26⟩ : ∃ y : Int32, y = v5 + 1 := ⟨_, rfl⟩
        have hw := hw x26 ex26
        refine lv_iinc (v := x26) (lv' := [(5, .int x26), (0, .ref (ad bs o)), (1, .int a1), (2, .int v2), (3, .int v3), (4, .int v4)]) hx hb dX12_tracks_318 hl (k := 5) rfl (by rw [ex26]; rfl) (by decide) rfl (fun ls hl => ?_)
        refine lv_goto (tgt := 256) hx hb dX12_tracks_321 (by decide) ?_
        exact hw H locs ls  hM hS (lv_sub hl [1, 2, 3, 4, 5, 0] rfl)
      · have hw := hw.2 (bI_t cq)
        refine lv_aload_n hx hb dX12_tracks_289 rfl (lv_at hl 0 rfl) ?_
        refine m_getr E hM fs_X12_75 ho.1 (isO_at ho 21 rfl).1 dX12_tracks_290 ?_
        refine lv_bipush (v := 24) hx hb dX12_tracks_293 (by decide) ?_
        refine lv_iload_n hx hb dX12_tracks_295 rfl (lv_at hl 2 rfl) ?_
        refine lv_imul hx hb dX12_tracks_296 ?_
        refine lv_iload hx hb dX12_tracks_297 (lv_at hl 4 rfl) ?_
        refine lv_iadd hx hb dX12_tracks_299 ?_
        refine lv_dup2_11 hx hb dX12_tracks_300 rfl rfl ?_
        obtain ⟨hv, hw⟩ := hw
        refine m_lald E hM (isO_at ho 21 rfl).2 hv dX12_tracks_301 ?_
        refine lv_aload_n hx hb dX12_tracks_302 rfl (lv_at hl 0 rfl) ?_
        refine m_getr E hM fs_X12_75 ho.1 (isO_at ho 21 rfl).1 dX12_tracks_303 ?_
        refine lv_bipush (v := 24) hx hb dX12_tracks_306 (by decide) ?_
        refine lv_iload_n hx hb dX12_tracks_308 rfl (lv_at hl 2 rfl) ?_
        refine lv_iconst (v := 1) hx hb dX12_tracks_309 (by decide) ?_
        refine lv_iadd hx hb dX12_tracks_310 ?_
        refine lv_imul hx hb dX12_tracks_311 ?_
        refine lv_iload hx hb dX12_tracks_312 (lv_at hl 5 rfl) ?_
        refine lv_iadd hx hb dX12_tracks_314 ?_
        obtain ⟨hv, hw⟩ := hw
        refine m_lald E hM (isO_at ho 21 rfl).2 hv dX12_tracks_315 ?_
        refine lv_ladd hx hb dX12_tracks_316 ?_
        obtain ⟨hv, hw⟩ := hw
        refine m_last E hM hS (isO_at ho 21 rfl).2 hv dX12_tracks_317 (fun L27 H locs eL27 hM hS => ?_)
        have hw := hw L27 eL27
        obtain ⟨x28, ex28⟩ : ∃ y : Int32, y = v5 + 1 := ⟨_, rfl⟩
        have hw := hw x28 ex28
        refine lv_iinc (v := x28) (lv' := [(5, .int x28), (0, .ref (ad bs o)), (1, .int a1), (2, .int v2), (3, .int v3), (4, .int v4)]) hx hb dX12_tracks_318 hl (k := 5) rfl (by rw [ex28]; rfl) (by decide) rfl (fun ls hl => ?_)
        refine lv_goto (tgt := 256) hx hb dX12_tracks_321 (by decide) ?_
        exact hw H locs ls  hM hS (lv_sub hl [1, 2, 3, 4, 5, 0] rfl)
def w_X12_tracks_252 (o : Nat) (a1 : Int32) (post : mI → mL → Prop) (k191 : mI → mL → Int32 → Int32 → Int32 → Prop) (I : mI) (L : mL) (v2 : Int32) (v3 : Int32) (v4 : Int32) (s1 : Int32) (s2 : Int64) : Prop := vp_in s1 240 ∧ ∀ L21, L21 = up2 L (o + 22) s1.toNatClampNeg s2 → (w_X12_tracks_256 o a1 post k191) I L21 v2 v3 v4 0
set_option maxRecDepth 100000 in
set_option maxHeartbeats 4000000 in
theorem s_X12_tracks_252 {p : Program} {l : Launch} {e : Env} {s : State} {m : MethodId} {args : Array Value} {below : List Frame} {meth : Method} {c : Code} {D : va_G} {cA : Nat → ClassId} {Z : mZ} {bs : Ad} {n : Nat} {K : mK} {R : mR} (E : Ev p s m args c cX12_tracks 6 RX12 D cA Z bs) (hr : meth.sig.returnType = none) (hlk : meth.locks = false) {o : Nat} {a1 : Int32} (ho : isX12 K R o) {post : mI → mL → Prop} {k191 : mI → mL → Int32 → Int32 → Int32 → Prop} (hk191 : ∀ (I : mI) (L : mL) (v2 : Int32) (v3 : Int32) (v4 : Int32) (H : Heap) (locs : List Loc) (ls : Array Slot), k191 I L v2 v3 v4 → mm D cA bs (n, K, R, I, L) H → va_S (Ab bs) s.heap H locs → lv_has ls 6 [(0, .ref (ad bs o)), (1, .int a1), (2, .int v2), (3, .int v3), (4, .int v4)] → W p l e ({ frames := 5, cells := 0, slots := 0, locals := 117 } : Room) s m args below meth c H locs 0 0 (MQ below (QV D cA bs (fun u => ∃ I' L', u = (n, K, R, I', L') ∧ post I' L')) args s 0 0 (Ab bs)) (F0 m 191 ls [])) {I : mI} {L : mL} {v2 : Int32} {v3 : Int32} {v4 : Int32} {s1 : Int32} {s2 : Int64} {H : Heap} {locs : List Loc} {ls : Array Slot} (hw : w_X12_tracks_252 o a1 post k191 I L v2 v3 v4 s1 s2) (hM : mm D cA bs (n, K, R, I, L) H) (hS : va_S (Ab bs) s.heap H locs) (hl : lv_has ls 6 [(0, .ref (ad bs o)), (1, .int a1), (2, .int v2), (3, .int v3), (4, .int v4)]) : W p l e ({ frames := 5, cells := 0, slots := 0, locals := 117 } : Room) s m args below meth c H locs 0 0 (MQ below (QV D cA bs (fun u => ∃ I' L', u = (n, K, R, I', L') ∧ post I' L')) args s 0 0 (Ab bs)) (F0 m 252 ls [.long s2, .int s1, .ref (ad bs (o + 22))]) := by
  have hx := E.1.1
  have hb := E.1.2.1
  obtain ⟨hv, hw⟩ := hw
  refine m_last E hM hS (isO_at ho 21 rfl).2 hv dX12_tracks_252 (fun L21 H locs eL21 hM hS => ?_)
  have hw := hw L21 eL21
  refine lv_iconst (v := 0) hx hb dX12_tracks_253 (by decide) ?_
  refine lv_istore (lv' := [(5, .int 0), (0, .ref (ad bs o)), (1, .int a1), (2, .int v2), (3, .int v3), (4, .int v4)]) hx hb dX12_tracks_254 hl (by decide) rfl (fun ls hl => ?_)
  exact s_X12_tracks_256 E hr hlk ho hk191  hw hM hS (lv_sub hl [1, 2, 3, 4, 5, 0] rfl)
def w_X12_tracks_191 (o : Nat) (a1 : Int32) (post : mI → mL → Prop) (k172 : mI → mL → Int32 → Prop) (I : mI) (L : mL) (v2 : Int32) (v3 : Int32) (v4 : Int32) : Prop := ∀ ZZ : (mI → mL → Int32 → Int32 → Int32 → Prop), (∀ (I : mI) (L : mL) (v2 : Int32) (v3 : Int32) (v4 : Int32), (w_X12_of I o 0 (fun r17 => (r17 ≤ v4 → ∀ x18, x18 = v2 + (-1) → k172 I L x18) ∧ (¬ r17 ≤ v4 → vp_in ((24 * v2) + v4) 240 ∧ ∀ L19, L19 = up2 L (o + 22) (((24 * v2) + v4).toNatClampNeg) (0 : Int64) → (¬ ((v3 >>> (v4 &&& 31)) &&& 1) = 0 → (¬ v2 = ((I o 45) - 1) → (w_X12_tracks_252 o a1 post ZZ) I L19 v2 v3 v4 ((24 * v2) + v4) (0 : Int64)) ∧ (v2 = ((I o 45) - 1) → (w_X12_tracks_252 o a1 post ZZ) I L19 v2 v3 v4 ((24 * v2) + v4) (1 : Int64))) ∧ (((v3 >>> (v4 &&& 31)) &&& 1) = 0 → ∀ x20, x20 = v4 + 1 → ZZ I L19 v2 v3 x20)))) → ZZ I L v2 v3 v4) → ZZ I L v2 v3 v4
set_option maxRecDepth 100000 in
set_option maxHeartbeats 4000000 in
theorem s_X12_tracks_191 {p : Program} {l : Launch} {e : Env} {s : State} {m : MethodId} {args : Array Value} {below : List Frame} {meth : Method} {c : Code} {D : va_G} {cA : Nat → ClassId} {Z : mZ} {bs : Ad} {n : Nat} {K : mK} {R : mR} (E : Ev p s m args c cX12_tracks 6 RX12 D cA Z bs) (hr : meth.sig.returnType = none) (hlk : meth.locks = false) {o : Nat} {a1 : Int32} (ho : isX12 K R o) {post : mI → mL → Prop} {k172 : mI → mL → Int32 → Prop} (hk172 : ∀ (I : mI) (L : mL) (v2 : Int32) (H : Heap) (locs : List Loc) (ls : Array Slot), k172 I L v2 → mm D cA bs (n, K, R, I, L) H → va_S (Ab bs) s.heap H locs → lv_has ls 6 [(0, .ref (ad bs o)), (1, .int a1), (2, .int v2)] → W p l e ({ frames := 5, cells := 0, slots := 0, locals := 117 } : Room) s m args below meth c H locs 0 0 (MQ below (QV D cA bs (fun u => ∃ I' L', u = (n, K, R, I', L') ∧ post I' L')) args s 0 0 (Ab bs)) (F0 m 172 ls [])) {I : mI} {L : mL} {v2 : Int32} {v3 : Int32} {v4 : Int32} {H : Heap} {locs : List Loc} {ls : Array Slot} (hw : w_X12_tracks_191 o a1 post k172 I L v2 v3 v4) (hM : mm D cA bs (n, K, R, I, L) H) (hS : va_S (Ab bs) s.heap H locs) (hl : lv_has ls 6 [(0, .ref (ad bs o)), (1, .int a1), (2, .int v2), (3, .int v3), (4, .int v4)]) : W p l e ({ frames := 5, cells := 0, slots := 0, locals := 117 } : Room) s m args below meth c H locs 0 0 (MQ below (QV D cA bs (fun u => ∃ I' L', u = (n, K, R, I', L') ∧ post I' L')) args s 0 0 (Ab bs)) (F0 m 191 ls []) := by
  have hx := E.1.1
  have hb := E.1.2.1
  refine hw (fun I L v2 v3 v4 => ∀ (H : Heap) (locs : List Loc) (ls : Array Slot), mm D cA bs (n, K, R, I, L) H → va_S (Ab bs) s.heap H locs → lv_has ls 6 [(0, .ref (ad bs o)), (1, .int a1), (2, .int v2), (3, .int v3), (4, .int v4)] → W p l e ({ frames := 5, cells := 0, slots := 0, locals := 117 } : Room) s m args below meth c H locs 0 0 (MQ below (QV D cA bs (fun u => ∃ I' L', u = (n, K, R, I', L') ∧ post I' L')) args s 0 0 (Ab bs)) (F0 m 191 ls [])) ?_ H locs ls hM hS hl
  clear hw hM hS hl
  intro I L v2 v3 v4 hw H locs ls hM hS hl
  refine lv_iload hx hb dX12_tracks_191 (lv_at hl 4 rfl) ?_
  refine lv_aload_n hx hb dX12_tracks_193 rfl (lv_at hl 0 rfl) ?_
  refine lv_iconst (v := 0) hx hb dX12_tracks_194 (by decide) ?_
  refine m_ci (m_runV E hM hS cs_X12_205 ho.1 (by decide) rfl rfl (c_X12_of ho hw) rfl rfl ⟨Nat.le_of_ble_eq_true rfl, Nat.le_of_ble_eq_true rfl⟩ rfl hl.1 rfl (Nat.le_of_ble_eq_true rfl) dX12_tracks_195 ⟨Nat.le_of_ble_eq_true rfl, Nat.le_of_ble_eq_true rfl⟩) hS (fun r17 u H locs hp hM hS => ?_)
  obtain ⟨rfl, hw⟩ := hp
  refine lv_icmp_ge (tgt := 330) hx hb dX12_tracks_198 (by decide) (fun cq => ?_) (fun cq => ?_)
  · have hw := hw.1 cq
    obtain ⟨x18, ex18⟩ : ∃ y : Int32, y = v2 + (-1) := ⟨_, rfl⟩
    have hw := hw x18 ex18
    refine lv_iinc (v := x18) (lv' := [(2, .int x18), (0, .ref (ad bs o)), (1, .int a1), (3, .int v3), (4, .int v4)]) hx hb dX12_tracks_330 hl (k := 2) rfl (by rw [ex18]; rfl) (by decide) rfl (fun ls hl => ?_)
    refine lv_goto (tgt := 172) hx hb dX12_tracks_333 (by decide) ?_
    exact hk172 _ _ _ H locs ls  hw hM hS (lv_sub hl [1, 2, 0] rfl)
  · have hw := hw.2 cq
    refine lv_aload_n hx hb dX12_tracks_201 rfl (lv_at hl 0 rfl) ?_
    refine m_getr E hM fs_X12_75 ho.1 (isO_at ho 21 rfl).1 dX12_tracks_202 ?_
    refine lv_bipush (v := 24) hx hb dX12_tracks_205 (by decide) ?_
    refine lv_iload_n hx hb dX12_tracks_207 rfl (lv_at hl 2 rfl) ?_
    refine lv_imul hx hb dX12_tracks_208 ?_
    refine lv_iload hx hb dX12_tracks_209 (lv_at hl 4 rfl) ?_
    refine lv_iadd hx hb dX12_tracks_211 ?_
    refine lv_lconst (v := 0) hx hb dX12_tracks_212 (by decide) ?_
    obtain ⟨hv, hw⟩ := hw
    refine m_last E hM hS (isO_at ho 21 rfl).2 hv dX12_tracks_213 (fun L19 H locs eL19 hM hS => ?_)
    have hw := hw L19 eL19
    refine lv_iload_n hx hb dX12_tracks_214 rfl (lv_at hl 3 rfl) ?_
    refine lv_iload hx hb dX12_tracks_215 (lv_at hl 4 rfl) ?_
    refine lv_ishr hx hb dX12_tracks_217 ?_
    refine lv_iconst (v := 1) hx hb dX12_tracks_218 (by decide) ?_
    refine lv_iand hx hb dX12_tracks_219 ?_
    refine lv_if_ne (tgt := 226) hx hb dX12_tracks_220 (by decide) (fun cq => ?_) (fun cq => ?_)
    · have hw := hw.1 cq
      refine lv_aload_n hx hb dX12_tracks_226 rfl (lv_at hl 0 rfl) ?_
      refine m_getr E hM fs_X12_75 ho.1 (isO_at ho 21 rfl).1 dX12_tracks_227 ?_
      refine lv_bipush (v := 24) hx hb dX12_tracks_230 (by decide) ?_
      refine lv_iload_n hx hb dX12_tracks_232 rfl (lv_at hl 2 rfl) ?_
      refine lv_imul hx hb dX12_tracks_233 ?_
      refine lv_iload hx hb dX12_tracks_234 (lv_at hl 4 rfl) ?_
      refine lv_iadd hx hb dX12_tracks_236 ?_
      refine lv_iload_n hx hb dX12_tracks_237 rfl (lv_at hl 2 rfl) ?_
      refine lv_aload_n hx hb dX12_tracks_238 rfl (lv_at hl 0 rfl) ?_
      refine m_geti E hM fs_X12_397 ho.1 dX12_tracks_239 ?_
      refine lv_iconst (v := 1) hx hb dX12_tracks_242 (by decide) ?_
      refine lv_isub hx hb dX12_tracks_243 ?_
      refine lv_icmp_ne (tgt := 251) hx hb dX12_tracks_244 (by decide) (fun cq => ?_) (fun cq => ?_)
      · have hw := hw.1 cq
        refine lv_lconst (v := 0) hx hb dX12_tracks_251 (by decide) ?_
        exact s_X12_tracks_252 E hr hlk ho (fun I L v2 v3 v4 H locs ls  hw hM hS hl => hw H locs ls  hM hS hl)  hw hM hS (lv_sub hl [0, 1, 2, 3, 4] rfl)
      · have hw := hw.2 cq
        refine lv_lconst (v := 1) hx hb dX12_tracks_247 (by decide) ?_
        refine lv_goto (tgt := 252) hx hb dX12_tracks_248 (by decide) ?_
        exact s_X12_tracks_252 E hr hlk ho (fun I L v2 v3 v4 H locs ls  hw hM hS hl => hw H locs ls  hM hS hl)  hw hM hS (lv_sub hl [0, 1, 2, 3, 4] rfl)
    · have hw := hw.2 cq
      refine lv_goto (tgt := 324) hx hb dX12_tracks_223 (by decide) ?_
      obtain ⟨x20, ex20⟩ : ∃ y : Int32, y = v4 + 1 := ⟨_, rfl⟩
      have hw := hw x20 ex20
      refine lv_iinc (v := x20) (lv' := [(4, .int x20), (0, .ref (ad bs o)), (1, .int a1), (2, .int v2), (3, .int v3)]) hx hb dX12_tracks_324 hl (k := 4) rfl (by rw [ex20]; rfl) (by decide) rfl (fun ls hl => ?_)
      refine lv_goto (tgt := 191) hx hb dX12_tracks_327 (by decide) ?_
      exact hw H locs ls  hM hS (lv_sub hl [1, 2, 3, 4, 0] rfl)
def w_X12_tracks_172 (o : Nat) (a1 : Int32) (post : mI → mL → Prop) (I : mI) (L : mL) (v2 : Int32) : Prop := ∀ ZZ : (mI → mL → Int32 → Prop), (∀ (I : mI) (L : mL) (v2 : Int32), ((v2 < 0 → post I L) ∧ (¬ v2 < 0 → vp_in v2 10 ∧ w_X12_madeOn I o a1 (I (o + 20) v2.toNatClampNeg) (fun r16 => (w_X12_tracks_191 o a1 post ZZ) I L v2 r16 0))) → ZZ I L v2) → ZZ I L v2
set_option maxRecDepth 100000 in
set_option maxHeartbeats 4000000 in
theorem s_X12_tracks_172 {p : Program} {l : Launch} {e : Env} {s : State} {m : MethodId} {args : Array Value} {below : List Frame} {meth : Method} {c : Code} {D : va_G} {cA : Nat → ClassId} {Z : mZ} {bs : Ad} {n : Nat} {K : mK} {R : mR} (E : Ev p s m args c cX12_tracks 6 RX12 D cA Z bs) (hr : meth.sig.returnType = none) (hlk : meth.locks = false) {o : Nat} {a1 : Int32} (ho : isX12 K R o) {post : mI → mL → Prop} {I : mI} {L : mL} {v2 : Int32} {H : Heap} {locs : List Loc} {ls : Array Slot} (hw : w_X12_tracks_172 o a1 post I L v2) (hM : mm D cA bs (n, K, R, I, L) H) (hS : va_S (Ab bs) s.heap H locs) (hl : lv_has ls 6 [(0, .ref (ad bs o)), (1, .int a1), (2, .int v2)]) : W p l e ({ frames := 5, cells := 0, slots := 0, locals := 117 } : Room) s m args below meth c H locs 0 0 (MQ below (QV D cA bs (fun u => ∃ I' L', u = (n, K, R, I', L') ∧ post I' L')) args s 0 0 (Ab bs)) (F0 m 172 ls []) := by
  have hx := E.1.1
  have hb := E.1.2.1
  refine hw (fun I L v2 => ∀ (H : Heap) (locs : List Loc) (ls : Array Slot), mm D cA bs (n, K, R, I, L) H → va_S (Ab bs) s.heap H locs → lv_has ls 6 [(0, .ref (ad bs o)), (1, .int a1), (2, .int v2)] → W p l e ({ frames := 5, cells := 0, slots := 0, locals := 117 } : Room) s m args below meth c H locs 0 0 (MQ below (QV D cA bs (fun u => ∃ I' L', u = (n, K, R, I', L') ∧ post I' L')) args s 0 0 (Ab bs)) (F0 m 172 ls [])) ?_ H locs ls hM hS hl
  clear hw hM hS hl
  intro I L v2 hw H locs ls hM hS hl
  refine lv_iload_n hx hb dX12_tracks_172 rfl (lv_at hl 2 rfl) ?_
  refine lv_if_lt (tgt := 336) hx hb dX12_tracks_173 (by decide) (fun cq => ?_) (fun cq => ?_)
  · have hw := hw.1 cq
    exact m_retv hx hb hr hlk hM hS ⟨_, _, rfl, hw⟩ dX12_tracks_336
  · have hw := hw.2 cq
    refine lv_aload_n hx hb dX12_tracks_176 rfl (lv_at hl 0 rfl) ?_
    refine lv_iload_n hx hb dX12_tracks_177 rfl (lv_at hl 1 rfl) ?_
    refine lv_aload_n hx hb dX12_tracks_178 rfl (lv_at hl 0 rfl) ?_
    refine m_getr E hM fs_X12_68 ho.1 (isO_at ho 19 rfl).1 dX12_tracks_179 ?_
    refine lv_iload_n hx hb dX12_tracks_182 rfl (lv_at hl 2 rfl) ?_
    obtain ⟨hv, hw⟩ := hw
    refine m_iald E hM (isO_at ho 19 rfl).2 hv dX12_tracks_183 ?_
    refine m_ci (m_runV E hM hS cs_X12_388 ho.1 (by decide) rfl rfl (c_X12_madeOn ho hw) rfl rfl ⟨Nat.le_of_ble_eq_true rfl, Nat.le_of_ble_eq_true rfl⟩ rfl hl.1 rfl (Nat.le_of_ble_eq_true rfl) dX12_tracks_184 ⟨Nat.le_of_ble_eq_true rfl, Nat.le_of_ble_eq_true rfl⟩) hS (fun r16 u H locs hp hM hS => ?_)
    obtain ⟨rfl, hw⟩ := hp
    refine lv_istore_n (lv' := [(3, .int r16), (0, .ref (ad bs o)), (1, .int a1), (2, .int v2)]) hx hb dX12_tracks_187 rfl hl (by decide) rfl (fun ls hl => ?_)
    refine lv_iconst (v := 0) hx hb dX12_tracks_188 (by decide) ?_
    refine lv_istore (lv' := [(4, .int 0), (3, .int r16), (0, .ref (ad bs o)), (1, .int a1), (2, .int v2)]) hx hb dX12_tracks_189 hl (by decide) rfl (fun ls hl => ?_)
    exact s_X12_tracks_191 E hr hlk ho (fun I L v2 H locs ls  hw hM hS hl => hw H locs ls  hM hS hl)  hw hM hS (lv_sub hl [2, 3, 4, 1, 0] rfl)
def w_X12_tracks (I : mI) (L : mL) (o : Nat) (a1 : Int32) (post : mI → mL → Prop) : Prop := w_X12_sorts I o a1 (fun I1 => (w_X12_tracks_7 o a1 post (w_X12_tracks_172 o a1 post)) I1 L 0)
set_option maxRecDepth 100000 in
set_option maxHeartbeats 4000000 in
theorem c_X12_tracks {l : Launch} {D : va_G} {cA : Nat → ClassId} {Z : mZ} {bs : Ad} {n : Nat} {K : mK} {R : mR} {I : mI} {L : mL} {o : Nat} {a1 : Int32} {post : mI → mL → Prop} (ho : isX12 K R o) (hw : w_X12_tracks I L o a1 post) : Met l yX12_tracks (.code yX12_tracks cX12_tracks 6 none :: gw) ({ frames := 5, cells := 0, slots := 0, locals := 117 } : Room) (PreM D cA Z bs (n, K, R, I, L) [.ref (ad bs o), .int a1]) (QV D cA bs (fun u => ∃ I' L', u = (n, K, R, I', L') ∧ post I' L')) 0 0 (Ab bs) := by
  refine m_met (by decide) (Nat.le_of_ble_eq_true rfl) (fun p e s m below meth c ls E hr hlk hM hS hl => ?_)
  have E : Ev p s m _ c cX12_tracks 6 RX12 D cA Z bs := E
  have hl : lv_has ls 6 [(0, .ref (ad bs o)), (1, .int a1)] := hl
  have hx := E.1.1
  have hb := E.1.2.1
  generalize hHe : s.heap = H at hM ⊢
  have hS : va_S (Ab bs) s.heap H [] := by rw [← hHe]; exact va_S.rf
  clear hHe
  refine lv_aload_n hx hb dX12_tracks_0 rfl (lv_at hl 0 rfl) ?_
  refine lv_iload_n hx hb dX12_tracks_1 rfl (lv_at hl 1 rfl) ?_
  refine m_cv (m_runV E hM hS cs_X12_400 ho.1 (by decide) rfl rfl (c_X12_sorts ho hw) rfl rfl ⟨Nat.le_of_ble_eq_true rfl, Nat.le_of_ble_eq_true rfl⟩ rfl hl.1 rfl (Nat.le_of_ble_eq_true rfl) dX12_tracks_2 ⟨Nat.le_of_ble_eq_true rfl, Nat.le_of_ble_eq_true rfl⟩) hS (fun u H locs hp hM hS => ?_)
  obtain ⟨I1, rfl, hw⟩ := hp
  refine lv_iconst (v := 0) hx hb dX12_tracks_5 (by decide) ?_
  refine lv_istore_n (lv' := [(2, .int 0), (0, .ref (ad bs o)), (1, .int a1)]) hx hb dX12_tracks_6 rfl hl (by decide) rfl (fun ls hl => ?_)
  exact s_X12_tracks_7 E hr hlk ho (fun I L v2 H locs ls  hw hM hS hl => s_X12_tracks_172 E hr hlk ho  hw hM hS hl)  hw hM hS (lv_sub hl [1, 2, 0] rfl)
theorem dX12_track_0 : decode cX12_track 0 = .ok (.aload_n 0, 1) := by decide +kernel
theorem dX12_track_1 : decode cX12_track 1 = .ok (.iload_n 1, 1) := by decide +kernel
theorem dX12_track_2 : decode cX12_track 2 = .ok (.iload_n 2, 1) := by decide +kernel
theorem dX12_track_3 : decode cX12_track 3 = .ok (.invokevirtual 391, 3) := by decide +kernel
theorem dX12_track_6 : decode cX12_track 6 = .ok (.ifCond .eq 11, 3) := by decide +kernel
theorem dX12_track_9 : decode cX12_track 9 = .ok (.aload_n 0, 1) := by decide +kernel
theorem dX12_track_10 : decode cX12_track 10 = .ok (.iload_n 3, 1) := by decide +kernel
theorem dX12_track_11 : decode cX12_track 11 = .ok (.invokevirtual 303, 3) := by decide +kernel
theorem dX12_track_14 : decode cX12_track 14 = .ok (.ifCond .ne 7, 3) := by decide +kernel
theorem dX12_track_17 : decode cX12_track 17 = .ok (.ldc2_w 407, 3) := by decide +kernel
theorem dX12_track_20 : decode cX12_track 20 = .ok (.lreturn, 1) := by decide +kernel
theorem dX12_track_21 : decode cX12_track 21 = .ok (.aload_n 0, 1) := by decide +kernel
theorem dX12_track_22 : decode cX12_track 22 = .ok (.iload_n 3, 1) := by decide +kernel
theorem dX12_track_23 : decode cX12_track 23 = .ok (.invokevirtual 409, 3) := by decide +kernel
theorem dX12_track_26 : decode cX12_track 26 = .ok (.aload_n 0, 1) := by decide +kernel
theorem dX12_track_27 : decode cX12_track 27 = .ok (.getfield 397, 3) := by decide +kernel
theorem dX12_track_30 : decode cX12_track 30 = .ok (.ifCond .ne 5, 3) := by decide +kernel
theorem dX12_track_33 : decode cX12_track 33 = .ok (.lconst 1, 1) := by decide +kernel
theorem dX12_track_34 : decode cX12_track 34 = .ok (.lreturn, 1) := by decide +kernel
theorem dX12_track_35 : decode cX12_track 35 = .ok (.lconst 0, 1) := by decide +kernel
theorem dX12_track_36 : decode cX12_track 36 = .ok (.lstore 4, 2) := by decide +kernel
theorem dX12_track_38 : decode cX12_track 38 = .ok (.iconst 0, 1) := by decide +kernel
theorem dX12_track_39 : decode cX12_track 39 = .ok (.istore 6, 2) := by decide +kernel
theorem dX12_track_41 : decode cX12_track 41 = .ok (.iload 6, 2) := by decide +kernel
theorem dX12_track_43 : decode cX12_track 43 = .ok (.aload_n 0, 1) := by decide +kernel
theorem dX12_track_44 : decode cX12_track 44 = .ok (.iconst 0, 1) := by decide +kernel
theorem dX12_track_45 : decode cX12_track 45 = .ok (.invokevirtual 205, 3) := by decide +kernel
theorem dX12_track_48 : decode cX12_track 48 = .ok (.if_icmp .ge 21, 3) := by decide +kernel
theorem dX12_track_51 : decode cX12_track 51 = .ok (.lload 4, 2) := by decide +kernel
theorem dX12_track_53 : decode cX12_track 53 = .ok (.aload_n 0, 1) := by decide +kernel
theorem dX12_track_54 : decode cX12_track 54 = .ok (.getfield 75, 3) := by decide +kernel
theorem dX12_track_57 : decode cX12_track 57 = .ok (.iload 6, 2) := by decide +kernel
theorem dX12_track_59 : decode cX12_track 59 = .ok (.laload, 1) := by decide +kernel
theorem dX12_track_60 : decode cX12_track 60 = .ok (.ladd, 1) := by decide +kernel
theorem dX12_track_61 : decode cX12_track 61 = .ok (.lstore 4, 2) := by decide +kernel
theorem dX12_track_63 : decode cX12_track 63 = .ok (.iinc 6 1, 3) := by decide +kernel
theorem dX12_track_66 : decode cX12_track 66 = .ok (.goto (-25), 3) := by decide +kernel
theorem dX12_track_69 : decode cX12_track 69 = .ok (.lload 4, 2) := by decide +kernel
theorem dX12_track_71 : decode cX12_track 71 = .ok (.lreturn, 1) := by decide +kernel
def w_X12_track_41 (o : Nat) (a1 : Int32) (a2 : Int32) (a3 : Int32) (post : Int64 → mI → mL → Prop) (I : mI) (L : mL) (v4 : Int64) (v6 : Int32) : Prop := ∀ ZZ : (mI → mL → Int64 → Int32 → Prop), (∀ (I : mI) (L : mL) (v4 : Int64) (v6 : Int32), (w_X12_of I o 0 (fun r7 => (r7 ≤ v6 → post v4 I L) ∧ (¬ r7 ≤ v6 → vp_in v6 240 ∧ ∀ x8, x8 = (v4 + (L (o + 22) v6.toNatClampNeg)) → ∀ x9, x9 = v6 + 1 → ZZ I L x8 x9))) → ZZ I L v4 v6) → ZZ I L v4 v6
set_option maxRecDepth 100000 in
set_option maxHeartbeats 4000000 in
theorem s_X12_track_41 {p : Program} {l : Launch} {e : Env} {s : State} {m : MethodId} {args : Array Value} {below : List Frame} {meth : Method} {c : Code} {D : va_G} {cA : Nat → ClassId} {Z : mZ} {bs : Ad} {n : Nat} {K : mK} {R : mR} (E : Ev p s m args c cX12_track 7 RX12 D cA Z bs) (hr : meth.sig.returnType = (some .long)) (hlk : meth.locks = false) {o : Nat} {a1 : Int32} {a2 : Int32} {a3 : Int32} (ho : isX12 K R o) {post : Int64 → mI → mL → Prop} {I : mI} {L : mL} {v4 : Int64} {v6 : Int32} {H : Heap} {locs : List Loc} {ls : Array Slot} (hw : w_X12_track_41 o a1 a2 a3 post I L v4 v6) (hM : mm D cA bs (n, K, R, I, L) H) (hS : va_S (Ab bs) s.heap H locs) (hl : lv_has ls 7 [(0, .ref (ad bs o)), (4, .long v4), (6, .int v6)]) : W p l e ({ frames := 6, cells := 0, slots := 0, locals := 142 } : Room) s m args below meth c H locs 0 0 (MQ below (QL D cA bs (fun r u => ∃ I' L', u = (n, K, R, I', L') ∧ post r I' L')) args s 0 0 (Ab bs)) (F0 m 41 ls []) := by
  have hx := E.1.1
  have hb := E.1.2.1
  refine hw (fun I L v4 v6 => ∀ (H : Heap) (locs : List Loc) (ls : Array Slot), mm D cA bs (n, K, R, I, L) H → va_S (Ab bs) s.heap H locs → lv_has ls 7 [(0, .ref (ad bs o)), (4, .long v4), (6, .int v6)] → W p l e ({ frames := 6, cells := 0, slots := 0, locals := 142 } : Room) s m args below meth c H locs 0 0 (MQ below (QL D cA bs (fun r u => ∃ I' L', u = (n, K, R, I', L') ∧ post r I' L')) args s 0 0 (Ab bs)) (F0 m 41 ls [])) ?_ H locs ls hM hS hl
  clear hw hM hS hl
  intro I L v4 v6 hw H locs ls hM hS hl
  refine lv_iload hx hb dX12_track_41 (lv_at hl 2 rfl) ?_
  refine lv_aload_n hx hb dX12_track_43 rfl (lv_at hl 0 rfl) ?_
  refine lv_iconst (v := 0) hx hb dX12_track_44 (by decide) ?_
  refine m_ci (m_runV E hM hS cs_X12_205 ho.1 (by decide) rfl rfl (c_X12_of ho hw) rfl rfl ⟨Nat.le_of_ble_eq_true rfl, Nat.le_of_ble_eq_true rfl⟩ rfl hl.1 rfl (Nat.le_of_ble_eq_true rfl) dX12_track_45 ⟨Nat.le_of_ble_eq_true rfl, Nat.le_of_ble_eq_true rfl⟩) hS (fun r7 u H locs hp hM hS => ?_)
  obtain ⟨rfl, hw⟩ := hp
  refine lv_icmp_ge (tgt := 69) hx hb dX12_track_48 (by decide) (fun cq => ?_) (fun cq => ?_)
  · have hw := hw.1 cq
    refine lv_lload hx hb dX12_track_69 (lv_at hl 1 rfl) ?_
    exact m_retl hx hb hr hlk hM hS ⟨_, _, rfl, hw⟩ dX12_track_71
  · have hw := hw.2 cq
    refine lv_lload hx hb dX12_track_51 (lv_at hl 1 rfl) ?_
    refine lv_aload_n hx hb dX12_track_53 rfl (lv_at hl 0 rfl) ?_
    refine m_getr E hM fs_X12_75 ho.1 (isO_at ho 21 rfl).1 dX12_track_54 ?_
    refine lv_iload hx hb dX12_track_57 (lv_at hl 2 rfl) ?_
    obtain ⟨hv, hw⟩ := hw
    refine m_lald E hM (isO_at ho 21 rfl).2 hv dX12_track_59 ?_
    refine lv_ladd hx hb dX12_track_60 ?_
    refine lv_topl (fun x8 ex8 => ?_)
    have hw := hw x8 ex8
    refine lv_lstore (lv' := [(4, .long x8), (0, .ref (ad bs o)), (6, .int v6)]) hx hb dX12_track_61 hl (by decide) rfl (fun ls hl => ?_)
    obtain ⟨x9, ex9⟩ : ∃ y : Int32, y = v6 + 1 := ⟨_, rfl⟩
    have hw := hw x9 ex9
    refine lv_iinc (v := x9) (lv' := [(6, .int x9), (4, .long x8), (0, .ref (ad bs o))]) hx hb dX12_track_63 hl (k := 2) rfl (by rw [ex9]; rfl) (by decide) rfl (fun ls hl => ?_)
    refine lv_goto (tgt := 41) hx hb dX12_track_66 (by decide) ?_
    exact hw H locs ls  hM hS (lv_sub hl [2, 1, 0] rfl)
def w_X12_track (I : mI) (L : mL) (o : Nat) (a1 : Int32) (a2 : Int32) (a3 : Int32) (post : Int64 → mI → mL → Prop) : Prop := w_X12_areRead I o a1 a2 (fun b1 I2 => (b1 = false → post (-1 : Int64) I2 L) ∧ (b1 = true → w_X12_isPerson I2 o a3 (fun b3 => (b3 = true → w_X12_tracks I2 L o a3 (fun I4 L5 => (¬ (I4 o 45) = 0 → ∀ x6, x6 = (0 : Int64) → (w_X12_track_41 o a1 a2 a3 post) I4 L5 x6 0) ∧ ((I4 o 45) = 0 → post (1 : Int64) I4 L5))) ∧ (b3 = false → post (-1 : Int64) I2 L))))
set_option maxRecDepth 100000 in
set_option maxHeartbeats 4000000 in
theorem c_X12_track {l : Launch} {D : va_G} {cA : Nat → ClassId} {Z : mZ} {bs : Ad} {n : Nat} {K : mK} {R : mR} {I : mI} {L : mL} {o : Nat} {a1 : Int32} {a2 : Int32} {a3 : Int32} {post : Int64 → mI → mL → Prop} (ho : isX12 K R o) (hw : w_X12_track I L o a1 a2 a3 post) : Met l yX12_track (.code yX12_track cX12_track 7 (some .long) :: gw) ({ frames := 6, cells := 0, slots := 0, locals := 142 } : Room) (PreM D cA Z bs (n, K, R, I, L) [.ref (ad bs o), .int a1, .int a2, .int a3]) (QL D cA bs (fun r u => ∃ I' L', u = (n, K, R, I', L') ∧ post r I' L')) 0 0 (Ab bs) := by
  refine m_met (by decide) (Nat.le_of_ble_eq_true rfl) (fun p e s m below meth c ls E hr hlk hM hS hl => ?_)
  have E : Ev p s m _ c cX12_track 7 RX12 D cA Z bs := E
  have hl : lv_has ls 7 [(0, .ref (ad bs o)), (1, .int a1), (2, .int a2), (3, .int a3)] := hl
  have hx := E.1.1
  have hb := E.1.2.1
  generalize hHe : s.heap = H at hM ⊢
  have hS : va_S (Ab bs) s.heap H [] := by rw [← hHe]; exact va_S.rf
  clear hHe
  refine lv_aload_n hx hb dX12_track_0 rfl (lv_at hl 0 rfl) ?_
  refine lv_iload_n hx hb dX12_track_1 rfl (lv_at hl 1 rfl) ?_
  refine lv_iload_n hx hb dX12_track_2 rfl (lv_at hl 2 rfl) ?_
  refine m_ci (m_runV E hM hS cs_X12_391 ho.1 (by decide) rfl rfl (c_X12_areRead ho hw) rfl rfl ⟨Nat.le_of_ble_eq_true rfl, Nat.le_of_ble_eq_true rfl⟩ rfl hl.1 rfl (Nat.le_of_ble_eq_true rfl) dX12_track_3 ⟨Nat.le_of_ble_eq_true rfl, Nat.le_of_ble_eq_true rfl⟩) hS (fun r9 u H locs hp hM hS => ?_)
  obtain ⟨b1, rfl, I2, rfl, hw⟩ := hp
  refine lv_if_eq (tgt := 17) hx hb dX12_track_6 (by decide) (fun cq => ?_) (fun cq => ?_)
  · have hw := hw.1 (bI_f cq)
    refine lv_ldc2 (v := (-1)) hx hb E.1.2.2.2.1 (E.1.2.2.2.2 _ (gw_of 1807 (by decide +kernel) (by decide +kernel))) dX12_track_17 ?_
    exact m_retl hx hb hr hlk hM hS ⟨_, _, rfl, hw⟩ dX12_track_20
  · have hw := hw.2 (bI_t cq)
    refine lv_aload_n hx hb dX12_track_9 rfl (lv_at hl 0 rfl) ?_
    refine lv_iload_n hx hb dX12_track_10 rfl (lv_at hl 3 rfl) ?_
    refine m_ci (m_runV E hM hS cs_X12_303 ho.1 (by decide) rfl rfl (c_X12_isPerson ho hw) rfl rfl ⟨Nat.le_of_ble_eq_true rfl, Nat.le_of_ble_eq_true rfl⟩ rfl hl.1 rfl (Nat.le_of_ble_eq_true rfl) dX12_track_11 ⟨Nat.le_of_ble_eq_true rfl, Nat.le_of_ble_eq_true rfl⟩) hS (fun r9 u H locs hp hM hS => ?_)
    obtain ⟨b3, rfl, rfl, hw⟩ := hp
    refine lv_if_ne (tgt := 21) hx hb dX12_track_14 (by decide) (fun cq => ?_) (fun cq => ?_)
    · have hw := hw.1 (bI_t cq)
      refine lv_aload_n hx hb dX12_track_21 rfl (lv_at hl 0 rfl) ?_
      refine lv_iload_n hx hb dX12_track_22 rfl (lv_at hl 3 rfl) ?_
      refine m_cv (m_runV E hM hS cs_X12_409 ho.1 (by decide) rfl rfl (c_X12_tracks ho hw) rfl rfl ⟨Nat.le_of_ble_eq_true rfl, Nat.le_of_ble_eq_true rfl⟩ rfl hl.1 rfl (Nat.le_of_ble_eq_true rfl) dX12_track_23 ⟨Nat.le_of_ble_eq_true rfl, Nat.le_of_ble_eq_true rfl⟩) hS (fun u H locs hp hM hS => ?_)
      obtain ⟨I4, L5, rfl, hw⟩ := hp
      refine lv_aload_n hx hb dX12_track_26 rfl (lv_at hl 0 rfl) ?_
      refine m_geti E hM fs_X12_397 ho.1 dX12_track_27 ?_
      refine lv_if_ne (tgt := 35) hx hb dX12_track_30 (by decide) (fun cq => ?_) (fun cq => ?_)
      · have hw := hw.1 cq
        refine lv_lconst (v := 0) hx hb dX12_track_35 (by decide) ?_
        refine lv_topl (fun x6 ex6 => ?_)
        have hw := hw x6 ex6
        refine lv_lstore (lv' := [(4, .long x6), (0, .ref (ad bs o)), (1, .int a1), (2, .int a2), (3, .int a3)]) hx hb dX12_track_36 hl (by decide) rfl (fun ls hl => ?_)
        refine lv_iconst (v := 0) hx hb dX12_track_38 (by decide) ?_
        refine lv_istore (lv' := [(6, .int 0), (4, .long x6), (0, .ref (ad bs o)), (1, .int a1), (2, .int a2), (3, .int a3)]) hx hb dX12_track_39 hl (by decide) rfl (fun ls hl => ?_)
        exact s_X12_track_41 E hr hlk ho  hw hM hS (lv_sub hl [2, 1, 0] rfl)
      · have hw := hw.2 cq
        refine lv_lconst (v := 1) hx hb dX12_track_33 (by decide) ?_
        exact m_retl hx hb hr hlk hM hS ⟨_, _, rfl, hw⟩ dX12_track_34
    · have hw := hw.2 (bI_f cq)
      refine lv_ldc2 (v := (-1)) hx hb E.1.2.2.2.1 (E.1.2.2.2.2 _ (gw_of 1807 (by decide +kernel) (by decide +kernel))) dX12_track_17 ?_
      exact m_retl hx hb hr hlk hM hS ⟨_, _, rfl, hw⟩ dX12_track_20
theorem dX12_spotsOf_0 : decode cX12_spotsOf 0 = .ok (.iconst 0, 1) := by decide +kernel
theorem dX12_spotsOf_1 : decode cX12_spotsOf 1 = .ok (.istore_n 2, 1) := by decide +kernel
theorem dX12_spotsOf_2 : decode cX12_spotsOf 2 = .ok (.iconst 0, 1) := by decide +kernel
theorem dX12_spotsOf_3 : decode cX12_spotsOf 3 = .ok (.istore_n 3, 1) := by decide +kernel
theorem dX12_spotsOf_4 : decode cX12_spotsOf 4 = .ok (.iload_n 3, 1) := by decide +kernel
theorem dX12_spotsOf_5 : decode cX12_spotsOf 5 = .ok (.aload_n 0, 1) := by decide +kernel
theorem dX12_spotsOf_6 : decode cX12_spotsOf 6 = .ok (.iconst 0, 1) := by decide +kernel
theorem dX12_spotsOf_7 : decode cX12_spotsOf 7 = .ok (.invokevirtual 205, 3) := by decide +kernel
theorem dX12_spotsOf_10 : decode cX12_spotsOf 10 = .ok (.if_icmp .ge 51, 3) := by decide +kernel
theorem dX12_spotsOf_13 : decode cX12_spotsOf 13 = .ok (.iload_n 2, 1) := by decide +kernel
theorem dX12_spotsOf_14 : decode cX12_spotsOf 14 = .ok (.aload_n 0, 1) := by decide +kernel
theorem dX12_spotsOf_15 : decode cX12_spotsOf 15 = .ok (.getfield 71, 3) := by decide +kernel
theorem dX12_spotsOf_18 : decode cX12_spotsOf 18 = .ok (.bipush 24, 2) := by decide +kernel
theorem dX12_spotsOf_20 : decode cX12_spotsOf 20 = .ok (.iload_n 1, 1) := by decide +kernel
theorem dX12_spotsOf_21 : decode cX12_spotsOf 21 = .ok (.imul, 1) := by decide +kernel
theorem dX12_spotsOf_22 : decode cX12_spotsOf 22 = .ok (.iload_n 3, 1) := by decide +kernel
theorem dX12_spotsOf_23 : decode cX12_spotsOf 23 = .ok (.iadd, 1) := by decide +kernel
theorem dX12_spotsOf_24 : decode cX12_spotsOf 24 = .ok (.laload, 1) := by decide +kernel
theorem dX12_spotsOf_25 : decode cX12_spotsOf 25 = .ok (.lconst 0, 1) := by decide +kernel
theorem dX12_spotsOf_26 : decode cX12_spotsOf 26 = .ok (.lcmp, 1) := by decide +kernel
theorem dX12_spotsOf_27 : decode cX12_spotsOf 27 = .ok (.ifCond .le 25, 3) := by decide +kernel
theorem dX12_spotsOf_30 : decode cX12_spotsOf 30 = .ok (.aload_n 0, 1) := by decide +kernel
theorem dX12_spotsOf_31 : decode cX12_spotsOf 31 = .ok (.getfield 75, 3) := by decide +kernel
theorem dX12_spotsOf_34 : decode cX12_spotsOf 34 = .ok (.bipush 24, 2) := by decide +kernel
theorem dX12_spotsOf_36 : decode cX12_spotsOf 36 = .ok (.iload_n 1, 1) := by decide +kernel
theorem dX12_spotsOf_37 : decode cX12_spotsOf 37 = .ok (.imul, 1) := by decide +kernel
theorem dX12_spotsOf_38 : decode cX12_spotsOf 38 = .ok (.iload_n 3, 1) := by decide +kernel
theorem dX12_spotsOf_39 : decode cX12_spotsOf 39 = .ok (.iadd, 1) := by decide +kernel
theorem dX12_spotsOf_40 : decode cX12_spotsOf 40 = .ok (.laload, 1) := by decide +kernel
theorem dX12_spotsOf_41 : decode cX12_spotsOf 41 = .ok (.lconst 0, 1) := by decide +kernel
theorem dX12_spotsOf_42 : decode cX12_spotsOf 42 = .ok (.lcmp, 1) := by decide +kernel
theorem dX12_spotsOf_43 : decode cX12_spotsOf 43 = .ok (.ifCond .le 9, 3) := by decide +kernel
theorem dX12_spotsOf_46 : decode cX12_spotsOf 46 = .ok (.iconst 1, 1) := by decide +kernel
theorem dX12_spotsOf_47 : decode cX12_spotsOf 47 = .ok (.iload_n 3, 1) := by decide +kernel
theorem dX12_spotsOf_48 : decode cX12_spotsOf 48 = .ok (.ishl, 1) := by decide +kernel
theorem dX12_spotsOf_49 : decode cX12_spotsOf 49 = .ok (.goto 4, 3) := by decide +kernel
theorem dX12_spotsOf_52 : decode cX12_spotsOf 52 = .ok (.iconst 0, 1) := by decide +kernel
theorem dX12_spotsOf_53 : decode cX12_spotsOf 53 = .ok (.ior, 1) := by decide +kernel
theorem dX12_spotsOf_54 : decode cX12_spotsOf 54 = .ok (.istore_n 2, 1) := by decide +kernel
theorem dX12_spotsOf_55 : decode cX12_spotsOf 55 = .ok (.iinc 3 1, 3) := by decide +kernel
theorem dX12_spotsOf_58 : decode cX12_spotsOf 58 = .ok (.goto (-54), 3) := by decide +kernel
theorem dX12_spotsOf_61 : decode cX12_spotsOf 61 = .ok (.iload_n 2, 1) := by decide +kernel
theorem dX12_spotsOf_62 : decode cX12_spotsOf 62 = .ok (.ireturn, 1) := by decide +kernel
def w_X12_spotsOf_4 (I : mI) (L : mL) (o : Nat) (a1 : Int32) (post : Int32 → Prop) (v2 : Int32) (v3 : Int32) : Prop := ∀ ZZ : (Int32 → Int32 → Prop), (∀ (v2 : Int32) (v3 : Int32), (w_X12_of I o 0 (fun r1 => (r1 ≤ v3 → post v2) ∧ (¬ r1 ≤ v3 → vp_in ((24 * a1) + v3) 240 ∧ ((lg_cmp (L (o + 21) ((24 * a1) + v3).toNatClampNeg) (0 : Int64)) ≤ 0 → ∀ x2, x2 = (v2 ||| 0) → ∀ x3, x3 = v3 + 1 → ZZ x2 x3) ∧ (¬ (lg_cmp (L (o + 21) ((24 * a1) + v3).toNatClampNeg) (0 : Int64)) ≤ 0 → vp_in ((24 * a1) + v3) 240 ∧ ((lg_cmp (L (o + 22) ((24 * a1) + v3).toNatClampNeg) (0 : Int64)) ≤ 0 → ∀ x4, x4 = (v2 ||| 0) → ∀ x5, x5 = v3 + 1 → ZZ x4 x5) ∧ (¬ (lg_cmp (L (o + 22) ((24 * a1) + v3).toNatClampNeg) (0 : Int64)) ≤ 0 → ∀ x6, x6 = (v2 ||| (1 <<< (v3 &&& 31))) → ∀ x7, x7 = v3 + 1 → ZZ x6 x7))))) → ZZ v2 v3) → ZZ v2 v3
set_option maxRecDepth 100000 in
set_option maxHeartbeats 4000000 in
theorem s_X12_spotsOf_4 {p : Program} {l : Launch} {e : Env} {s : State} {m : MethodId} {args : Array Value} {below : List Frame} {meth : Method} {c : Code} {D : va_G} {cA : Nat → ClassId} {Z : mZ} {bs : Ad} {n : Nat} {K : mK} {R : mR} {I : mI} {L : mL} (E : Ev p s m args c cX12_spotsOf 4 RX12 D cA Z bs) (hr : meth.sig.returnType = (some .int)) (hlk : meth.locks = false) {o : Nat} {a1 : Int32} (ho : isX12 K R o) {post : Int32 → Prop} {v2 : Int32} {v3 : Int32} {H : Heap} {locs : List Loc} {ls : Array Slot} (hw : w_X12_spotsOf_4 I L o a1 post v2 v3) (hM : mm D cA bs (n, K, R, I, L) H) (hS : va_S (Ab bs) s.heap H locs) (hl : lv_has ls 4 [(0, .ref (ad bs o)), (1, .int a1), (2, .int v2), (3, .int v3)]) : W p l e ({ frames := 1, cells := 0, slots := 0, locals := 21 } : Room) s m args below meth c H locs 0 0 (MQ below (QI D cA bs (fun r u => u = (n, K, R, I, L) ∧ post r)) args s 0 0 (Ab bs)) (F0 m 4 ls []) := by
  have hx := E.1.1
  have hb := E.1.2.1
  refine hw (fun v2 v3 => ∀ (H : Heap) (locs : List Loc) (ls : Array Slot), mm D cA bs (n, K, R, I, L) H → va_S (Ab bs) s.heap H locs → lv_has ls 4 [(0, .ref (ad bs o)), (1, .int a1), (2, .int v2), (3, .int v3)] → W p l e ({ frames := 1, cells := 0, slots := 0, locals := 21 } : Room) s m args below meth c H locs 0 0 (MQ below (QI D cA bs (fun r u => u = (n, K, R, I, L) ∧ post r)) args s 0 0 (Ab bs)) (F0 m 4 ls [])) ?_ H locs ls hM hS hl
  clear hw hM hS hl
  intro v2 v3 hw H locs ls hM hS hl
  refine lv_iload_n hx hb dX12_spotsOf_4 rfl (lv_at hl 3 rfl) ?_
  refine lv_aload_n hx hb dX12_spotsOf_5 rfl (lv_at hl 0 rfl) ?_
  refine lv_iconst (v := 0) hx hb dX12_spotsOf_6 (by decide) ?_
  refine m_ci (m_runV E hM hS cs_X12_205 ho.1 (by decide) rfl rfl (c_X12_of ho hw) rfl rfl ⟨Nat.le_of_ble_eq_true rfl, Nat.le_of_ble_eq_true rfl⟩ rfl hl.1 rfl (Nat.le_of_ble_eq_true rfl) dX12_spotsOf_7 ⟨Nat.le_of_ble_eq_true rfl, Nat.le_of_ble_eq_true rfl⟩) hS (fun r1 u H locs hp hM hS => ?_)
  obtain ⟨rfl, hw⟩ := hp
  refine lv_icmp_ge (tgt := 61) hx hb dX12_spotsOf_10 (by decide) (fun cq => ?_) (fun cq => ?_)
  · have hw := hw.1 cq
    refine lv_iload_n hx hb dX12_spotsOf_61 rfl (lv_at hl 2 rfl) ?_
    exact m_reti hx hb hr hlk hM hS ⟨rfl, hw⟩ dX12_spotsOf_62
  · have hw := hw.2 cq
    refine lv_iload_n hx hb dX12_spotsOf_13 rfl (lv_at hl 2 rfl) ?_
    refine lv_aload_n hx hb dX12_spotsOf_14 rfl (lv_at hl 0 rfl) ?_
    refine m_getr E hM fs_X12_71 ho.1 (isO_at ho 20 rfl).1 dX12_spotsOf_15 ?_
    refine lv_bipush (v := 24) hx hb dX12_spotsOf_18 (by decide) ?_
    refine lv_iload_n hx hb dX12_spotsOf_20 rfl (lv_at hl 1 rfl) ?_
    refine lv_imul hx hb dX12_spotsOf_21 ?_
    refine lv_iload_n hx hb dX12_spotsOf_22 rfl (lv_at hl 3 rfl) ?_
    refine lv_iadd hx hb dX12_spotsOf_23 ?_
    obtain ⟨hv, hw⟩ := hw
    refine m_lald E hM (isO_at ho 20 rfl).2 hv dX12_spotsOf_24 ?_
    refine lv_lconst (v := 0) hx hb dX12_spotsOf_25 (by decide) ?_
    refine W.lcmp hx hb dX12_spotsOf_26 ?_
    refine lv_if_le (tgt := 52) hx hb dX12_spotsOf_27 (by decide) (fun cq => ?_) (fun cq => ?_)
    · have hw := hw.1 cq
      refine lv_iconst (v := 0) hx hb dX12_spotsOf_52 (by decide) ?_
      refine lv_ior hx hb dX12_spotsOf_53 ?_
      refine lv_topi (fun x2 ex2 => ?_)
      have hw := hw x2 ex2
      refine lv_istore_n (lv' := [(2, .int x2), (0, .ref (ad bs o)), (1, .int a1), (3, .int v3)]) hx hb dX12_spotsOf_54 rfl hl (by decide) rfl (fun ls hl => ?_)
      obtain ⟨x3, ex3⟩ : ∃ y : Int32, y = v3 + 1 := ⟨_, rfl⟩
      have hw := hw x3 ex3
      refine lv_iinc (v := x3) (lv' := [(3, .int x3), (2, .int x2), (0, .ref (ad bs o)), (1, .int a1)]) hx hb dX12_spotsOf_55 hl (k := 3) rfl (by rw [ex3]; rfl) (by decide) rfl (fun ls hl => ?_)
      refine lv_goto (tgt := 4) hx hb dX12_spotsOf_58 (by decide) ?_
      exact hw H locs ls  hM hS (lv_sub hl [2, 3, 1, 0] rfl)
    · have hw := hw.2 cq
      refine lv_aload_n hx hb dX12_spotsOf_30 rfl (lv_at hl 0 rfl) ?_
      refine m_getr E hM fs_X12_75 ho.1 (isO_at ho 21 rfl).1 dX12_spotsOf_31 ?_
      refine lv_bipush (v := 24) hx hb dX12_spotsOf_34 (by decide) ?_
      refine lv_iload_n hx hb dX12_spotsOf_36 rfl (lv_at hl 1 rfl) ?_
      refine lv_imul hx hb dX12_spotsOf_37 ?_
      refine lv_iload_n hx hb dX12_spotsOf_38 rfl (lv_at hl 3 rfl) ?_
      refine lv_iadd hx hb dX12_spotsOf_39 ?_
      obtain ⟨hv, hw⟩ := hw
      refine m_lald E hM (isO_at ho 21 rfl).2 hv dX12_spotsOf_40 ?_
      refine lv_lconst (v := 0) hx hb dX12_spotsOf_41 (by decide) ?_
      refine W.lcmp hx hb dX12_spotsOf_42 ?_
      refine lv_if_le (tgt := 52) hx hb dX12_spotsOf_43 (by decide) (fun cq => ?_) (fun cq => ?_)
      · have hw := hw.1 cq
        refine lv_iconst (v := 0) hx hb dX12_spotsOf_52 (by decide) ?_
        refine lv_ior hx hb dX12_spotsOf_53 ?_
        refine lv_topi (fun x4 ex4 => ?_)
        have hw := hw x4 ex4
        refine lv_istore_n (lv' := [(2, .int x4), (0, .ref (ad bs o)), (1, .int a1), (3, .int v3)]) hx hb dX12_spotsOf_54 rfl hl (by decide) rfl (fun ls hl => ?_)
        obtain ⟨x5, ex5⟩ : ∃ y : Int32, y = v3 + 1 := ⟨_, rfl⟩
        have hw := hw x5 ex5
        refine lv_iinc (v := x5) (lv' := [(3, .int x5), (2, .int x4), (0, .ref (ad bs o)), (1, .int a1)]) hx hb dX12_spotsOf_55 hl (k := 3) rfl (by rw [ex5]; rfl) (by decide) rfl (fun ls hl => ?_)
        refine lv_goto (tgt := 4) hx hb dX12_spotsOf_58 (by decide) ?_
        exact hw H locs ls  hM hS (lv_sub hl [2, 3, 1, 0] rfl)
      · have hw := hw.2 cq
        refine lv_iconst (v := 1) hx hb dX12_spotsOf_46 (by decide) ?_
        refine lv_iload_n hx hb dX12_spotsOf_47 rfl (lv_at hl 3 rfl) ?_
        refine lv_ishl hx hb dX12_spotsOf_48 ?_
        refine lv_goto (tgt := 53) hx hb dX12_spotsOf_49 (by decide) ?_
        refine lv_ior hx hb dX12_spotsOf_53 ?_
        refine lv_topi (fun x6 ex6 => ?_)
        have hw := hw x6 ex6
        refine lv_istore_n (lv' := [(2, .int x6), (0, .ref (ad bs o)), (1, .int a1), (3, .int v3)]) hx hb dX12_spotsOf_54 rfl hl (by decide) rfl (fun ls hl => ?_)
        obtain ⟨x7, ex7⟩ : ∃ y : Int32, y = v3 + 1 := ⟨_, rfl⟩
        have hw := hw x7 ex7
        refine lv_iinc (v := x7) (lv' := [(3, .int x7), (2, .int x6), (0, .ref (ad bs o)), (1, .int a1)]) hx hb dX12_spotsOf_55 hl (k := 3) rfl (by rw [ex7]; rfl) (by decide) rfl (fun ls hl => ?_)
        refine lv_goto (tgt := 4) hx hb dX12_spotsOf_58 (by decide) ?_
        exact hw H locs ls  hM hS (lv_sub hl [2, 3, 1, 0] rfl)
def w_X12_spotsOf (I : mI) (L : mL) (o : Nat) (a1 : Int32) (post : Int32 → Prop) : Prop := (w_X12_spotsOf_4 I L o a1 post) 0 0
set_option maxRecDepth 100000 in
set_option maxHeartbeats 4000000 in
theorem c_X12_spotsOf {l : Launch} {D : va_G} {cA : Nat → ClassId} {Z : mZ} {bs : Ad} {n : Nat} {K : mK} {R : mR} {I : mI} {L : mL} {o : Nat} {a1 : Int32} {post : Int32 → Prop} (ho : isX12 K R o) (hw : w_X12_spotsOf I L o a1 post) : Met l yX12_spotsOf (.code yX12_spotsOf cX12_spotsOf 4 (some .int) :: gw) ({ frames := 1, cells := 0, slots := 0, locals := 21 } : Room) (PreM D cA Z bs (n, K, R, I, L) [.ref (ad bs o), .int a1]) (QI D cA bs (fun r u => u = (n, K, R, I, L) ∧ post r)) 0 0 (Ab bs) := by
  refine m_met (by decide) (Nat.le_of_ble_eq_true rfl) (fun p e s m below meth c ls E hr hlk hM hS hl => ?_)
  have E : Ev p s m _ c cX12_spotsOf 4 RX12 D cA Z bs := E
  have hl : lv_has ls 4 [(0, .ref (ad bs o)), (1, .int a1)] := hl
  have hx := E.1.1
  have hb := E.1.2.1
  generalize hHe : s.heap = H at hM ⊢
  have hS : va_S (Ab bs) s.heap H [] := by rw [← hHe]; exact va_S.rf
  clear hHe
  refine lv_iconst (v := 0) hx hb dX12_spotsOf_0 (by decide) ?_
  refine lv_istore_n (lv' := [(2, .int 0), (0, .ref (ad bs o)), (1, .int a1)]) hx hb dX12_spotsOf_1 rfl hl (by decide) rfl (fun ls hl => ?_)
  refine lv_iconst (v := 0) hx hb dX12_spotsOf_2 (by decide) ?_
  refine lv_istore_n (lv' := [(3, .int 0), (2, .int 0), (0, .ref (ad bs o)), (1, .int a1)]) hx hb dX12_spotsOf_3 rfl hl (by decide) rfl (fun ls hl => ?_)
  exact s_X12_spotsOf_4 E hr hlk ho  hw hM hS (lv_sub hl [2, 3, 1, 0] rfl)
theorem dX12_spots_0 : decode cX12_spots 0 = .ok (.aload_n 0, 1) := by decide +kernel
theorem dX12_spots_1 : decode cX12_spots 1 = .ok (.iload_n 1, 1) := by decide +kernel
theorem dX12_spots_2 : decode cX12_spots 2 = .ok (.iload_n 2, 1) := by decide +kernel
theorem dX12_spots_3 : decode cX12_spots 3 = .ok (.invokevirtual 391, 3) := by decide +kernel
theorem dX12_spots_6 : decode cX12_spots 6 = .ok (.ifCond .eq 26, 3) := by decide +kernel
theorem dX12_spots_9 : decode cX12_spots 9 = .ok (.aload_n 0, 1) := by decide +kernel
theorem dX12_spots_10 : decode cX12_spots 10 = .ok (.iload_n 3, 1) := by decide +kernel
theorem dX12_spots_11 : decode cX12_spots 11 = .ok (.invokevirtual 303, 3) := by decide +kernel
theorem dX12_spots_14 : decode cX12_spots 14 = .ok (.ifCond .eq 18, 3) := by decide +kernel
theorem dX12_spots_17 : decode cX12_spots 17 = .ok (.iload 4, 2) := by decide +kernel
theorem dX12_spots_19 : decode cX12_spots 19 = .ok (.iconst (-1), 1) := by decide +kernel
theorem dX12_spots_20 : decode cX12_spots 20 = .ok (.aload_n 0, 1) := by decide +kernel
theorem dX12_spots_21 : decode cX12_spots 21 = .ok (.invokevirtual 376, 3) := by decide +kernel
theorem dX12_spots_24 : decode cX12_spots 24 = .ok (.iconst 1, 1) := by decide +kernel
theorem dX12_spots_25 : decode cX12_spots 25 = .ok (.isub, 1) := by decide +kernel
theorem dX12_spots_26 : decode cX12_spots 26 = .ok (.invokestatic 133, 3) := by decide +kernel
theorem dX12_spots_29 : decode cX12_spots 29 = .ok (.ifCond .ne 6, 3) := by decide +kernel
theorem dX12_spots_32 : decode cX12_spots 32 = .ok (.bipush (-2), 2) := by decide +kernel
theorem dX12_spots_34 : decode cX12_spots 34 = .ok (.ireturn, 1) := by decide +kernel
theorem dX12_spots_35 : decode cX12_spots 35 = .ok (.aload_n 0, 1) := by decide +kernel
theorem dX12_spots_36 : decode cX12_spots 36 = .ok (.iload_n 3, 1) := by decide +kernel
theorem dX12_spots_37 : decode cX12_spots 37 = .ok (.invokevirtual 409, 3) := by decide +kernel
theorem dX12_spots_40 : decode cX12_spots 40 = .ok (.iconst 0, 1) := by decide +kernel
theorem dX12_spots_41 : decode cX12_spots 41 = .ok (.istore 5, 2) := by decide +kernel
theorem dX12_spots_43 : decode cX12_spots 43 = .ok (.iconst 0, 1) := by decide +kernel
theorem dX12_spots_44 : decode cX12_spots 44 = .ok (.istore 6, 2) := by decide +kernel
theorem dX12_spots_46 : decode cX12_spots 46 = .ok (.iload 6, 2) := by decide +kernel
theorem dX12_spots_48 : decode cX12_spots 48 = .ok (.aload_n 0, 1) := by decide +kernel
theorem dX12_spots_49 : decode cX12_spots 49 = .ok (.getfield 397, 3) := by decide +kernel
theorem dX12_spots_52 : decode cX12_spots 52 = .ok (.if_icmp .ge 51, 3) := by decide +kernel
theorem dX12_spots_55 : decode cX12_spots 55 = .ok (.aload_n 0, 1) := by decide +kernel
theorem dX12_spots_56 : decode cX12_spots 56 = .ok (.getfield 68, 3) := by decide +kernel
theorem dX12_spots_59 : decode cX12_spots 59 = .ok (.iload 6, 2) := by decide +kernel
theorem dX12_spots_61 : decode cX12_spots 61 = .ok (.iaload, 1) := by decide +kernel
theorem dX12_spots_62 : decode cX12_spots 62 = .ok (.iload 4, 2) := by decide +kernel
theorem dX12_spots_64 : decode cX12_spots 64 = .ok (.if_icmp .ne 10, 3) := by decide +kernel
theorem dX12_spots_67 : decode cX12_spots 67 = .ok (.aload_n 0, 1) := by decide +kernel
theorem dX12_spots_68 : decode cX12_spots 68 = .ok (.iload 6, 2) := by decide +kernel
theorem dX12_spots_70 : decode cX12_spots 70 = .ok (.invokevirtual 412, 3) := by decide +kernel
theorem dX12_spots_73 : decode cX12_spots 73 = .ok (.ireturn, 1) := by decide +kernel
theorem dX12_spots_74 : decode cX12_spots 74 = .ok (.iload 5, 2) := by decide +kernel
theorem dX12_spots_76 : decode cX12_spots 76 = .ok (.aload_n 0, 1) := by decide +kernel
theorem dX12_spots_77 : decode cX12_spots 77 = .ok (.iload 6, 2) := by decide +kernel
theorem dX12_spots_79 : decode cX12_spots 79 = .ok (.invokevirtual 412, 3) := by decide +kernel
theorem dX12_spots_82 : decode cX12_spots 82 = .ok (.invokestatic 415, 3) := by decide +kernel
theorem dX12_spots_85 : decode cX12_spots 85 = .ok (.iconst 1, 1) := by decide +kernel
theorem dX12_spots_86 : decode cX12_spots 86 = .ok (.if_icmp .ne 7, 3) := by decide +kernel
theorem dX12_spots_89 : decode cX12_spots 89 = .ok (.iconst 1, 1) := by decide +kernel
theorem dX12_spots_90 : decode cX12_spots 90 = .ok (.goto 4, 3) := by decide +kernel
theorem dX12_spots_93 : decode cX12_spots 93 = .ok (.iconst 0, 1) := by decide +kernel
theorem dX12_spots_94 : decode cX12_spots 94 = .ok (.iadd, 1) := by decide +kernel
theorem dX12_spots_95 : decode cX12_spots 95 = .ok (.istore 5, 2) := by decide +kernel
theorem dX12_spots_97 : decode cX12_spots 97 = .ok (.iinc 6 1, 3) := by decide +kernel
theorem dX12_spots_100 : decode cX12_spots 100 = .ok (.goto (-54), 3) := by decide +kernel
theorem dX12_spots_103 : decode cX12_spots 103 = .ok (.iload 4, 2) := by decide +kernel
theorem dX12_spots_105 : decode cX12_spots 105 = .ok (.iconst (-1), 1) := by decide +kernel
theorem dX12_spots_106 : decode cX12_spots 106 = .ok (.if_icmp .ne 8, 3) := by decide +kernel
theorem dX12_spots_109 : decode cX12_spots 109 = .ok (.iload 5, 2) := by decide +kernel
theorem dX12_spots_111 : decode cX12_spots 111 = .ok (.goto 4, 3) := by decide +kernel
theorem dX12_spots_114 : decode cX12_spots 114 = .ok (.iconst 0, 1) := by decide +kernel
theorem dX12_spots_115 : decode cX12_spots 115 = .ok (.ireturn, 1) := by decide +kernel
def w_X12_spots_46 (o : Nat) (a1 : Int32) (a2 : Int32) (a3 : Int32) (a4 : Int32) (post : Int32 → mI → mL → Prop) (k67 : mI → mL → Int32 → Prop) (k103 : mI → mL → Int32 → Prop) (I : mI) (L : mL) (v5 : Int32) (v6 : Int32) : Prop := ∀ ZZ : (mI → mL → Int32 → Int32 → Prop), (∀ (I : mI) (L : mL) (v5 : Int32) (v6 : Int32), (((I o 45) ≤ v6 → k103 I L v5) ∧ (¬ (I o 45) ≤ v6 → vp_in v6 10 ∧ (¬ (I (o + 20) v6.toNatClampNeg) = a4 → w_X12_spotsOf I L o v6 (fun r8 => w_X12_bits r8 (fun r9 => (¬ r9 = 1 → ∀ x10, x10 = (v5 + 0) → ∀ x11, x11 = v6 + 1 → ZZ I L x10 x11) ∧ (r9 = 1 → ∀ x12, x12 = (v5 + 1) → ∀ x13, x13 = v6 + 1 → ZZ I L x12 x13)))) ∧ ((I (o + 20) v6.toNatClampNeg) = a4 → k67 I L v6))) → ZZ I L v5 v6) → ZZ I L v5 v6
set_option maxRecDepth 100000 in
set_option maxHeartbeats 4000000 in
theorem s_X12_spots_46 {p : Program} {l : Launch} {e : Env} {s : State} {m : MethodId} {args : Array Value} {below : List Frame} {meth : Method} {c : Code} {D : va_G} {cA : Nat → ClassId} {Z : mZ} {bs : Ad} {n : Nat} {K : mK} {R : mR} (E : Ev p s m args c cX12_spots 7 RX12 D cA Z bs) (hr : meth.sig.returnType = (some .int)) (hlk : meth.locks = false) {o : Nat} {a1 : Int32} {a2 : Int32} {a3 : Int32} {a4 : Int32} (ho : isX12 K R o) {post : Int32 → mI → mL → Prop} {k67 : mI → mL → Int32 → Prop} {k103 : mI → mL → Int32 → Prop} (hk67 : ∀ (I : mI) (L : mL) (v6 : Int32) (H : Heap) (locs : List Loc) (ls : Array Slot), k67 I L v6 → mm D cA bs (n, K, R, I, L) H → va_S (Ab bs) s.heap H locs → lv_has ls 7 [(0, .ref (ad bs o)), (6, .int v6)] → W p l e ({ frames := 6, cells := 0, slots := 0, locals := 142 } : Room) s m args below meth c H locs 0 0 (MQ below (QI D cA bs (fun r u => ∃ I' L', u = (n, K, R, I', L') ∧ post r I' L')) args s 0 0 (Ab bs)) (F0 m 67 ls [])) (hk103 : ∀ (I : mI) (L : mL) (v5 : Int32) (H : Heap) (locs : List Loc) (ls : Array Slot), k103 I L v5 → mm D cA bs (n, K, R, I, L) H → va_S (Ab bs) s.heap H locs → lv_has ls 7 [(4, .int a4), (5, .int v5)] → W p l e ({ frames := 6, cells := 0, slots := 0, locals := 142 } : Room) s m args below meth c H locs 0 0 (MQ below (QI D cA bs (fun r u => ∃ I' L', u = (n, K, R, I', L') ∧ post r I' L')) args s 0 0 (Ab bs)) (F0 m 103 ls [])) {I : mI} {L : mL} {v5 : Int32} {v6 : Int32} {H : Heap} {locs : List Loc} {ls : Array Slot} (hw : w_X12_spots_46 o a1 a2 a3 a4 post k67 k103 I L v5 v6) (hM : mm D cA bs (n, K, R, I, L) H) (hS : va_S (Ab bs) s.heap H locs) (hl : lv_has ls 7 [(0, .ref (ad bs o)), (4, .int a4), (5, .int v5), (6, .int v6)]) : W p l e ({ frames := 6, cells := 0, slots := 0, locals := 142 } : Room) s m args below meth c H locs 0 0 (MQ below (QI D cA bs (fun r u => ∃ I' L', u = (n, K, R, I', L') ∧ post r I' L')) args s 0 0 (Ab bs)) (F0 m 46 ls []) := by
  have hx := E.1.1
  have hb := E.1.2.1
  refine hw (fun I L v5 v6 => ∀ (H : Heap) (locs : List Loc) (ls : Array Slot), mm D cA bs (n, K, R, I, L) H → va_S (Ab bs) s.heap H locs → lv_has ls 7 [(0, .ref (ad bs o)), (4, .int a4), (5, .int v5), (6, .int v6)] → W p l e ({ frames := 6, cells := 0, slots := 0, locals := 142 } : Room) s m args below meth c H locs 0 0 (MQ below (QI D cA bs (fun r u => ∃ I' L', u = (n, K, R, I', L') ∧ post r I' L')) args s 0 0 (Ab bs)) (F0 m 46 ls [])) ?_ H locs ls hM hS hl
  clear hw hM hS hl
  intro I L v5 v6 hw H locs ls hM hS hl
  refine lv_iload hx hb dX12_spots_46 (lv_at hl 3 rfl) ?_
  refine lv_aload_n hx hb dX12_spots_48 rfl (lv_at hl 0 rfl) ?_
  refine m_geti E hM fs_X12_397 ho.1 dX12_spots_49 ?_
  refine lv_icmp_ge (tgt := 103) hx hb dX12_spots_52 (by decide) (fun cq => ?_) (fun cq => ?_)
  · have hw := hw.1 cq
    exact hk103 _ _ _ H locs ls  hw hM hS (lv_sub hl [1, 2] rfl)
  · have hw := hw.2 cq
    refine lv_aload_n hx hb dX12_spots_55 rfl (lv_at hl 0 rfl) ?_
    refine m_getr E hM fs_X12_68 ho.1 (isO_at ho 19 rfl).1 dX12_spots_56 ?_
    refine lv_iload hx hb dX12_spots_59 (lv_at hl 3 rfl) ?_
    obtain ⟨hv, hw⟩ := hw
    refine m_iald E hM (isO_at ho 19 rfl).2 hv dX12_spots_61 ?_
    refine lv_iload hx hb dX12_spots_62 (lv_at hl 1 rfl) ?_
    refine lv_icmp_ne (tgt := 74) hx hb dX12_spots_64 (by decide) (fun cq => ?_) (fun cq => ?_)
    · have hw := hw.1 cq
      refine lv_iload hx hb dX12_spots_74 (lv_at hl 2 rfl) ?_
      refine lv_aload_n hx hb dX12_spots_76 rfl (lv_at hl 0 rfl) ?_
      refine lv_iload hx hb dX12_spots_77 (lv_at hl 3 rfl) ?_
      refine m_ci (m_runV E hM hS cs_X12_412 ho.1 (by decide) rfl rfl (c_X12_spotsOf ho hw) rfl rfl ⟨Nat.le_of_ble_eq_true rfl, Nat.le_of_ble_eq_true rfl⟩ rfl hl.1 rfl (Nat.le_of_ble_eq_true rfl) dX12_spots_79 ⟨Nat.le_of_ble_eq_true rfl, Nat.le_of_ble_eq_true rfl⟩) hS (fun r8 u H locs hp hM hS => ?_)
      obtain ⟨rfl, hw⟩ := hp
      refine m_ci (m_runS E hM hS cs_X12_415 (c_X12_bits  hw) rfl rfl ⟨Nat.le_of_ble_eq_true rfl, Nat.le_of_ble_eq_true rfl⟩ rfl hl.1 rfl (Nat.le_of_ble_eq_true rfl) dX12_spots_82 ⟨Nat.le_of_ble_eq_true rfl, Nat.le_of_ble_eq_true rfl⟩) hS (fun r9 u H locs hp hM hS => ?_)
      obtain ⟨rfl, hw⟩ := hp
      refine lv_iconst (v := 1) hx hb dX12_spots_85 (by decide) ?_
      refine lv_icmp_ne (tgt := 93) hx hb dX12_spots_86 (by decide) (fun cq => ?_) (fun cq => ?_)
      · have hw := hw.1 cq
        refine lv_iconst (v := 0) hx hb dX12_spots_93 (by decide) ?_
        refine lv_iadd hx hb dX12_spots_94 ?_
        refine lv_topi (fun x10 ex10 => ?_)
        have hw := hw x10 ex10
        refine lv_istore (lv' := [(5, .int x10), (0, .ref (ad bs o)), (4, .int a4), (6, .int v6)]) hx hb dX12_spots_95 hl (by decide) rfl (fun ls hl => ?_)
        obtain ⟨x11, ex11⟩ : ∃ y : Int32, y = v6 + 1 := ⟨_, rfl⟩
        have hw := hw x11 ex11
        refine lv_iinc (v := x11) (lv' := [(6, .int x11), (5, .int x10), (0, .ref (ad bs o)), (4, .int a4)]) hx hb dX12_spots_97 hl (k := 3) rfl (by rw [ex11]; rfl) (by decide) rfl (fun ls hl => ?_)
        refine lv_goto (tgt := 46) hx hb dX12_spots_100 (by decide) ?_
        exact hw H locs ls  hM hS (lv_sub hl [2, 3, 1, 0] rfl)
      · have hw := hw.2 cq
        refine lv_iconst (v := 1) hx hb dX12_spots_89 (by decide) ?_
        refine lv_goto (tgt := 94) hx hb dX12_spots_90 (by decide) ?_
        refine lv_iadd hx hb dX12_spots_94 ?_
        refine lv_topi (fun x12 ex12 => ?_)
        have hw := hw x12 ex12
        refine lv_istore (lv' := [(5, .int x12), (0, .ref (ad bs o)), (4, .int a4), (6, .int v6)]) hx hb dX12_spots_95 hl (by decide) rfl (fun ls hl => ?_)
        obtain ⟨x13, ex13⟩ : ∃ y : Int32, y = v6 + 1 := ⟨_, rfl⟩
        have hw := hw x13 ex13
        refine lv_iinc (v := x13) (lv' := [(6, .int x13), (5, .int x12), (0, .ref (ad bs o)), (4, .int a4)]) hx hb dX12_spots_97 hl (k := 3) rfl (by rw [ex13]; rfl) (by decide) rfl (fun ls hl => ?_)
        refine lv_goto (tgt := 46) hx hb dX12_spots_100 (by decide) ?_
        exact hw H locs ls  hM hS (lv_sub hl [2, 3, 1, 0] rfl)
    · have hw := hw.2 cq
      exact hk67 _ _ _ H locs ls  hw hM hS (lv_sub hl [0, 3] rfl)
def w_X12_spots_67 (o : Nat) (a1 : Int32) (a2 : Int32) (a3 : Int32) (a4 : Int32) (post : Int32 → mI → mL → Prop) (I : mI) (L : mL) (v6 : Int32) : Prop := w_X12_spotsOf I L o v6 (fun r14 => post r14 I L)
set_option maxRecDepth 100000 in
set_option maxHeartbeats 4000000 in
theorem s_X12_spots_67 {p : Program} {l : Launch} {e : Env} {s : State} {m : MethodId} {args : Array Value} {below : List Frame} {meth : Method} {c : Code} {D : va_G} {cA : Nat → ClassId} {Z : mZ} {bs : Ad} {n : Nat} {K : mK} {R : mR} (E : Ev p s m args c cX12_spots 7 RX12 D cA Z bs) (hr : meth.sig.returnType = (some .int)) (hlk : meth.locks = false) {o : Nat} {a1 : Int32} {a2 : Int32} {a3 : Int32} {a4 : Int32} (ho : isX12 K R o) {post : Int32 → mI → mL → Prop} {I : mI} {L : mL} {v6 : Int32} {H : Heap} {locs : List Loc} {ls : Array Slot} (hw : w_X12_spots_67 o a1 a2 a3 a4 post I L v6) (hM : mm D cA bs (n, K, R, I, L) H) (hS : va_S (Ab bs) s.heap H locs) (hl : lv_has ls 7 [(0, .ref (ad bs o)), (6, .int v6)]) : W p l e ({ frames := 6, cells := 0, slots := 0, locals := 142 } : Room) s m args below meth c H locs 0 0 (MQ below (QI D cA bs (fun r u => ∃ I' L', u = (n, K, R, I', L') ∧ post r I' L')) args s 0 0 (Ab bs)) (F0 m 67 ls []) := by
  have hx := E.1.1
  have hb := E.1.2.1
  refine lv_aload_n hx hb dX12_spots_67 rfl (lv_at hl 0 rfl) ?_
  refine lv_iload hx hb dX12_spots_68 (lv_at hl 1 rfl) ?_
  refine m_ci (m_runV E hM hS cs_X12_412 ho.1 (by decide) rfl rfl (c_X12_spotsOf ho hw) rfl rfl ⟨Nat.le_of_ble_eq_true rfl, Nat.le_of_ble_eq_true rfl⟩ rfl hl.1 rfl (Nat.le_of_ble_eq_true rfl) dX12_spots_70 ⟨Nat.le_of_ble_eq_true rfl, Nat.le_of_ble_eq_true rfl⟩) hS (fun r14 u H locs hp hM hS => ?_)
  obtain ⟨rfl, hw⟩ := hp
  exact m_reti hx hb hr hlk hM hS ⟨_, _, rfl, hw⟩ dX12_spots_73
def w_X12_spots_103 (o : Nat) (a1 : Int32) (a2 : Int32) (a3 : Int32) (a4 : Int32) (post : Int32 → mI → mL → Prop) (I : mI) (L : mL) (v5 : Int32) : Prop := (¬ a4 = (-1) → post 0 I L) ∧ (a4 = (-1) → post v5 I L)
set_option maxRecDepth 100000 in
set_option maxHeartbeats 4000000 in
theorem s_X12_spots_103 {p : Program} {l : Launch} {e : Env} {s : State} {m : MethodId} {args : Array Value} {below : List Frame} {meth : Method} {c : Code} {D : va_G} {cA : Nat → ClassId} {Z : mZ} {bs : Ad} {n : Nat} {K : mK} {R : mR} (E : Ev p s m args c cX12_spots 7 RX12 D cA Z bs) (hr : meth.sig.returnType = (some .int)) (hlk : meth.locks = false) {o : Nat} {a1 : Int32} {a2 : Int32} {a3 : Int32} {a4 : Int32} (ho : isX12 K R o) {post : Int32 → mI → mL → Prop} {I : mI} {L : mL} {v5 : Int32} {H : Heap} {locs : List Loc} {ls : Array Slot} (hw : w_X12_spots_103 o a1 a2 a3 a4 post I L v5) (hM : mm D cA bs (n, K, R, I, L) H) (hS : va_S (Ab bs) s.heap H locs) (hl : lv_has ls 7 [(4, .int a4), (5, .int v5)]) : W p l e ({ frames := 6, cells := 0, slots := 0, locals := 142 } : Room) s m args below meth c H locs 0 0 (MQ below (QI D cA bs (fun r u => ∃ I' L', u = (n, K, R, I', L') ∧ post r I' L')) args s 0 0 (Ab bs)) (F0 m 103 ls []) := by
  have hx := E.1.1
  have hb := E.1.2.1
  refine lv_iload hx hb dX12_spots_103 (lv_at hl 0 rfl) ?_
  refine lv_iconst (v := (-1)) hx hb dX12_spots_105 (by decide) ?_
  refine lv_icmp_ne (tgt := 114) hx hb dX12_spots_106 (by decide) (fun cq => ?_) (fun cq => ?_)
  · have hw := hw.1 cq
    refine lv_iconst (v := 0) hx hb dX12_spots_114 (by decide) ?_
    exact m_reti hx hb hr hlk hM hS ⟨_, _, rfl, hw⟩ dX12_spots_115
  · have hw := hw.2 cq
    refine lv_iload hx hb dX12_spots_109 (lv_at hl 1 rfl) ?_
    refine lv_goto (tgt := 115) hx hb dX12_spots_111 (by decide) ?_
    exact m_reti hx hb hr hlk hM hS ⟨_, _, rfl, hw⟩ dX12_spots_115
def w_X12_spots (I : mI) (L : mL) (o : Nat) (a1 : Int32) (a2 : Int32) (a3 : Int32) (a4 : Int32) (post : Int32 → mI → mL → Prop) : Prop := w_X12_areRead I o a1 a2 (fun b1 I2 => (b1 = false → post (-2) I2 L) ∧ (b1 = true → w_X12_isPerson I2 o a3 (fun b3 => (b3 = false → post (-2) I2 L) ∧ (b3 = true → w_X12_sounds I2 o (fun r4 => w_X12_isIn a4 (-1) (r4 - 1) (fun b5 => (b5 = true → w_X12_tracks I2 L o a3 (fun I6 L7 => (w_X12_spots_46 o a1 a2 a3 a4 post (w_X12_spots_67 o a1 a2 a3 a4 post) (w_X12_spots_103 o a1 a2 a3 a4 post)) I6 L7 0 0)) ∧ (b5 = false → post (-2) I2 L)))))))
set_option maxRecDepth 100000 in
set_option maxHeartbeats 4000000 in
theorem c_X12_spots {l : Launch} {D : va_G} {cA : Nat → ClassId} {Z : mZ} {bs : Ad} {n : Nat} {K : mK} {R : mR} {I : mI} {L : mL} {o : Nat} {a1 : Int32} {a2 : Int32} {a3 : Int32} {a4 : Int32} {post : Int32 → mI → mL → Prop} (ho : isX12 K R o) (hw : w_X12_spots I L o a1 a2 a3 a4 post) : Met l yX12_spots (.code yX12_spots cX12_spots 7 (some .int) :: gw) ({ frames := 6, cells := 0, slots := 0, locals := 142 } : Room) (PreM D cA Z bs (n, K, R, I, L) [.ref (ad bs o), .int a1, .int a2, .int a3, .int a4]) (QI D cA bs (fun r u => ∃ I' L', u = (n, K, R, I', L') ∧ post r I' L')) 0 0 (Ab bs) := by
  refine m_met (by decide) (Nat.le_of_ble_eq_true rfl) (fun p e s m below meth c ls E hr hlk hM hS hl => ?_)
  have E : Ev p s m _ c cX12_spots 7 RX12 D cA Z bs := E
  have hl : lv_has ls 7 [(0, .ref (ad bs o)), (1, .int a1), (2, .int a2), (3, .int a3), (4, .int a4)] := hl
  have hx := E.1.1
  have hb := E.1.2.1
  generalize hHe : s.heap = H at hM ⊢
  have hS : va_S (Ab bs) s.heap H [] := by rw [← hHe]; exact va_S.rf
  clear hHe
  refine lv_aload_n hx hb dX12_spots_0 rfl (lv_at hl 0 rfl) ?_
  refine lv_iload_n hx hb dX12_spots_1 rfl (lv_at hl 1 rfl) ?_
  refine lv_iload_n hx hb dX12_spots_2 rfl (lv_at hl 2 rfl) ?_
  refine m_ci (m_runV E hM hS cs_X12_391 ho.1 (by decide) rfl rfl (c_X12_areRead ho hw) rfl rfl ⟨Nat.le_of_ble_eq_true rfl, Nat.le_of_ble_eq_true rfl⟩ rfl hl.1 rfl (Nat.le_of_ble_eq_true rfl) dX12_spots_3 ⟨Nat.le_of_ble_eq_true rfl, Nat.le_of_ble_eq_true rfl⟩) hS (fun r9 u H locs hp hM hS => ?_)
  obtain ⟨b1, rfl, I2, rfl, hw⟩ := hp
  refine lv_if_eq (tgt := 32) hx hb dX12_spots_6 (by decide) (fun cq => ?_) (fun cq => ?_)
  · have hw := hw.1 (bI_f cq)
    refine lv_bipush (v := (-2)) hx hb dX12_spots_32 (by decide) ?_
    exact m_reti hx hb hr hlk hM hS ⟨_, _, rfl, hw⟩ dX12_spots_34
  · have hw := hw.2 (bI_t cq)
    refine lv_aload_n hx hb dX12_spots_9 rfl (lv_at hl 0 rfl) ?_
    refine lv_iload_n hx hb dX12_spots_10 rfl (lv_at hl 3 rfl) ?_
    refine m_ci (m_runV E hM hS cs_X12_303 ho.1 (by decide) rfl rfl (c_X12_isPerson ho hw) rfl rfl ⟨Nat.le_of_ble_eq_true rfl, Nat.le_of_ble_eq_true rfl⟩ rfl hl.1 rfl (Nat.le_of_ble_eq_true rfl) dX12_spots_11 ⟨Nat.le_of_ble_eq_true rfl, Nat.le_of_ble_eq_true rfl⟩) hS (fun r9 u H locs hp hM hS => ?_)
    obtain ⟨b3, rfl, rfl, hw⟩ := hp
    refine lv_if_eq (tgt := 32) hx hb dX12_spots_14 (by decide) (fun cq => ?_) (fun cq => ?_)
    · have hw := hw.1 (bI_f cq)
      refine lv_bipush (v := (-2)) hx hb dX12_spots_32 (by decide) ?_
      exact m_reti hx hb hr hlk hM hS ⟨_, _, rfl, hw⟩ dX12_spots_34
    · have hw := hw.2 (bI_t cq)
      refine lv_iload hx hb dX12_spots_17 (lv_at hl 4 rfl) ?_
      refine lv_iconst (v := (-1)) hx hb dX12_spots_19 (by decide) ?_
      refine lv_aload_n hx hb dX12_spots_20 rfl (lv_at hl 0 rfl) ?_
      refine m_ci (m_runV E hM hS cs_X12_376 ho.1 (by decide) rfl rfl (c_X12_sounds ho hw) rfl rfl ⟨Nat.le_of_ble_eq_true rfl, Nat.le_of_ble_eq_true rfl⟩ rfl hl.1 rfl (Nat.le_of_ble_eq_true rfl) dX12_spots_21 ⟨Nat.le_of_ble_eq_true rfl, Nat.le_of_ble_eq_true rfl⟩) hS (fun r4 u H locs hp hM hS => ?_)
      obtain ⟨rfl, hw⟩ := hp
      refine lv_iconst (v := 1) hx hb dX12_spots_24 (by decide) ?_
      refine lv_isub hx hb dX12_spots_25 ?_
      refine m_ci (m_runS E hM hS cs_X12_133 (c_X12_isIn  hw) rfl rfl ⟨Nat.le_of_ble_eq_true rfl, Nat.le_of_ble_eq_true rfl⟩ rfl hl.1 rfl (Nat.le_of_ble_eq_true rfl) dX12_spots_26 ⟨Nat.le_of_ble_eq_true rfl, Nat.le_of_ble_eq_true rfl⟩) hS (fun r9 u H locs hp hM hS => ?_)
      obtain ⟨b5, rfl, rfl, hw⟩ := hp
      refine lv_if_ne (tgt := 35) hx hb dX12_spots_29 (by decide) (fun cq => ?_) (fun cq => ?_)
      · have hw := hw.1 (bI_t cq)
        refine lv_aload_n hx hb dX12_spots_35 rfl (lv_at hl 0 rfl) ?_
        refine lv_iload_n hx hb dX12_spots_36 rfl (lv_at hl 3 rfl) ?_
        refine m_cv (m_runV E hM hS cs_X12_409 ho.1 (by decide) rfl rfl (c_X12_tracks ho hw) rfl rfl ⟨Nat.le_of_ble_eq_true rfl, Nat.le_of_ble_eq_true rfl⟩ rfl hl.1 rfl (Nat.le_of_ble_eq_true rfl) dX12_spots_37 ⟨Nat.le_of_ble_eq_true rfl, Nat.le_of_ble_eq_true rfl⟩) hS (fun u H locs hp hM hS => ?_)
        obtain ⟨I6, L7, rfl, hw⟩ := hp
        refine lv_iconst (v := 0) hx hb dX12_spots_40 (by decide) ?_
        refine lv_istore (lv' := [(5, .int 0), (0, .ref (ad bs o)), (1, .int a1), (2, .int a2), (3, .int a3), (4, .int a4)]) hx hb dX12_spots_41 hl (by decide) rfl (fun ls hl => ?_)
        refine lv_iconst (v := 0) hx hb dX12_spots_43 (by decide) ?_
        refine lv_istore (lv' := [(6, .int 0), (5, .int 0), (0, .ref (ad bs o)), (1, .int a1), (2, .int a2), (3, .int a3), (4, .int a4)]) hx hb dX12_spots_44 hl (by decide) rfl (fun ls hl => ?_)
        exact s_X12_spots_46 E hr hlk ho (fun I L v6 H locs ls  hw hM hS hl => s_X12_spots_67 E hr hlk ho  hw hM hS hl) (fun I L v5 H locs ls  hw hM hS hl => s_X12_spots_103 E hr hlk ho  hw hM hS hl)  hw hM hS (lv_sub hl [2, 6, 1, 0] rfl)
      · have hw := hw.2 (bI_f cq)
        refine lv_bipush (v := (-2)) hx hb dX12_spots_32 (by decide) ?_
        exact m_reti hx hb hr hlk hM hS ⟨_, _, rfl, hw⟩ dX12_spots_34
theorem dX12_drawn_0 : decode cX12_drawn 0 = .ok (.aload_n 0, 1) := by decide +kernel
theorem dX12_drawn_1 : decode cX12_drawn 1 = .ok (.iload_n 1, 1) := by decide +kernel
theorem dX12_drawn_2 : decode cX12_drawn 2 = .ok (.invokevirtual 214, 3) := by decide +kernel
theorem dX12_drawn_5 : decode cX12_drawn 5 = .ok (.ifCond .eq 47, 3) := by decide +kernel
theorem dX12_drawn_8 : decode cX12_drawn 8 = .ok (.iload_n 3, 1) := by decide +kernel
theorem dX12_drawn_9 : decode cX12_drawn 9 = .ok (.iconst 0, 1) := by decide +kernel
theorem dX12_drawn_10 : decode cX12_drawn 10 = .ok (.bipush 100, 2) := by decide +kernel
theorem dX12_drawn_12 : decode cX12_drawn 12 = .ok (.invokestatic 133, 3) := by decide +kernel
theorem dX12_drawn_15 : decode cX12_drawn 15 = .ok (.ifCond .eq 37, 3) := by decide +kernel
theorem dX12_drawn_18 : decode cX12_drawn 18 = .ok (.iload 4, 2) := by decide +kernel
theorem dX12_drawn_20 : decode cX12_drawn 20 = .ok (.iconst 0, 1) := by decide +kernel
theorem dX12_drawn_21 : decode cX12_drawn 21 = .ok (.iconst 1, 1) := by decide +kernel
theorem dX12_drawn_22 : decode cX12_drawn 22 = .ok (.invokestatic 133, 3) := by decide +kernel
theorem dX12_drawn_25 : decode cX12_drawn 25 = .ok (.ifCond .ne 29, 3) := by decide +kernel
theorem dX12_drawn_28 : decode cX12_drawn 28 = .ok (.aload_n 0, 1) := by decide +kernel
theorem dX12_drawn_29 : decode cX12_drawn 29 = .ok (.iload 4, 2) := by decide +kernel
theorem dX12_drawn_31 : decode cX12_drawn 31 = .ok (.bipush 10, 2) := by decide +kernel
theorem dX12_drawn_33 : decode cX12_drawn 33 = .ok (.isub, 1) := by decide +kernel
theorem dX12_drawn_34 : decode cX12_drawn 34 = .ok (.invokevirtual 303, 3) := by decide +kernel
theorem dX12_drawn_37 : decode cX12_drawn 37 = .ok (.ifCond .ne 17, 3) := by decide +kernel
theorem dX12_drawn_40 : decode cX12_drawn 40 = .ok (.aload_n 0, 1) := by decide +kernel
theorem dX12_drawn_41 : decode cX12_drawn 41 = .ok (.iload 4, 2) := by decide +kernel
theorem dX12_drawn_43 : decode cX12_drawn 43 = .ok (.bipush 20, 2) := by decide +kernel
theorem dX12_drawn_45 : decode cX12_drawn 45 = .ok (.isub, 1) := by decide +kernel
theorem dX12_drawn_46 : decode cX12_drawn 46 = .ok (.invokevirtual 217, 3) := by decide +kernel
theorem dX12_drawn_49 : decode cX12_drawn 49 = .ok (.ifCond .ne 5, 3) := by decide +kernel
theorem dX12_drawn_52 : decode cX12_drawn 52 = .ok (.iconst (-1), 1) := by decide +kernel
theorem dX12_drawn_53 : decode cX12_drawn 53 = .ok (.ireturn, 1) := by decide +kernel
theorem dX12_drawn_54 : decode cX12_drawn 54 = .ok (.aload_n 0, 1) := by decide +kernel
theorem dX12_drawn_55 : decode cX12_drawn 55 = .ok (.iconst 1, 1) := by decide +kernel
theorem dX12_drawn_56 : decode cX12_drawn 56 = .ok (.putfield 235, 3) := by decide +kernel
theorem dX12_drawn_59 : decode cX12_drawn 59 = .ok (.aload_n 0, 1) := by decide +kernel
theorem dX12_drawn_60 : decode cX12_drawn 60 = .ok (.iload_n 2, 1) := by decide +kernel
theorem dX12_drawn_61 : decode cX12_drawn 61 = .ok (.putfield 287, 3) := by decide +kernel
theorem dX12_drawn_64 : decode cX12_drawn 64 = .ok (.aload_n 0, 1) := by decide +kernel
theorem dX12_drawn_65 : decode cX12_drawn 65 = .ok (.iload_n 3, 1) := by decide +kernel
theorem dX12_drawn_66 : decode cX12_drawn 66 = .ok (.putfield 294, 3) := by decide +kernel
theorem dX12_drawn_69 : decode cX12_drawn 69 = .ok (.aload_n 0, 1) := by decide +kernel
theorem dX12_drawn_70 : decode cX12_drawn 70 = .ok (.invokevirtual 306, 3) := by decide +kernel
theorem dX12_drawn_73 : decode cX12_drawn 73 = .ok (.iload 4, 2) := by decide +kernel
theorem dX12_drawn_75 : decode cX12_drawn 75 = .ok (.iconst 2, 1) := by decide +kernel
theorem dX12_drawn_76 : decode cX12_drawn 76 = .ok (.if_icmp .ge 20, 3) := by decide +kernel
theorem dX12_drawn_79 : decode cX12_drawn 79 = .ok (.iload 4, 2) := by decide +kernel
theorem dX12_drawn_81 : decode cX12_drawn 81 = .ok (.ifCond .ne 10, 3) := by decide +kernel
theorem dX12_drawn_84 : decode cX12_drawn 84 = .ok (.aload_n 0, 1) := by decide +kernel
theorem dX12_drawn_85 : decode cX12_drawn 85 = .ok (.getfield 262, 3) := by decide +kernel
theorem dX12_drawn_88 : decode cX12_drawn 88 = .ok (.goto 7, 3) := by decide +kernel
theorem dX12_drawn_91 : decode cX12_drawn 91 = .ok (.aload_n 0, 1) := by decide +kernel
theorem dX12_drawn_92 : decode cX12_drawn 92 = .ok (.invokevirtual 367, 3) := by decide +kernel
theorem dX12_drawn_95 : decode cX12_drawn 95 = .ok (.ireturn, 1) := by decide +kernel
theorem dX12_drawn_96 : decode cX12_drawn 96 = .ok (.iload 4, 2) := by decide +kernel
theorem dX12_drawn_98 : decode cX12_drawn 98 = .ok (.bipush 20, 2) := by decide +kernel
theorem dX12_drawn_100 : decode cX12_drawn 100 = .ok (.if_icmp .ge 16, 3) := by decide +kernel
theorem dX12_drawn_103 : decode cX12_drawn 103 = .ok (.aload_n 0, 1) := by decide +kernel
theorem dX12_drawn_104 : decode cX12_drawn 104 = .ok (.getfield 50, 3) := by decide +kernel
theorem dX12_drawn_107 : decode cX12_drawn 107 = .ok (.iload 4, 2) := by decide +kernel
theorem dX12_drawn_109 : decode cX12_drawn 109 = .ok (.bipush 10, 2) := by decide +kernel
theorem dX12_drawn_111 : decode cX12_drawn 111 = .ok (.isub, 1) := by decide +kernel
theorem dX12_drawn_112 : decode cX12_drawn 112 = .ok (.iaload, 1) := by decide +kernel
theorem dX12_drawn_113 : decode cX12_drawn 113 = .ok (.goto 12, 3) := by decide +kernel
theorem dX12_drawn_116 : decode cX12_drawn 116 = .ok (.aload_n 0, 1) := by decide +kernel
theorem dX12_drawn_117 : decode cX12_drawn 117 = .ok (.iload 4, 2) := by decide +kernel
theorem dX12_drawn_119 : decode cX12_drawn 119 = .ok (.bipush 20, 2) := by decide +kernel
theorem dX12_drawn_121 : decode cX12_drawn 121 = .ok (.isub, 1) := by decide +kernel
theorem dX12_drawn_122 : decode cX12_drawn 122 = .ok (.invokevirtual 318, 3) := by decide +kernel
theorem dX12_drawn_125 : decode cX12_drawn 125 = .ok (.ireturn, 1) := by decide +kernel
def w_X12_drawn_54 (o : Nat) (a1 : Int32) (a2 : Int32) (a3 : Int32) (a4 : Int32) (post : Int32 → mI → Prop) (I : mI) : Prop := ∀ I7, I7 = up2 I o 22 1 → ∀ I8, I8 = up2 I7 o 23 a2 → ∀ I9, I9 = up2 I8 o 24 a3 → w_X12_runs I9 o (fun I10 => (2 ≤ a4 → (20 ≤ a4 → w_X12_notesOf I10 o (a4 - 20) (fun r11 => post r11 I10)) ∧ (¬ 20 ≤ a4 → vp_in (a4 - 10) 6 ∧ post (I10 (o + 14) (a4 - 10).toNatClampNeg) I10)) ∧ (¬ 2 ≤ a4 → (¬ a4 = 0 → w_X12_allNotes I10 o (fun r12 => post r12 I10)) ∧ (a4 = 0 → post (I10 o 25) I10)))
set_option maxRecDepth 100000 in
set_option maxHeartbeats 4000000 in
theorem s_X12_drawn_54 {p : Program} {l : Launch} {e : Env} {s : State} {m : MethodId} {args : Array Value} {below : List Frame} {meth : Method} {c : Code} {D : va_G} {cA : Nat → ClassId} {Z : mZ} {bs : Ad} {n : Nat} {K : mK} {R : mR} {L : mL} (E : Ev p s m args c cX12_drawn 5 RX12 D cA Z bs) (hr : meth.sig.returnType = (some .int)) (hlk : meth.locks = false) {o : Nat} {a1 : Int32} {a2 : Int32} {a3 : Int32} {a4 : Int32} (ho : isX12 K R o) {post : Int32 → mI → Prop} {I : mI} {H : Heap} {locs : List Loc} {ls : Array Slot} (hw : w_X12_drawn_54 o a1 a2 a3 a4 post I) (hM : mm D cA bs (n, K, R, I, L) H) (hS : va_S (Ab bs) s.heap H locs) (hl : lv_has ls 5 [(0, .ref (ad bs o)), (2, .int a2), (3, .int a3), (4, .int a4)]) : W p l e ({ frames := 7, cells := 0, slots := 0, locals := 159 } : Room) s m args below meth c H locs 0 0 (MQ below (QI D cA bs (fun r u => ∃ I', u = (n, K, R, I', L) ∧ post r I')) args s 0 0 (Ab bs)) (F0 m 54 ls []) := by
  have hx := E.1.1
  have hb := E.1.2.1
  refine lv_aload_n hx hb dX12_drawn_54 rfl (lv_at hl 0 rfl) ?_
  refine lv_iconst (v := 1) hx hb dX12_drawn_55 (by decide) ?_
  refine m_puti E hM hS fp_X12_235 ho.1 rfl rfl dX12_drawn_56 (fun I7 H locs eI7 hM hS => ?_)
  have hw := hw I7 eI7
  refine lv_aload_n hx hb dX12_drawn_59 rfl (lv_at hl 0 rfl) ?_
  refine lv_iload_n hx hb dX12_drawn_60 rfl (lv_at hl 1 rfl) ?_
  refine m_puti E hM hS fp_X12_287 ho.1 rfl rfl dX12_drawn_61 (fun I8 H locs eI8 hM hS => ?_)
  have hw := hw I8 eI8
  refine lv_aload_n hx hb dX12_drawn_64 rfl (lv_at hl 0 rfl) ?_
  refine lv_iload_n hx hb dX12_drawn_65 rfl (lv_at hl 2 rfl) ?_
  refine m_puti E hM hS fp_X12_294 ho.1 rfl rfl dX12_drawn_66 (fun I9 H locs eI9 hM hS => ?_)
  have hw := hw I9 eI9
  refine lv_aload_n hx hb dX12_drawn_69 rfl (lv_at hl 0 rfl) ?_
  refine m_cv (m_runV E hM hS cs_X12_306 ho.1 (by decide) rfl rfl (c_X12_runs ho hw) rfl rfl ⟨Nat.le_of_ble_eq_true rfl, Nat.le_of_ble_eq_true rfl⟩ rfl hl.1 rfl (Nat.le_of_ble_eq_true rfl) dX12_drawn_70 ⟨Nat.le_of_ble_eq_true rfl, Nat.le_of_ble_eq_true rfl⟩) hS (fun u H locs hp hM hS => ?_)
  obtain ⟨I10, rfl, hw⟩ := hp
  refine lv_iload hx hb dX12_drawn_73 (lv_at hl 3 rfl) ?_
  refine lv_iconst (v := 2) hx hb dX12_drawn_75 (by decide) ?_
  refine lv_icmp_ge (tgt := 96) hx hb dX12_drawn_76 (by decide) (fun cq => ?_) (fun cq => ?_)
  · have hw := hw.1 cq
    refine lv_iload hx hb dX12_drawn_96 (lv_at hl 3 rfl) ?_
    refine lv_bipush (v := 20) hx hb dX12_drawn_98 (by decide) ?_
    refine lv_icmp_ge (tgt := 116) hx hb dX12_drawn_100 (by decide) (fun cq => ?_) (fun cq => ?_)
    · have hw := hw.1 cq
      refine lv_aload_n hx hb dX12_drawn_116 rfl (lv_at hl 0 rfl) ?_
      refine lv_iload hx hb dX12_drawn_117 (lv_at hl 3 rfl) ?_
      refine lv_bipush (v := 20) hx hb dX12_drawn_119 (by decide) ?_
      refine lv_isub hx hb dX12_drawn_121 ?_
      refine m_ci (m_runV E hM hS cs_X12_318 ho.1 (by decide) rfl rfl (c_X12_notesOf ho hw) rfl rfl ⟨Nat.le_of_ble_eq_true rfl, Nat.le_of_ble_eq_true rfl⟩ rfl hl.1 rfl (Nat.le_of_ble_eq_true rfl) dX12_drawn_122 ⟨Nat.le_of_ble_eq_true rfl, Nat.le_of_ble_eq_true rfl⟩) hS (fun r11 u H locs hp hM hS => ?_)
      obtain ⟨rfl, hw⟩ := hp
      exact m_reti hx hb hr hlk hM hS ⟨_, rfl, hw⟩ dX12_drawn_125
    · have hw := hw.2 cq
      refine lv_aload_n hx hb dX12_drawn_103 rfl (lv_at hl 0 rfl) ?_
      refine m_getr E hM fs_X12_50 ho.1 (isO_at ho 13 rfl).1 dX12_drawn_104 ?_
      refine lv_iload hx hb dX12_drawn_107 (lv_at hl 3 rfl) ?_
      refine lv_bipush (v := 10) hx hb dX12_drawn_109 (by decide) ?_
      refine lv_isub hx hb dX12_drawn_111 ?_
      obtain ⟨hv, hw⟩ := hw
      refine m_iald E hM (isO_at ho 13 rfl).2 hv dX12_drawn_112 ?_
      refine lv_goto (tgt := 125) hx hb dX12_drawn_113 (by decide) ?_
      exact m_reti hx hb hr hlk hM hS ⟨_, rfl, hw⟩ dX12_drawn_125
  · have hw := hw.2 cq
    refine lv_iload hx hb dX12_drawn_79 (lv_at hl 3 rfl) ?_
    refine lv_if_ne (tgt := 91) hx hb dX12_drawn_81 (by decide) (fun cq => ?_) (fun cq => ?_)
    · have hw := hw.1 cq
      refine lv_aload_n hx hb dX12_drawn_91 rfl (lv_at hl 0 rfl) ?_
      refine m_ci (m_runV E hM hS cs_X12_367 ho.1 (by decide) rfl rfl (c_X12_allNotes ho hw) rfl rfl ⟨Nat.le_of_ble_eq_true rfl, Nat.le_of_ble_eq_true rfl⟩ rfl hl.1 rfl (Nat.le_of_ble_eq_true rfl) dX12_drawn_92 ⟨Nat.le_of_ble_eq_true rfl, Nat.le_of_ble_eq_true rfl⟩) hS (fun r12 u H locs hp hM hS => ?_)
      obtain ⟨rfl, hw⟩ := hp
      exact m_reti hx hb hr hlk hM hS ⟨_, rfl, hw⟩ dX12_drawn_95
    · have hw := hw.2 cq
      refine lv_aload_n hx hb dX12_drawn_84 rfl (lv_at hl 0 rfl) ?_
      refine m_geti E hM fs_X12_262 ho.1 dX12_drawn_85 ?_
      refine lv_goto (tgt := 95) hx hb dX12_drawn_88 (by decide) ?_
      exact m_reti hx hb hr hlk hM hS ⟨_, rfl, hw⟩ dX12_drawn_95
def w_X12_drawn (I : mI) (o : Nat) (a1 : Int32) (a2 : Int32) (a3 : Int32) (a4 : Int32) (post : Int32 → mI → Prop) : Prop := w_X12_isHouse I o a1 (fun b1 I2 => (b1 = false → post (-1) I2) ∧ (b1 = true → w_X12_isIn a3 0 100 (fun b3 => (b3 = false → post (-1) I2) ∧ (b3 = true → w_X12_isIn a4 0 1 (fun b4 => (b4 = true → (w_X12_drawn_54 o a1 a2 a3 a4 post) I2) ∧ (b4 = false → w_X12_isPerson I2 o (a4 - 10) (fun b5 => (b5 = true → (w_X12_drawn_54 o a1 a2 a3 a4 post) I2) ∧ (b5 = false → w_X12_isFlat I2 o (a4 - 20) (fun b6 => (b6 = true → (w_X12_drawn_54 o a1 a2 a3 a4 post) I2) ∧ (b6 = false → post (-1) I2))))))))))
set_option maxRecDepth 100000 in
set_option maxHeartbeats 4000000 in
theorem c_X12_drawn {l : Launch} {D : va_G} {cA : Nat → ClassId} {Z : mZ} {bs : Ad} {n : Nat} {K : mK} {R : mR} {I : mI} {L : mL} {o : Nat} {a1 : Int32} {a2 : Int32} {a3 : Int32} {a4 : Int32} {post : Int32 → mI → Prop} (ho : isX12 K R o) (hw : w_X12_drawn I o a1 a2 a3 a4 post) : Met l yX12_drawn (.code yX12_drawn cX12_drawn 5 (some .int) :: gw) ({ frames := 7, cells := 0, slots := 0, locals := 159 } : Room) (PreM D cA Z bs (n, K, R, I, L) [.ref (ad bs o), .int a1, .int a2, .int a3, .int a4]) (QI D cA bs (fun r u => ∃ I', u = (n, K, R, I', L) ∧ post r I')) 0 0 (Ab bs) := by
  refine m_met (by decide) (Nat.le_of_ble_eq_true rfl) (fun p e s m below meth c ls E hr hlk hM hS hl => ?_)
  have E : Ev p s m _ c cX12_drawn 5 RX12 D cA Z bs := E
  have hl : lv_has ls 5 [(0, .ref (ad bs o)), (1, .int a1), (2, .int a2), (3, .int a3), (4, .int a4)] := hl
  have hx := E.1.1
  have hb := E.1.2.1
  generalize hHe : s.heap = H at hM ⊢
  have hS : va_S (Ab bs) s.heap H [] := by rw [← hHe]; exact va_S.rf
  clear hHe
  refine lv_aload_n hx hb dX12_drawn_0 rfl (lv_at hl 0 rfl) ?_
  refine lv_iload_n hx hb dX12_drawn_1 rfl (lv_at hl 1 rfl) ?_
  refine m_ci (m_runV E hM hS cs_X12_214 ho.1 (by decide) rfl rfl (c_X12_isHouse ho hw) rfl rfl ⟨Nat.le_of_ble_eq_true rfl, Nat.le_of_ble_eq_true rfl⟩ rfl hl.1 rfl (Nat.le_of_ble_eq_true rfl) dX12_drawn_2 ⟨Nat.le_of_ble_eq_true rfl, Nat.le_of_ble_eq_true rfl⟩) hS (fun r9 u H locs hp hM hS => ?_)
  obtain ⟨b1, rfl, I2, rfl, hw⟩ := hp
  refine lv_if_eq (tgt := 52) hx hb dX12_drawn_5 (by decide) (fun cq => ?_) (fun cq => ?_)
  · have hw := hw.1 (bI_f cq)
    refine lv_iconst (v := (-1)) hx hb dX12_drawn_52 (by decide) ?_
    exact m_reti hx hb hr hlk hM hS ⟨_, rfl, hw⟩ dX12_drawn_53
  · have hw := hw.2 (bI_t cq)
    refine lv_iload_n hx hb dX12_drawn_8 rfl (lv_at hl 3 rfl) ?_
    refine lv_iconst (v := 0) hx hb dX12_drawn_9 (by decide) ?_
    refine lv_bipush (v := 100) hx hb dX12_drawn_10 (by decide) ?_
    refine m_ci (m_runS E hM hS cs_X12_133 (c_X12_isIn  hw) rfl rfl ⟨Nat.le_of_ble_eq_true rfl, Nat.le_of_ble_eq_true rfl⟩ rfl hl.1 rfl (Nat.le_of_ble_eq_true rfl) dX12_drawn_12 ⟨Nat.le_of_ble_eq_true rfl, Nat.le_of_ble_eq_true rfl⟩) hS (fun r9 u H locs hp hM hS => ?_)
    obtain ⟨b3, rfl, rfl, hw⟩ := hp
    refine lv_if_eq (tgt := 52) hx hb dX12_drawn_15 (by decide) (fun cq => ?_) (fun cq => ?_)
    · have hw := hw.1 (bI_f cq)
      refine lv_iconst (v := (-1)) hx hb dX12_drawn_52 (by decide) ?_
      exact m_reti hx hb hr hlk hM hS ⟨_, rfl, hw⟩ dX12_drawn_53
    · have hw := hw.2 (bI_t cq)
      refine lv_iload hx hb dX12_drawn_18 (lv_at hl 4 rfl) ?_
      refine lv_iconst (v := 0) hx hb dX12_drawn_20 (by decide) ?_
      refine lv_iconst (v := 1) hx hb dX12_drawn_21 (by decide) ?_
      refine m_ci (m_runS E hM hS cs_X12_133 (c_X12_isIn  hw) rfl rfl ⟨Nat.le_of_ble_eq_true rfl, Nat.le_of_ble_eq_true rfl⟩ rfl hl.1 rfl (Nat.le_of_ble_eq_true rfl) dX12_drawn_22 ⟨Nat.le_of_ble_eq_true rfl, Nat.le_of_ble_eq_true rfl⟩) hS (fun r9 u H locs hp hM hS => ?_)
      obtain ⟨b4, rfl, rfl, hw⟩ := hp
      refine lv_if_ne (tgt := 54) hx hb dX12_drawn_25 (by decide) (fun cq => ?_) (fun cq => ?_)
      · have hw := hw.1 (bI_t cq)
        exact s_X12_drawn_54 E hr hlk ho  hw hM hS (lv_sub hl [0, 2, 3, 4] rfl)
      · have hw := hw.2 (bI_f cq)
        refine lv_aload_n hx hb dX12_drawn_28 rfl (lv_at hl 0 rfl) ?_
        refine lv_iload hx hb dX12_drawn_29 (lv_at hl 4 rfl) ?_
        refine lv_bipush (v := 10) hx hb dX12_drawn_31 (by decide) ?_
        refine lv_isub hx hb dX12_drawn_33 ?_
        refine m_ci (m_runV E hM hS cs_X12_303 ho.1 (by decide) rfl rfl (c_X12_isPerson ho hw) rfl rfl ⟨Nat.le_of_ble_eq_true rfl, Nat.le_of_ble_eq_true rfl⟩ rfl hl.1 rfl (Nat.le_of_ble_eq_true rfl) dX12_drawn_34 ⟨Nat.le_of_ble_eq_true rfl, Nat.le_of_ble_eq_true rfl⟩) hS (fun r9 u H locs hp hM hS => ?_)
        obtain ⟨b5, rfl, rfl, hw⟩ := hp
        refine lv_if_ne (tgt := 54) hx hb dX12_drawn_37 (by decide) (fun cq => ?_) (fun cq => ?_)
        · have hw := hw.1 (bI_t cq)
          exact s_X12_drawn_54 E hr hlk ho  hw hM hS (lv_sub hl [0, 2, 3, 4] rfl)
        · have hw := hw.2 (bI_f cq)
          refine lv_aload_n hx hb dX12_drawn_40 rfl (lv_at hl 0 rfl) ?_
          refine lv_iload hx hb dX12_drawn_41 (lv_at hl 4 rfl) ?_
          refine lv_bipush (v := 20) hx hb dX12_drawn_43 (by decide) ?_
          refine lv_isub hx hb dX12_drawn_45 ?_
          refine m_ci (m_runV E hM hS cs_X12_217 ho.1 (by decide) rfl rfl (c_X12_isFlat ho hw) rfl rfl ⟨Nat.le_of_ble_eq_true rfl, Nat.le_of_ble_eq_true rfl⟩ rfl hl.1 rfl (Nat.le_of_ble_eq_true rfl) dX12_drawn_46 ⟨Nat.le_of_ble_eq_true rfl, Nat.le_of_ble_eq_true rfl⟩) hS (fun r9 u H locs hp hM hS => ?_)
          obtain ⟨b6, rfl, rfl, hw⟩ := hp
          refine lv_if_ne (tgt := 54) hx hb dX12_drawn_49 (by decide) (fun cq => ?_) (fun cq => ?_)
          · have hw := hw.1 (bI_t cq)
            exact s_X12_drawn_54 E hr hlk ho  hw hM hS (lv_sub hl [0, 2, 3, 4] rfl)
          · have hw := hw.2 (bI_f cq)
            refine lv_iconst (v := (-1)) hx hb dX12_drawn_52 (by decide) ?_
            exact m_reti hx hb hr hlk hM hS ⟨_, rfl, hw⟩ dX12_drawn_53
theorem dX12_ringOf_0 : decode cX12_ringOf 0 = .ok (.iconst 0, 1) := by decide +kernel
theorem dX12_ringOf_1 : decode cX12_ringOf 1 = .ok (.istore_n 2, 1) := by decide +kernel
theorem dX12_ringOf_2 : decode cX12_ringOf 2 = .ok (.iload_n 1, 1) := by decide +kernel
theorem dX12_ringOf_3 : decode cX12_ringOf 3 = .ok (.istore_n 3, 1) := by decide +kernel
theorem dX12_ringOf_4 : decode cX12_ringOf 4 = .ok (.iload_n 3, 1) := by decide +kernel
theorem dX12_ringOf_5 : decode cX12_ringOf 5 = .ok (.iconst (-1), 1) := by decide +kernel
theorem dX12_ringOf_6 : decode cX12_ringOf 6 = .ok (.if_icmp .eq 16, 3) := by decide +kernel
theorem dX12_ringOf_9 : decode cX12_ringOf 9 = .ok (.iinc 2 1, 3) := by decide +kernel
theorem dX12_ringOf_12 : decode cX12_ringOf 12 = .ok (.aload_n 0, 1) := by decide +kernel
theorem dX12_ringOf_13 : decode cX12_ringOf 13 = .ok (.getfield 35, 3) := by decide +kernel
theorem dX12_ringOf_16 : decode cX12_ringOf 16 = .ok (.iload_n 3, 1) := by decide +kernel
theorem dX12_ringOf_17 : decode cX12_ringOf 17 = .ok (.iaload, 1) := by decide +kernel
theorem dX12_ringOf_18 : decode cX12_ringOf 18 = .ok (.istore_n 3, 1) := by decide +kernel
theorem dX12_ringOf_19 : decode cX12_ringOf 19 = .ok (.goto (-15), 3) := by decide +kernel
theorem dX12_ringOf_22 : decode cX12_ringOf 22 = .ok (.iload_n 2, 1) := by decide +kernel
theorem dX12_ringOf_23 : decode cX12_ringOf 23 = .ok (.ireturn, 1) := by decide +kernel
def w_X12_ringOf_4 (I : mI) (o : Nat) (a1 : Int32) (post : Int32 → Prop) (v2 : Int32) (v3 : Int32) : Prop := ∀ ZZ : (Int32 → Int32 → Prop), (∀ (v2 : Int32) (v3 : Int32), ((v3 = (-1) → post v2) ∧ (¬ v3 = (-1) → ∀ x1, x1 = v2 + 1 → vp_in v3 640 ∧ ∀ x2, x2 = (I (o + 9) v3.toNatClampNeg) → ZZ x1 x2)) → ZZ v2 v3) → ZZ v2 v3
set_option maxRecDepth 100000 in
set_option maxHeartbeats 4000000 in
theorem s_X12_ringOf_4 {p : Program} {l : Launch} {e : Env} {s : State} {m : MethodId} {args : Array Value} {below : List Frame} {meth : Method} {c : Code} {D : va_G} {cA : Nat → ClassId} {Z : mZ} {bs : Ad} {n : Nat} {K : mK} {R : mR} {I : mI} {L : mL} (E : Ev p s m args c cX12_ringOf 4 RX12 D cA Z bs) (hr : meth.sig.returnType = (some .int)) (hlk : meth.locks = false) {o : Nat} {a1 : Int32} (ho : isX12 K R o) {post : Int32 → Prop} {v2 : Int32} {v3 : Int32} {H : Heap} {locs : List Loc} {ls : Array Slot} (hw : w_X12_ringOf_4 I o a1 post v2 v3) (hM : mm D cA bs (n, K, R, I, L) H) (hS : va_S (Ab bs) s.heap H locs) (hl : lv_has ls 4 [(0, .ref (ad bs o)), (2, .int v2), (3, .int v3)]) : W p l e ({ frames := 0, cells := 0, slots := 0, locals := 0 } : Room) s m args below meth c H locs 0 0 (MQ below (QI D cA bs (fun r u => u = (n, K, R, I, L) ∧ post r)) args s 0 0 (Ab bs)) (F0 m 4 ls []) := by
  have hx := E.1.1
  have hb := E.1.2.1
  refine hw (fun v2 v3 => ∀ (H : Heap) (locs : List Loc) (ls : Array Slot), mm D cA bs (n, K, R, I, L) H → va_S (Ab bs) s.heap H locs → lv_has ls 4 [(0, .ref (ad bs o)), (2, .int v2), (3, .int v3)] → W p l e ({ frames := 0, cells := 0, slots := 0, locals := 0 } : Room) s m args below meth c H locs 0 0 (MQ below (QI D cA bs (fun r u => u = (n, K, R, I, L) ∧ post r)) args s 0 0 (Ab bs)) (F0 m 4 ls [])) ?_ H locs ls hM hS hl
  clear hw hM hS hl
  intro v2 v3 hw H locs ls hM hS hl
  refine lv_iload_n hx hb dX12_ringOf_4 rfl (lv_at hl 2 rfl) ?_
  refine lv_iconst (v := (-1)) hx hb dX12_ringOf_5 (by decide) ?_
  refine lv_icmp_eq (tgt := 22) hx hb dX12_ringOf_6 (by decide) (fun cq => ?_) (fun cq => ?_)
  · have hw := hw.1 cq
    refine lv_iload_n hx hb dX12_ringOf_22 rfl (lv_at hl 1 rfl) ?_
    exact m_reti hx hb hr hlk hM hS ⟨rfl, hw⟩ dX12_ringOf_23
  · have hw := hw.2 cq
    obtain ⟨x1, ex1⟩ : ∃ y : Int32, y = v2 + 1 := ⟨_, rfl⟩
    have hw := hw x1 ex1
    refine lv_iinc (v := x1) (lv' := [(2, .int x1), (0, .ref (ad bs o)), (3, .int v3)]) hx hb dX12_ringOf_9 hl (k := 1) rfl (by rw [ex1]; rfl) (by decide) rfl (fun ls hl => ?_)
    refine lv_aload_n hx hb dX12_ringOf_12 rfl (lv_at hl 1 rfl) ?_
    refine m_getr E hM fs_X12_35 ho.1 (isO_at ho 8 rfl).1 dX12_ringOf_13 ?_
    refine lv_iload_n hx hb dX12_ringOf_16 rfl (lv_at hl 2 rfl) ?_
    obtain ⟨hv, hw⟩ := hw
    refine m_iald E hM (isO_at ho 8 rfl).2 hv dX12_ringOf_17 ?_
    refine lv_topi (fun x2 ex2 => ?_)
    have hw := hw x2 ex2
    refine lv_istore_n (lv' := [(3, .int x2), (2, .int x1), (0, .ref (ad bs o))]) hx hb dX12_ringOf_18 rfl hl (by decide) rfl (fun ls hl => ?_)
    refine lv_goto (tgt := 4) hx hb dX12_ringOf_19 (by decide) ?_
    exact hw H locs ls  hM hS (lv_sub hl [2, 1, 0] rfl)
def w_X12_ringOf (I : mI) (o : Nat) (a1 : Int32) (post : Int32 → Prop) : Prop := (w_X12_ringOf_4 I o a1 post) 0 a1
set_option maxRecDepth 100000 in
set_option maxHeartbeats 4000000 in
theorem c_X12_ringOf {l : Launch} {D : va_G} {cA : Nat → ClassId} {Z : mZ} {bs : Ad} {n : Nat} {K : mK} {R : mR} {I : mI} {L : mL} {o : Nat} {a1 : Int32} {post : Int32 → Prop} (ho : isX12 K R o) (hw : w_X12_ringOf I o a1 post) : Met l yX12_ringOf (.code yX12_ringOf cX12_ringOf 4 (some .int) :: gw) ({ frames := 0, cells := 0, slots := 0, locals := 0 } : Room) (PreM D cA Z bs (n, K, R, I, L) [.ref (ad bs o), .int a1]) (QI D cA bs (fun r u => u = (n, K, R, I, L) ∧ post r)) 0 0 (Ab bs) := by
  refine m_met (by decide) (Nat.le_of_ble_eq_true rfl) (fun p e s m below meth c ls E hr hlk hM hS hl => ?_)
  have E : Ev p s m _ c cX12_ringOf 4 RX12 D cA Z bs := E
  have hl : lv_has ls 4 [(0, .ref (ad bs o)), (1, .int a1)] := hl
  have hx := E.1.1
  have hb := E.1.2.1
  generalize hHe : s.heap = H at hM ⊢
  have hS : va_S (Ab bs) s.heap H [] := by rw [← hHe]; exact va_S.rf
  clear hHe
  refine lv_iconst (v := 0) hx hb dX12_ringOf_0 (by decide) ?_
  refine lv_istore_n (lv' := [(2, .int 0), (0, .ref (ad bs o)), (1, .int a1)]) hx hb dX12_ringOf_1 rfl hl (by decide) rfl (fun ls hl => ?_)
  refine lv_iload_n hx hb dX12_ringOf_2 rfl (lv_at hl 2 rfl) ?_
  refine lv_istore_n (lv' := [(3, .int a1), (2, .int 0), (0, .ref (ad bs o)), (1, .int a1)]) hx hb dX12_ringOf_3 rfl hl (by decide) rfl (fun ls hl => ?_)
  exact s_X12_ringOf_4 E hr hlk ho  hw hM hS (lv_sub hl [2, 1, 0] rfl)
theorem dX12_ring_0 : decode cX12_ring 0 = .ok (.aload_n 0, 1) := by decide +kernel
theorem dX12_ring_1 : decode cX12_ring 1 = .ok (.iload_n 1, 1) := by decide +kernel
theorem dX12_ring_2 : decode cX12_ring 2 = .ok (.invokevirtual 214, 3) := by decide +kernel
theorem dX12_ring_5 : decode cX12_ring 5 = .ok (.ifCond .ne 5, 3) := by decide +kernel
theorem dX12_ring_8 : decode cX12_ring 8 = .ok (.iconst (-1), 1) := by decide +kernel
theorem dX12_ring_9 : decode cX12_ring 9 = .ok (.ireturn, 1) := by decide +kernel
theorem dX12_ring_10 : decode cX12_ring 10 = .ok (.aload_n 0, 1) := by decide +kernel
theorem dX12_ring_11 : decode cX12_ring 11 = .ok (.invokevirtual 306, 3) := by decide +kernel
theorem dX12_ring_14 : decode cX12_ring 14 = .ok (.aload_n 0, 1) := by decide +kernel
theorem dX12_ring_15 : decode cX12_ring 15 = .ok (.getfield 262, 3) := by decide +kernel
theorem dX12_ring_18 : decode cX12_ring 18 = .ok (.ifCond .eq 17, 3) := by decide +kernel
theorem dX12_ring_21 : decode cX12_ring 21 = .ok (.iload_n 2, 1) := by decide +kernel
theorem dX12_ring_22 : decode cX12_ring 22 = .ok (.iconst (-1), 1) := by decide +kernel
theorem dX12_ring_23 : decode cX12_ring 23 = .ok (.aload_n 0, 1) := by decide +kernel
theorem dX12_ring_24 : decode cX12_ring 24 = .ok (.getfield 262, 3) := by decide +kernel
theorem dX12_ring_27 : decode cX12_ring 27 = .ok (.iconst 1, 1) := by decide +kernel
theorem dX12_ring_28 : decode cX12_ring 28 = .ok (.isub, 1) := by decide +kernel
theorem dX12_ring_29 : decode cX12_ring 29 = .ok (.invokestatic 133, 3) := by decide +kernel
theorem dX12_ring_32 : decode cX12_ring 32 = .ok (.ifCond .ne 5, 3) := by decide +kernel
theorem dX12_ring_35 : decode cX12_ring 35 = .ok (.iconst (-1), 1) := by decide +kernel
theorem dX12_ring_36 : decode cX12_ring 36 = .ok (.ireturn, 1) := by decide +kernel
theorem dX12_ring_37 : decode cX12_ring 37 = .ok (.iload_n 2, 1) := by decide +kernel
theorem dX12_ring_38 : decode cX12_ring 38 = .ok (.iconst (-1), 1) := by decide +kernel
theorem dX12_ring_39 : decode cX12_ring 39 = .ok (.if_icmp .eq 9, 3) := by decide +kernel
theorem dX12_ring_42 : decode cX12_ring 42 = .ok (.aload_n 0, 1) := by decide +kernel
theorem dX12_ring_43 : decode cX12_ring 43 = .ok (.iload_n 2, 1) := by decide +kernel
theorem dX12_ring_44 : decode cX12_ring 44 = .ok (.invokevirtual 418, 3) := by decide +kernel
theorem dX12_ring_47 : decode cX12_ring 47 = .ok (.ireturn, 1) := by decide +kernel
theorem dX12_ring_48 : decode cX12_ring 48 = .ok (.iconst 0, 1) := by decide +kernel
theorem dX12_ring_49 : decode cX12_ring 49 = .ok (.istore_n 3, 1) := by decide +kernel
theorem dX12_ring_50 : decode cX12_ring 50 = .ok (.iconst 0, 1) := by decide +kernel
theorem dX12_ring_51 : decode cX12_ring 51 = .ok (.istore 4, 2) := by decide +kernel
theorem dX12_ring_53 : decode cX12_ring 53 = .ok (.iload 4, 2) := by decide +kernel
theorem dX12_ring_55 : decode cX12_ring 55 = .ok (.aload_n 0, 1) := by decide +kernel
theorem dX12_ring_56 : decode cX12_ring 56 = .ok (.getfield 262, 3) := by decide +kernel
theorem dX12_ring_59 : decode cX12_ring 59 = .ok (.if_icmp .ge 30, 3) := by decide +kernel
theorem dX12_ring_62 : decode cX12_ring 62 = .ok (.aload_n 0, 1) := by decide +kernel
theorem dX12_ring_63 : decode cX12_ring 63 = .ok (.iload 4, 2) := by decide +kernel
theorem dX12_ring_65 : decode cX12_ring 65 = .ok (.invokevirtual 418, 3) := by decide +kernel
theorem dX12_ring_68 : decode cX12_ring 68 = .ok (.iload_n 3, 1) := by decide +kernel
theorem dX12_ring_69 : decode cX12_ring 69 = .ok (.if_icmp .le 12, 3) := by decide +kernel
theorem dX12_ring_72 : decode cX12_ring 72 = .ok (.aload_n 0, 1) := by decide +kernel
theorem dX12_ring_73 : decode cX12_ring 73 = .ok (.iload 4, 2) := by decide +kernel
theorem dX12_ring_75 : decode cX12_ring 75 = .ok (.invokevirtual 418, 3) := by decide +kernel
theorem dX12_ring_78 : decode cX12_ring 78 = .ok (.goto 4, 3) := by decide +kernel
theorem dX12_ring_81 : decode cX12_ring 81 = .ok (.iload_n 3, 1) := by decide +kernel
theorem dX12_ring_82 : decode cX12_ring 82 = .ok (.istore_n 3, 1) := by decide +kernel
theorem dX12_ring_83 : decode cX12_ring 83 = .ok (.iinc 4 1, 3) := by decide +kernel
theorem dX12_ring_86 : decode cX12_ring 86 = .ok (.goto (-33), 3) := by decide +kernel
theorem dX12_ring_89 : decode cX12_ring 89 = .ok (.iload_n 3, 1) := by decide +kernel
theorem dX12_ring_90 : decode cX12_ring 90 = .ok (.ireturn, 1) := by decide +kernel
def w_X12_ring_53 (o : Nat) (a1 : Int32) (a2 : Int32) (post : Int32 → mI → Prop) (I : mI) (v3 : Int32) (v4 : Int32) : Prop := ∀ ZZ : (mI → Int32 → Int32 → Prop), (∀ (I : mI) (v3 : Int32) (v4 : Int32), (((I o 25) ≤ v4 → post v3 I) ∧ (¬ (I o 25) ≤ v4 → w_X12_ringOf I o v4 (fun r6 => (r6 ≤ v3 → ∀ x7, x7 = v4 + 1 → ZZ I v3 x7) ∧ (¬ r6 ≤ v3 → w_X12_ringOf I o v4 (fun r8 => ∀ x9, x9 = v4 + 1 → ZZ I r8 x9))))) → ZZ I v3 v4) → ZZ I v3 v4
set_option maxRecDepth 100000 in
set_option maxHeartbeats 4000000 in
theorem s_X12_ring_53 {p : Program} {l : Launch} {e : Env} {s : State} {m : MethodId} {args : Array Value} {below : List Frame} {meth : Method} {c : Code} {D : va_G} {cA : Nat → ClassId} {Z : mZ} {bs : Ad} {n : Nat} {K : mK} {R : mR} {L : mL} (E : Ev p s m args c cX12_ring 5 RX12 D cA Z bs) (hr : meth.sig.returnType = (some .int)) (hlk : meth.locks = false) {o : Nat} {a1 : Int32} {a2 : Int32} (ho : isX12 K R o) {post : Int32 → mI → Prop} {I : mI} {v3 : Int32} {v4 : Int32} {H : Heap} {locs : List Loc} {ls : Array Slot} (hw : w_X12_ring_53 o a1 a2 post I v3 v4) (hM : mm D cA bs (n, K, R, I, L) H) (hS : va_S (Ab bs) s.heap H locs) (hl : lv_has ls 5 [(0, .ref (ad bs o)), (3, .int v3), (4, .int v4)]) : W p l e ({ frames := 7, cells := 0, slots := 0, locals := 159 } : Room) s m args below meth c H locs 0 0 (MQ below (QI D cA bs (fun r u => ∃ I', u = (n, K, R, I', L) ∧ post r I')) args s 0 0 (Ab bs)) (F0 m 53 ls []) := by
  have hx := E.1.1
  have hb := E.1.2.1
  refine hw (fun I v3 v4 => ∀ (H : Heap) (locs : List Loc) (ls : Array Slot), mm D cA bs (n, K, R, I, L) H → va_S (Ab bs) s.heap H locs → lv_has ls 5 [(0, .ref (ad bs o)), (3, .int v3), (4, .int v4)] → W p l e ({ frames := 7, cells := 0, slots := 0, locals := 159 } : Room) s m args below meth c H locs 0 0 (MQ below (QI D cA bs (fun r u => ∃ I', u = (n, K, R, I', L) ∧ post r I')) args s 0 0 (Ab bs)) (F0 m 53 ls [])) ?_ H locs ls hM hS hl
  clear hw hM hS hl
  intro I v3 v4 hw H locs ls hM hS hl
  refine lv_iload hx hb dX12_ring_53 (lv_at hl 2 rfl) ?_
  refine lv_aload_n hx hb dX12_ring_55 rfl (lv_at hl 0 rfl) ?_
  refine m_geti E hM fs_X12_262 ho.1 dX12_ring_56 ?_
  refine lv_icmp_ge (tgt := 89) hx hb dX12_ring_59 (by decide) (fun cq => ?_) (fun cq => ?_)
  · have hw := hw.1 cq
    refine lv_iload_n hx hb dX12_ring_89 rfl (lv_at hl 1 rfl) ?_
    exact m_reti hx hb hr hlk hM hS ⟨_, rfl, hw⟩ dX12_ring_90
  · have hw := hw.2 cq
    refine lv_aload_n hx hb dX12_ring_62 rfl (lv_at hl 0 rfl) ?_
    refine lv_iload hx hb dX12_ring_63 (lv_at hl 2 rfl) ?_
    refine m_ci (m_runV E hM hS cs_X12_418 ho.1 (by decide) rfl rfl (c_X12_ringOf ho hw) rfl rfl ⟨Nat.le_of_ble_eq_true rfl, Nat.le_of_ble_eq_true rfl⟩ rfl hl.1 rfl (Nat.le_of_ble_eq_true rfl) dX12_ring_65 ⟨Nat.le_of_ble_eq_true rfl, Nat.le_of_ble_eq_true rfl⟩) hS (fun r6 u H locs hp hM hS => ?_)
    obtain ⟨rfl, hw⟩ := hp
    refine lv_iload_n hx hb dX12_ring_68 rfl (lv_at hl 1 rfl) ?_
    refine lv_icmp_le (tgt := 81) hx hb dX12_ring_69 (by decide) (fun cq => ?_) (fun cq => ?_)
    · have hw := hw.1 cq
      refine lv_iload_n hx hb dX12_ring_81 rfl (lv_at hl 1 rfl) ?_
      refine lv_istore_n (lv' := [(3, .int v3), (0, .ref (ad bs o)), (4, .int v4)]) hx hb dX12_ring_82 rfl hl (by decide) rfl (fun ls hl => ?_)
      obtain ⟨x7, ex7⟩ : ∃ y : Int32, y = v4 + 1 := ⟨_, rfl⟩
      have hw := hw x7 ex7
      refine lv_iinc (v := x7) (lv' := [(4, .int x7), (3, .int v3), (0, .ref (ad bs o))]) hx hb dX12_ring_83 hl (k := 2) rfl (by rw [ex7]; rfl) (by decide) rfl (fun ls hl => ?_)
      refine lv_goto (tgt := 53) hx hb dX12_ring_86 (by decide) ?_
      exact hw H locs ls  hM hS (lv_sub hl [2, 1, 0] rfl)
    · have hw := hw.2 cq
      refine lv_aload_n hx hb dX12_ring_72 rfl (lv_at hl 0 rfl) ?_
      refine lv_iload hx hb dX12_ring_73 (lv_at hl 2 rfl) ?_
      refine m_ci (m_runV E hM hS cs_X12_418 ho.1 (by decide) rfl rfl (c_X12_ringOf ho hw) rfl rfl ⟨Nat.le_of_ble_eq_true rfl, Nat.le_of_ble_eq_true rfl⟩ rfl hl.1 rfl (Nat.le_of_ble_eq_true rfl) dX12_ring_75 ⟨Nat.le_of_ble_eq_true rfl, Nat.le_of_ble_eq_true rfl⟩) hS (fun r8 u H locs hp hM hS => ?_)
      obtain ⟨rfl, hw⟩ := hp
      refine lv_goto (tgt := 82) hx hb dX12_ring_78 (by decide) ?_
      refine lv_istore_n (lv' := [(3, .int r8), (0, .ref (ad bs o)), (4, .int v4)]) hx hb dX12_ring_82 rfl hl (by decide) rfl (fun ls hl => ?_)
      obtain ⟨x9, ex9⟩ : ∃ y : Int32, y = v4 + 1 := ⟨_, rfl⟩
      have hw := hw x9 ex9
      refine lv_iinc (v := x9) (lv' := [(4, .int x9), (3, .int r8), (0, .ref (ad bs o))]) hx hb dX12_ring_83 hl (k := 2) rfl (by rw [ex9]; rfl) (by decide) rfl (fun ls hl => ?_)
      refine lv_goto (tgt := 53) hx hb dX12_ring_86 (by decide) ?_
      exact hw H locs ls  hM hS (lv_sub hl [2, 1, 0] rfl)
def w_X12_ring (I : mI) (o : Nat) (a1 : Int32) (a2 : Int32) (post : Int32 → mI → Prop) : Prop := w_X12_isHouse I o a1 (fun b1 I2 => (b1 = true → w_X12_runs I2 o (fun I3 => ((I3 o 25) = 0 → post (-1) I3) ∧ (¬ (I3 o 25) = 0 → w_X12_isIn a2 (-1) ((I3 o 25) - 1) (fun b4 => (b4 = true → (a2 = (-1) → (w_X12_ring_53 o a1 a2 post) I3 0 0) ∧ (¬ a2 = (-1) → w_X12_ringOf I3 o a2 (fun r5 => post r5 I3))) ∧ (b4 = false → post (-1) I3))))) ∧ (b1 = false → post (-1) I2))
set_option maxRecDepth 100000 in
set_option maxHeartbeats 4000000 in
theorem c_X12_ring {l : Launch} {D : va_G} {cA : Nat → ClassId} {Z : mZ} {bs : Ad} {n : Nat} {K : mK} {R : mR} {I : mI} {L : mL} {o : Nat} {a1 : Int32} {a2 : Int32} {post : Int32 → mI → Prop} (ho : isX12 K R o) (hw : w_X12_ring I o a1 a2 post) : Met l yX12_ring (.code yX12_ring cX12_ring 5 (some .int) :: gw) ({ frames := 7, cells := 0, slots := 0, locals := 159 } : Room) (PreM D cA Z bs (n, K, R, I, L) [.ref (ad bs o), .int a1, .int a2]) (QI D cA bs (fun r u => ∃ I', u = (n, K, R, I', L) ∧ post r I')) 0 0 (Ab bs) := by
  refine m_met (by decide) (Nat.le_of_ble_eq_true rfl) (fun p e s m below meth c ls E hr hlk hM hS hl => ?_)
  have E : Ev p s m _ c cX12_ring 5 RX12 D cA Z bs := E
  have hl : lv_has ls 5 [(0, .ref (ad bs o)), (1, .int a1), (2, .int a2)] := hl
  have hx := E.1.1
  have hb := E.1.2.1
  generalize hHe : s.heap = H at hM ⊢
  have hS : va_S (Ab bs) s.heap H [] := by rw [← hHe]; exact va_S.rf
  clear hHe
  refine lv_aload_n hx hb dX12_ring_0 rfl (lv_at hl 0 rfl) ?_
  refine lv_iload_n hx hb dX12_ring_1 rfl (lv_at hl 1 rfl) ?_
  refine m_ci (m_runV E hM hS cs_X12_214 ho.1 (by decide) rfl rfl (c_X12_isHouse ho hw) rfl rfl ⟨Nat.le_of_ble_eq_true rfl, Nat.le_of_ble_eq_true rfl⟩ rfl hl.1 rfl (Nat.le_of_ble_eq_true rfl) dX12_ring_2 ⟨Nat.le_of_ble_eq_true rfl, Nat.le_of_ble_eq_true rfl⟩) hS (fun r9 u H locs hp hM hS => ?_)
  obtain ⟨b1, rfl, I2, rfl, hw⟩ := hp
  refine lv_if_ne (tgt := 10) hx hb dX12_ring_5 (by decide) (fun cq => ?_) (fun cq => ?_)
  · have hw := hw.1 (bI_t cq)
    refine lv_aload_n hx hb dX12_ring_10 rfl (lv_at hl 0 rfl) ?_
    refine m_cv (m_runV E hM hS cs_X12_306 ho.1 (by decide) rfl rfl (c_X12_runs ho hw) rfl rfl ⟨Nat.le_of_ble_eq_true rfl, Nat.le_of_ble_eq_true rfl⟩ rfl hl.1 rfl (Nat.le_of_ble_eq_true rfl) dX12_ring_11 ⟨Nat.le_of_ble_eq_true rfl, Nat.le_of_ble_eq_true rfl⟩) hS (fun u H locs hp hM hS => ?_)
    obtain ⟨I3, rfl, hw⟩ := hp
    refine lv_aload_n hx hb dX12_ring_14 rfl (lv_at hl 0 rfl) ?_
    refine m_geti E hM fs_X12_262 ho.1 dX12_ring_15 ?_
    refine lv_if_eq (tgt := 35) hx hb dX12_ring_18 (by decide) (fun cq => ?_) (fun cq => ?_)
    · have hw := hw.1 cq
      refine lv_iconst (v := (-1)) hx hb dX12_ring_35 (by decide) ?_
      exact m_reti hx hb hr hlk hM hS ⟨_, rfl, hw⟩ dX12_ring_36
    · have hw := hw.2 cq
      refine lv_iload_n hx hb dX12_ring_21 rfl (lv_at hl 2 rfl) ?_
      refine lv_iconst (v := (-1)) hx hb dX12_ring_22 (by decide) ?_
      refine lv_aload_n hx hb dX12_ring_23 rfl (lv_at hl 0 rfl) ?_
      refine m_geti E hM fs_X12_262 ho.1 dX12_ring_24 ?_
      refine lv_iconst (v := 1) hx hb dX12_ring_27 (by decide) ?_
      refine lv_isub hx hb dX12_ring_28 ?_
      refine m_ci (m_runS E hM hS cs_X12_133 (c_X12_isIn  hw) rfl rfl ⟨Nat.le_of_ble_eq_true rfl, Nat.le_of_ble_eq_true rfl⟩ rfl hl.1 rfl (Nat.le_of_ble_eq_true rfl) dX12_ring_29 ⟨Nat.le_of_ble_eq_true rfl, Nat.le_of_ble_eq_true rfl⟩) hS (fun r9 u H locs hp hM hS => ?_)
      obtain ⟨b4, rfl, rfl, hw⟩ := hp
      refine lv_if_ne (tgt := 37) hx hb dX12_ring_32 (by decide) (fun cq => ?_) (fun cq => ?_)
      · have hw := hw.1 (bI_t cq)
        refine lv_iload_n hx hb dX12_ring_37 rfl (lv_at hl 2 rfl) ?_
        refine lv_iconst (v := (-1)) hx hb dX12_ring_38 (by decide) ?_
        refine lv_icmp_eq (tgt := 48) hx hb dX12_ring_39 (by decide) (fun cq => ?_) (fun cq => ?_)
        · have hw := hw.1 cq
          refine lv_iconst (v := 0) hx hb dX12_ring_48 (by decide) ?_
          refine lv_istore_n (lv' := [(3, .int 0), (0, .ref (ad bs o)), (1, .int a1), (2, .int a2)]) hx hb dX12_ring_49 rfl hl (by decide) rfl (fun ls hl => ?_)
          refine lv_iconst (v := 0) hx hb dX12_ring_50 (by decide) ?_
          refine lv_istore (lv' := [(4, .int 0), (3, .int 0), (0, .ref (ad bs o)), (1, .int a1), (2, .int a2)]) hx hb dX12_ring_51 hl (by decide) rfl (fun ls hl => ?_)
          exact s_X12_ring_53 E hr hlk ho  hw hM hS (lv_sub hl [2, 1, 0] rfl)
        · have hw := hw.2 cq
          refine lv_aload_n hx hb dX12_ring_42 rfl (lv_at hl 0 rfl) ?_
          refine lv_iload_n hx hb dX12_ring_43 rfl (lv_at hl 2 rfl) ?_
          refine m_ci (m_runV E hM hS cs_X12_418 ho.1 (by decide) rfl rfl (c_X12_ringOf ho hw) rfl rfl ⟨Nat.le_of_ble_eq_true rfl, Nat.le_of_ble_eq_true rfl⟩ rfl hl.1 rfl (Nat.le_of_ble_eq_true rfl) dX12_ring_44 ⟨Nat.le_of_ble_eq_true rfl, Nat.le_of_ble_eq_true rfl⟩) hS (fun r5 u H locs hp hM hS => ?_)
          obtain ⟨rfl, hw⟩ := hp
          exact m_reti hx hb hr hlk hM hS ⟨_, rfl, hw⟩ dX12_ring_47
      · have hw := hw.2 (bI_f cq)
        refine lv_iconst (v := (-1)) hx hb dX12_ring_35 (by decide) ?_
        exact m_reti hx hb hr hlk hM hS ⟨_, rfl, hw⟩ dX12_ring_36
  · have hw := hw.2 (bI_f cq)
    refine lv_iconst (v := (-1)) hx hb dX12_ring_8 (by decide) ?_
    exact m_reti hx hb hr hlk hM hS ⟨_, rfl, hw⟩ dX12_ring_9
theorem dX12_isPass_0 : decode cX12_isPass 0 = .ok (.aload_n 0, 1) := by decide +kernel
theorem dX12_isPass_1 : decode cX12_isPass 1 = .ok (.getfield 44, 3) := by decide +kernel
theorem dX12_isPass_4 : decode cX12_isPass 4 = .ok (.bipush 100, 2) := by decide +kernel
theorem dX12_isPass_6 : decode cX12_isPass 6 = .ok (.iload_n 1, 1) := by decide +kernel
theorem dX12_isPass_7 : decode cX12_isPass 7 = .ok (.imul, 1) := by decide +kernel
theorem dX12_isPass_8 : decode cX12_isPass 8 = .ok (.iload_n 3, 1) := by decide +kernel
theorem dX12_isPass_9 : decode cX12_isPass 9 = .ok (.iadd, 1) := by decide +kernel
theorem dX12_isPass_10 : decode cX12_isPass 10 = .ok (.iconst 1, 1) := by decide +kernel
theorem dX12_isPass_11 : decode cX12_isPass 11 = .ok (.isub, 1) := by decide +kernel
theorem dX12_isPass_12 : decode cX12_isPass 12 = .ok (.iaload, 1) := by decide +kernel
theorem dX12_isPass_13 : decode cX12_isPass 13 = .ok (.istore 4, 2) := by decide +kernel
theorem dX12_isPass_15 : decode cX12_isPass 15 = .ok (.aload_n 0, 1) := by decide +kernel
theorem dX12_isPass_16 : decode cX12_isPass 16 = .ok (.getfield 44, 3) := by decide +kernel
theorem dX12_isPass_19 : decode cX12_isPass 19 = .ok (.bipush 100, 2) := by decide +kernel
theorem dX12_isPass_21 : decode cX12_isPass 21 = .ok (.iload_n 2, 1) := by decide +kernel
theorem dX12_isPass_22 : decode cX12_isPass 22 = .ok (.imul, 1) := by decide +kernel
theorem dX12_isPass_23 : decode cX12_isPass 23 = .ok (.iload_n 3, 1) := by decide +kernel
theorem dX12_isPass_24 : decode cX12_isPass 24 = .ok (.iadd, 1) := by decide +kernel
theorem dX12_isPass_25 : decode cX12_isPass 25 = .ok (.iconst 1, 1) := by decide +kernel
theorem dX12_isPass_26 : decode cX12_isPass 26 = .ok (.isub, 1) := by decide +kernel
theorem dX12_isPass_27 : decode cX12_isPass 27 = .ok (.iaload, 1) := by decide +kernel
theorem dX12_isPass_28 : decode cX12_isPass 28 = .ok (.istore 5, 2) := by decide +kernel
theorem dX12_isPass_30 : decode cX12_isPass 30 = .ok (.aload_n 0, 1) := by decide +kernel
theorem dX12_isPass_31 : decode cX12_isPass 31 = .ok (.getfield 44, 3) := by decide +kernel
theorem dX12_isPass_34 : decode cX12_isPass 34 = .ok (.bipush 100, 2) := by decide +kernel
theorem dX12_isPass_36 : decode cX12_isPass 36 = .ok (.iload_n 1, 1) := by decide +kernel
theorem dX12_isPass_37 : decode cX12_isPass 37 = .ok (.imul, 1) := by decide +kernel
theorem dX12_isPass_38 : decode cX12_isPass 38 = .ok (.iload_n 3, 1) := by decide +kernel
theorem dX12_isPass_39 : decode cX12_isPass 39 = .ok (.iadd, 1) := by decide +kernel
theorem dX12_isPass_40 : decode cX12_isPass 40 = .ok (.iaload, 1) := by decide +kernel
theorem dX12_isPass_41 : decode cX12_isPass 41 = .ok (.istore 6, 2) := by decide +kernel
theorem dX12_isPass_43 : decode cX12_isPass 43 = .ok (.aload_n 0, 1) := by decide +kernel
theorem dX12_isPass_44 : decode cX12_isPass 44 = .ok (.getfield 44, 3) := by decide +kernel
theorem dX12_isPass_47 : decode cX12_isPass 47 = .ok (.bipush 100, 2) := by decide +kernel
theorem dX12_isPass_49 : decode cX12_isPass 49 = .ok (.iload_n 2, 1) := by decide +kernel
theorem dX12_isPass_50 : decode cX12_isPass 50 = .ok (.imul, 1) := by decide +kernel
theorem dX12_isPass_51 : decode cX12_isPass 51 = .ok (.iload_n 3, 1) := by decide +kernel
theorem dX12_isPass_52 : decode cX12_isPass 52 = .ok (.iadd, 1) := by decide +kernel
theorem dX12_isPass_53 : decode cX12_isPass 53 = .ok (.iaload, 1) := by decide +kernel
theorem dX12_isPass_54 : decode cX12_isPass 54 = .ok (.istore 7, 2) := by decide +kernel
theorem dX12_isPass_56 : decode cX12_isPass 56 = .ok (.iload 4, 2) := by decide +kernel
theorem dX12_isPass_58 : decode cX12_isPass 58 = .ok (.iconst (-1), 1) := by decide +kernel
theorem dX12_isPass_59 : decode cX12_isPass 59 = .ok (.if_icmp .eq 41, 3) := by decide +kernel
theorem dX12_isPass_62 : decode cX12_isPass 62 = .ok (.iload 5, 2) := by decide +kernel
theorem dX12_isPass_64 : decode cX12_isPass 64 = .ok (.iconst (-1), 1) := by decide +kernel
theorem dX12_isPass_65 : decode cX12_isPass 65 = .ok (.if_icmp .eq 35, 3) := by decide +kernel
theorem dX12_isPass_68 : decode cX12_isPass 68 = .ok (.iload 4, 2) := by decide +kernel
theorem dX12_isPass_70 : decode cX12_isPass 70 = .ok (.iload 5, 2) := by decide +kernel
theorem dX12_isPass_72 : decode cX12_isPass 72 = .ok (.if_icmp .gt 10, 3) := by decide +kernel
theorem dX12_isPass_75 : decode cX12_isPass 75 = .ok (.iload 6, 2) := by decide +kernel
theorem dX12_isPass_77 : decode cX12_isPass 77 = .ok (.iload 7, 2) := by decide +kernel
theorem dX12_isPass_79 : decode cX12_isPass 79 = .ok (.if_icmp .gt 17, 3) := by decide +kernel
theorem dX12_isPass_82 : decode cX12_isPass 82 = .ok (.iload 5, 2) := by decide +kernel
theorem dX12_isPass_84 : decode cX12_isPass 84 = .ok (.iload 4, 2) := by decide +kernel
theorem dX12_isPass_86 : decode cX12_isPass 86 = .ok (.if_icmp .gt 14, 3) := by decide +kernel
theorem dX12_isPass_89 : decode cX12_isPass 89 = .ok (.iload 7, 2) := by decide +kernel
theorem dX12_isPass_91 : decode cX12_isPass 91 = .ok (.iload 6, 2) := by decide +kernel
theorem dX12_isPass_93 : decode cX12_isPass 93 = .ok (.if_icmp .le 7, 3) := by decide +kernel
theorem dX12_isPass_96 : decode cX12_isPass 96 = .ok (.iconst 1, 1) := by decide +kernel
theorem dX12_isPass_97 : decode cX12_isPass 97 = .ok (.goto 4, 3) := by decide +kernel
theorem dX12_isPass_100 : decode cX12_isPass 100 = .ok (.iconst 0, 1) := by decide +kernel
theorem dX12_isPass_101 : decode cX12_isPass 101 = .ok (.ireturn, 1) := by decide +kernel
def w_X12_isPass_82 (I : mI) (o : Nat) (a1 : Int32) (a2 : Int32) (a3 : Int32) (post : Bool → Prop) (v4 : Int32) (v5 : Int32) (v6 : Int32) (v7 : Int32) : Prop := (v4 < v5 → post false) ∧ (¬ v4 < v5 → (v7 ≤ v6 → post false) ∧ (¬ v7 ≤ v6 → post true))
set_option maxRecDepth 100000 in
set_option maxHeartbeats 4000000 in
theorem s_X12_isPass_82 {p : Program} {l : Launch} {e : Env} {s : State} {m : MethodId} {args : Array Value} {below : List Frame} {meth : Method} {c : Code} {D : va_G} {cA : Nat → ClassId} {Z : mZ} {bs : Ad} {n : Nat} {K : mK} {R : mR} {I : mI} {L : mL} (E : Ev p s m args c cX12_isPass 8 RX12 D cA Z bs) (hr : meth.sig.returnType = (some .boolean)) (hlk : meth.locks = false) {o : Nat} {a1 : Int32} {a2 : Int32} {a3 : Int32} (ho : isX12 K R o) {post : Bool → Prop} {v4 : Int32} {v5 : Int32} {v6 : Int32} {v7 : Int32} {H : Heap} {locs : List Loc} {ls : Array Slot} (hw : w_X12_isPass_82 I o a1 a2 a3 post v4 v5 v6 v7) (hM : mm D cA bs (n, K, R, I, L) H) (hS : va_S (Ab bs) s.heap H locs) (hl : lv_has ls 8 [(4, .int v4), (5, .int v5), (6, .int v6), (7, .int v7)]) : W p l e ({ frames := 0, cells := 0, slots := 0, locals := 0 } : Room) s m args below meth c H locs 0 0 (MQ below (QI D cA bs (fun r u => ∃ b, r = bI b ∧ u = (n, K, R, I, L) ∧ post b)) args s 0 0 (Ab bs)) (F0 m 82 ls []) := by
  have hx := E.1.1
  have hb := E.1.2.1
  refine lv_iload hx hb dX12_isPass_82 (lv_at hl 1 rfl) ?_
  refine lv_iload hx hb dX12_isPass_84 (lv_at hl 0 rfl) ?_
  refine lv_icmp_gt (tgt := 100) hx hb dX12_isPass_86 (by decide) (fun cq => ?_) (fun cq => ?_)
  · have hw := hw.1 cq
    refine lv_iconst (v := 0) hx hb dX12_isPass_100 (by decide) ?_
    exact m_retz hx hb hr hlk (Or.inl rfl) hM hS ⟨false, rfl, rfl, hw⟩ dX12_isPass_101
  · have hw := hw.2 cq
    refine lv_iload hx hb dX12_isPass_89 (lv_at hl 3 rfl) ?_
    refine lv_iload hx hb dX12_isPass_91 (lv_at hl 2 rfl) ?_
    refine lv_icmp_le (tgt := 100) hx hb dX12_isPass_93 (by decide) (fun cq => ?_) (fun cq => ?_)
    · have hw := hw.1 cq
      refine lv_iconst (v := 0) hx hb dX12_isPass_100 (by decide) ?_
      exact m_retz hx hb hr hlk (Or.inl rfl) hM hS ⟨false, rfl, rfl, hw⟩ dX12_isPass_101
    · have hw := hw.2 cq
      refine lv_iconst (v := 1) hx hb dX12_isPass_96 (by decide) ?_
      refine lv_goto (tgt := 101) hx hb dX12_isPass_97 (by decide) ?_
      exact m_retz hx hb hr hlk (Or.inr rfl) hM hS ⟨true, rfl, rfl, hw⟩ dX12_isPass_101
def w_X12_isPass (I : mI) (o : Nat) (a1 : Int32) (a2 : Int32) (a3 : Int32) (post : Bool → Prop) : Prop := vp_in (((100 * a1) + a3) - 1) 600 ∧ ∀ x1, x1 = (I (o + 12) (((100 * a1) + a3) - 1).toNatClampNeg) → vp_in (((100 * a2) + a3) - 1) 600 ∧ ∀ x2, x2 = (I (o + 12) (((100 * a2) + a3) - 1).toNatClampNeg) → vp_in ((100 * a1) + a3) 600 ∧ ∀ x3, x3 = (I (o + 12) ((100 * a1) + a3).toNatClampNeg) → vp_in ((100 * a2) + a3) 600 ∧ ∀ x4, x4 = (I (o + 12) ((100 * a2) + a3).toNatClampNeg) → (x1 = (-1) → post false) ∧ (¬ x1 = (-1) → (x2 = (-1) → post false) ∧ (¬ x2 = (-1) → (x2 < x1 → (w_X12_isPass_82 I o a1 a2 a3 post) x1 x2 x3 x4) ∧ (¬ x2 < x1 → (x4 < x3 → post true) ∧ (¬ x4 < x3 → (w_X12_isPass_82 I o a1 a2 a3 post) x1 x2 x3 x4))))
set_option maxRecDepth 100000 in
set_option maxHeartbeats 4000000 in
theorem c_X12_isPass {l : Launch} {D : va_G} {cA : Nat → ClassId} {Z : mZ} {bs : Ad} {n : Nat} {K : mK} {R : mR} {I : mI} {L : mL} {o : Nat} {a1 : Int32} {a2 : Int32} {a3 : Int32} {post : Bool → Prop} (ho : isX12 K R o) (hw : w_X12_isPass I o a1 a2 a3 post) : Met l yX12_isPass (.code yX12_isPass cX12_isPass 8 (some .boolean) :: gw) ({ frames := 0, cells := 0, slots := 0, locals := 0 } : Room) (PreM D cA Z bs (n, K, R, I, L) [.ref (ad bs o), .int a1, .int a2, .int a3]) (QI D cA bs (fun r u => ∃ b, r = bI b ∧ u = (n, K, R, I, L) ∧ post b)) 0 0 (Ab bs) := by
  refine m_met (by decide) (Nat.le_of_ble_eq_true rfl) (fun p e s m below meth c ls E hr hlk hM hS hl => ?_)
  have E : Ev p s m _ c cX12_isPass 8 RX12 D cA Z bs := E
  have hl : lv_has ls 8 [(0, .ref (ad bs o)), (1, .int a1), (2, .int a2), (3, .int a3)] := hl
  have hx := E.1.1
  have hb := E.1.2.1
  generalize hHe : s.heap = H at hM ⊢
  have hS : va_S (Ab bs) s.heap H [] := by rw [← hHe]; exact va_S.rf
  clear hHe
  refine lv_aload_n hx hb dX12_isPass_0 rfl (lv_at hl 0 rfl) ?_
  refine m_getr E hM fs_X12_44 ho.1 (isO_at ho 11 rfl).1 dX12_isPass_1 ?_
  refine lv_bipush (v := 100) hx hb dX12_isPass_4 (by decide) ?_
  refine lv_iload_n hx hb dX12_isPass_6 rfl (lv_at hl 1 rfl) ?_
  refine lv_imul hx hb dX12_isPass_7 ?_
  refine lv_iload_n hx hb dX12_isPass_8 rfl (lv_at hl 3 rfl) ?_
  refine lv_iadd hx hb dX12_isPass_9 ?_
  refine lv_iconst (v := 1) hx hb dX12_isPass_10 (by decide) ?_
  refine lv_isub hx hb dX12_isPass_11 ?_
  obtain ⟨hv, hw⟩ := hw
  refine m_iald E hM (isO_at ho 11 rfl).2 hv dX12_isPass_12 ?_
  refine lv_topi (fun x1 ex1 => ?_)
  have hw := hw x1 ex1
  refine lv_istore (lv' := [(4, .int x1), (0, .ref (ad bs o)), (1, .int a1), (2, .int a2), (3, .int a3)]) hx hb dX12_isPass_13 hl (by decide) rfl (fun ls hl => ?_)
  refine lv_aload_n hx hb dX12_isPass_15 rfl (lv_at hl 1 rfl) ?_
  refine m_getr E hM fs_X12_44 ho.1 (isO_at ho 11 rfl).1 dX12_isPass_16 ?_
  refine lv_bipush (v := 100) hx hb dX12_isPass_19 (by decide) ?_
  refine lv_iload_n hx hb dX12_isPass_21 rfl (lv_at hl 3 rfl) ?_
  refine lv_imul hx hb dX12_isPass_22 ?_
  refine lv_iload_n hx hb dX12_isPass_23 rfl (lv_at hl 4 rfl) ?_
  refine lv_iadd hx hb dX12_isPass_24 ?_
  refine lv_iconst (v := 1) hx hb dX12_isPass_25 (by decide) ?_
  refine lv_isub hx hb dX12_isPass_26 ?_
  obtain ⟨hv, hw⟩ := hw
  refine m_iald E hM (isO_at ho 11 rfl).2 hv dX12_isPass_27 ?_
  refine lv_topi (fun x2 ex2 => ?_)
  have hw := hw x2 ex2
  refine lv_istore (lv' := [(5, .int x2), (4, .int x1), (0, .ref (ad bs o)), (1, .int a1), (2, .int a2), (3, .int a3)]) hx hb dX12_isPass_28 hl (by decide) rfl (fun ls hl => ?_)
  refine lv_aload_n hx hb dX12_isPass_30 rfl (lv_at hl 2 rfl) ?_
  refine m_getr E hM fs_X12_44 ho.1 (isO_at ho 11 rfl).1 dX12_isPass_31 ?_
  refine lv_bipush (v := 100) hx hb dX12_isPass_34 (by decide) ?_
  refine lv_iload_n hx hb dX12_isPass_36 rfl (lv_at hl 3 rfl) ?_
  refine lv_imul hx hb dX12_isPass_37 ?_
  refine lv_iload_n hx hb dX12_isPass_38 rfl (lv_at hl 5 rfl) ?_
  refine lv_iadd hx hb dX12_isPass_39 ?_
  obtain ⟨hv, hw⟩ := hw
  refine m_iald E hM (isO_at ho 11 rfl).2 hv dX12_isPass_40 ?_
  refine lv_topi (fun x3 ex3 => ?_)
  have hw := hw x3 ex3
  refine lv_istore (lv' := [(6, .int x3), (5, .int x2), (4, .int x1), (0, .ref (ad bs o)), (1, .int a1), (2, .int a2), (3, .int a3)]) hx hb dX12_isPass_41 hl (by decide) rfl (fun ls hl => ?_)
  refine lv_aload_n hx hb dX12_isPass_43 rfl (lv_at hl 3 rfl) ?_
  refine m_getr E hM fs_X12_44 ho.1 (isO_at ho 11 rfl).1 dX12_isPass_44 ?_
  refine lv_bipush (v := 100) hx hb dX12_isPass_47 (by decide) ?_
  refine lv_iload_n hx hb dX12_isPass_49 rfl (lv_at hl 5 rfl) ?_
  refine lv_imul hx hb dX12_isPass_50 ?_
  refine lv_iload_n hx hb dX12_isPass_51 rfl (lv_at hl 6 rfl) ?_
  refine lv_iadd hx hb dX12_isPass_52 ?_
  obtain ⟨hv, hw⟩ := hw
  refine m_iald E hM (isO_at ho 11 rfl).2 hv dX12_isPass_53 ?_
  refine lv_topi (fun x4 ex4 => ?_)
  have hw := hw x4 ex4
  refine lv_istore (lv' := [(7, .int x4), (6, .int x3), (5, .int x2), (4, .int x1), (0, .ref (ad bs o)), (1, .int a1), (2, .int a2), (3, .int a3)]) hx hb dX12_isPass_54 hl (by decide) rfl (fun ls hl => ?_)
  refine lv_iload hx hb dX12_isPass_56 (lv_at hl 3 rfl) ?_
  refine lv_iconst (v := (-1)) hx hb dX12_isPass_58 (by decide) ?_
  refine lv_icmp_eq (tgt := 100) hx hb dX12_isPass_59 (by decide) (fun cq => ?_) (fun cq => ?_)
  · have hw := hw.1 cq
    refine lv_iconst (v := 0) hx hb dX12_isPass_100 (by decide) ?_
    exact m_retz hx hb hr hlk (Or.inl rfl) hM hS ⟨false, rfl, rfl, hw⟩ dX12_isPass_101
  · have hw := hw.2 cq
    refine lv_iload hx hb dX12_isPass_62 (lv_at hl 2 rfl) ?_
    refine lv_iconst (v := (-1)) hx hb dX12_isPass_64 (by decide) ?_
    refine lv_icmp_eq (tgt := 100) hx hb dX12_isPass_65 (by decide) (fun cq => ?_) (fun cq => ?_)
    · have hw := hw.1 cq
      refine lv_iconst (v := 0) hx hb dX12_isPass_100 (by decide) ?_
      exact m_retz hx hb hr hlk (Or.inl rfl) hM hS ⟨false, rfl, rfl, hw⟩ dX12_isPass_101
    · have hw := hw.2 cq
      refine lv_iload hx hb dX12_isPass_68 (lv_at hl 3 rfl) ?_
      refine lv_iload hx hb dX12_isPass_70 (lv_at hl 2 rfl) ?_
      refine lv_icmp_gt (tgt := 82) hx hb dX12_isPass_72 (by decide) (fun cq => ?_) (fun cq => ?_)
      · have hw := hw.1 cq
        exact s_X12_isPass_82 E hr hlk ho  hw hM hS (lv_sub hl [3, 2, 1, 0] rfl)
      · have hw := hw.2 cq
        refine lv_iload hx hb dX12_isPass_75 (lv_at hl 1 rfl) ?_
        refine lv_iload hx hb dX12_isPass_77 (lv_at hl 0 rfl) ?_
        refine lv_icmp_gt (tgt := 96) hx hb dX12_isPass_79 (by decide) (fun cq => ?_) (fun cq => ?_)
        · have hw := hw.1 cq
          refine lv_iconst (v := 1) hx hb dX12_isPass_96 (by decide) ?_
          refine lv_goto (tgt := 101) hx hb dX12_isPass_97 (by decide) ?_
          exact m_retz hx hb hr hlk (Or.inr rfl) hM hS ⟨true, rfl, rfl, hw⟩ dX12_isPass_101
        · have hw := hw.2 cq
          exact s_X12_isPass_82 E hr hlk ho  hw hM hS (lv_sub hl [3, 2, 1, 0] rfl)
