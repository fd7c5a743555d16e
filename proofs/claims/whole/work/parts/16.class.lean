theorem dX11_meet_0 : decode cX11_meet 0 = .ok (.aload_n 0, 1) := by decide +kernel
theorem dX11_meet_1 : decode cX11_meet 1 = .ok (.iload_n 1, 1) := by decide +kernel
theorem dX11_meet_2 : decode cX11_meet 2 = .ok (.invokevirtual 205, 3) := by decide +kernel
theorem dX11_meet_5 : decode cX11_meet 5 = .ok (.astore 5, 2) := by decide +kernel
theorem dX11_meet_7 : decode cX11_meet 7 = .ok (.aload 5, 2) := by decide +kernel
theorem dX11_meet_9 : decode cX11_meet 9 = .ok (.ifnull 32, 3) := by decide +kernel
theorem dX11_meet_12 : decode cX11_meet 12 = .ok (.iload_n 2, 1) := by decide +kernel
theorem dX11_meet_13 : decode cX11_meet 13 = .ok (.iload_n 3, 1) := by decide +kernel
theorem dX11_meet_14 : decode cX11_meet 14 = .ok (.if_icmp .eq 27, 3) := by decide +kernel
theorem dX11_meet_17 : decode cX11_meet 17 = .ok (.aload 5, 2) := by decide +kernel
theorem dX11_meet_19 : decode cX11_meet 19 = .ok (.getfield 209, 3) := by decide +kernel
theorem dX11_meet_22 : decode cX11_meet 22 = .ok (.iload_n 2, 1) := by decide +kernel
theorem dX11_meet_23 : decode cX11_meet 23 = .ok (.invokevirtual 210, 3) := by decide +kernel
theorem dX11_meet_26 : decode cX11_meet 26 = .ok (.ifCond .eq 15, 3) := by decide +kernel
theorem dX11_meet_29 : decode cX11_meet 29 = .ok (.aload 5, 2) := by decide +kernel
theorem dX11_meet_31 : decode cX11_meet 31 = .ok (.getfield 209, 3) := by decide +kernel
theorem dX11_meet_34 : decode cX11_meet 34 = .ok (.iload_n 3, 1) := by decide +kernel
theorem dX11_meet_35 : decode cX11_meet 35 = .ok (.invokevirtual 210, 3) := by decide +kernel
theorem dX11_meet_38 : decode cX11_meet 38 = .ok (.ifCond .ne 5, 3) := by decide +kernel
theorem dX11_meet_41 : decode cX11_meet 41 = .ok (.iconst (-1), 1) := by decide +kernel
theorem dX11_meet_42 : decode cX11_meet 42 = .ok (.ireturn, 1) := by decide +kernel
theorem dX11_meet_43 : decode cX11_meet 43 = .ok (.iload 4, 2) := by decide +kernel
theorem dX11_meet_45 : decode cX11_meet 45 = .ok (.ifCond .eq 13, 3) := by decide +kernel
theorem dX11_meet_48 : decode cX11_meet 48 = .ok (.aload 5, 2) := by decide +kernel
theorem dX11_meet_50 : decode cX11_meet 50 = .ok (.iload_n 2, 1) := by decide +kernel
theorem dX11_meet_51 : decode cX11_meet 51 = .ok (.iload_n 3, 1) := by decide +kernel
theorem dX11_meet_52 : decode cX11_meet 52 = .ok (.invokevirtual 411, 3) := by decide +kernel
theorem dX11_meet_55 : decode cX11_meet 55 = .ok (.goto 10, 3) := by decide +kernel
theorem dX11_meet_58 : decode cX11_meet 58 = .ok (.aload 5, 2) := by decide +kernel
theorem dX11_meet_60 : decode cX11_meet 60 = .ok (.iload_n 2, 1) := by decide +kernel
theorem dX11_meet_61 : decode cX11_meet 61 = .ok (.iload_n 3, 1) := by decide +kernel
theorem dX11_meet_62 : decode cX11_meet 62 = .ok (.invokevirtual 414, 3) := by decide +kernel
theorem dX11_meet_65 : decode cX11_meet 65 = .ok (.ireturn, 1) := by decide +kernel
def w_X11_meet (I : mI) (a1 : Int32) (a2 : Int32) (a3 : Int32) (a4 : Int32) (post : Int32 → mI → Prop) : Prop := w_X11_eveningAt I a1 (fun r1 I2 => (r1 = none → post (-1) I2) ∧ (∀ q3 : Nat, r1 = some q3 → (a2 = a3 → post (-1) I2) ∧ (¬ a2 = a3 → w_X3_hasPerson I2 (hE q3) a2 (fun b4 => (b4 = false → post (-1) I2) ∧ (b4 = true → w_X3_hasPerson I2 (hE q3) a3 (fun b5 => (b5 = true → (a4 = 0 → w_X2_firstMeeting I2 q3 (hE q3) a2 a3 (fun r6 => post r6 I2)) ∧ (¬ a4 = 0 → w_X2_passes I2 q3 (hE q3) a2 a3 (fun r7 => post r7 I2))) ∧ (b5 = false → post (-1) I2)))))))
set_option maxRecDepth 100000 in
set_option maxHeartbeats 4000000 in
theorem c_X11_meet {l : Launch} {D : va_G} {cA : Nat → ClassId} {Z : mZ} {bs n : Nat} {K : mK} {R : mR} {I : mI} {L : mL} {a1 : Int32} {a2 : Int32} {a3 : Int32} {a4 : Int32} {post : Int32 → mI → Prop} (ho : isX11 K R ) (hw : w_X11_meet I a1 a2 a3 a4 post) : Met l yX11_meet (.code yX11_meet cX11_meet 6 (some .int) :: gw) ({ frames := 5, cells := 0, slots := 0, locals := 131 } : Room) (PreM D cA Z bs (n, K, R, I, L) [.ref (bs + 0), .int a1, .int a2, .int a3, .int a4]) (QI D cA bs (fun r u => ∃ I', u = (n, K, R, I', L) ∧ post r I')) 0 0 (Ab bs) := by
  refine m_met (by decide) (Nat.le_of_ble_eq_true rfl) (fun p e s m below meth c ls E hr hlk hM hS hl => ?_)
  have E : Ev p s m _ c cX11_meet 6 RX11 D cA Z bs := E
  have hl : lv_has ls 6 [(0, .ref (bs + 0)), (1, .int a1), (2, .int a2), (3, .int a3), (4, .int a4)] := hl
  have hx := E.1.1
  have hb := E.1.2.1
  generalize hHe : s.heap = H at hM ⊢
  have hS : va_S (Ab bs) s.heap H [] := by rw [← hHe]; exact va_S.rf
  clear hHe
  refine lv_aload_n hx hb dX11_meet_0 rfl (lv_at hl 0 rfl) ?_
  refine lv_iload_n hx hb dX11_meet_1 rfl (lv_at hl 1 rfl) ?_
  refine m_co (m_runV E hM hS cs_X11_205 ho.1 (by decide) rfl rfl (c_X11_eveningAt ho hw) rfl rfl ⟨Nat.le_of_ble_eq_true rfl, Nat.le_of_ble_eq_true rfl⟩ rfl hl.1 rfl (Nat.le_of_ble_eq_true rfl) dX11_meet_2 ⟨Nat.le_of_ble_eq_true rfl, Nat.le_of_ble_eq_true rfl⟩) hS (fun r1 u H locs hp hM hS => ?_)
  obtain ⟨I2, rfl, hw, hqr1⟩ := hp
  rcases r1 with _ | q3
  · have hw := hw.1 rfl
    refine lv_astoreN (lv' := [(5, .null), (0, .ref (bs + 0)), (1, .int a1), (2, .int a2), (3, .int a3), (4, .int a4)]) hx hb dX11_meet_5 hl (by decide) rfl (fun ls hl => ?_)
    refine lv_aloadN hx hb dX11_meet_7 (lv_at hl 0 rfl) ?_
    refine lv_ifnullN (tgt := 41) hx hb dX11_meet_9 (by decide) ?_
    refine lv_iconst (v := (-1)) hx hb dX11_meet_41 (by decide) ?_
    exact m_reti hx hb hr hlk hM hS ⟨_, rfl, hw⟩ dX11_meet_42
  · have hq3 := hqr1 _ rfl
    have hw := hw.2 q3 rfl
    refine lv_astore (lv' := [(5, .ref (bs + q3)), (0, .ref (bs + 0)), (1, .int a1), (2, .int a2), (3, .int a3), (4, .int a4)]) hx hb dX11_meet_5 hl (by decide) rfl (fun ls hl => ?_)
    refine lv_aload hx hb dX11_meet_7 (lv_at hl 0 rfl) ?_
    refine lv_ifnull hx hb dX11_meet_9 ?_
    refine lv_iload_n hx hb dX11_meet_12 rfl (lv_at hl 3 rfl) ?_
    refine lv_iload_n hx hb dX11_meet_13 rfl (lv_at hl 4 rfl) ?_
    refine lv_icmp_eq (tgt := 41) hx hb dX11_meet_14 (by decide) (fun cq => ?_) (fun cq => ?_)
    · have hw := hw.1 cq
      refine lv_iconst (v := (-1)) hx hb dX11_meet_41 (by decide) ?_
      exact m_reti hx hb hr hlk hM hS ⟨_, rfl, hw⟩ dX11_meet_42
    · have hw := hw.2 cq
      refine lv_aload hx hb dX11_meet_17 (lv_at hl 0 rfl) ?_
      refine m_getr E hM fs_X11_209 hq3.1.1 hq3.2.1 dX11_meet_19 ?_
      refine lv_iload_n hx hb dX11_meet_22 rfl (lv_at hl 3 rfl) ?_
      refine m_ci (m_runV E hM hS cs_X11_210 hq3.2.2.1 (by decide) rfl rfl (c_X3_hasPerson hq3.2.2 hw) rfl rfl ⟨Nat.le_of_ble_eq_true rfl, Nat.le_of_ble_eq_true rfl⟩ rfl hl.1 rfl (Nat.le_of_ble_eq_true rfl) dX11_meet_23 ⟨Nat.le_of_ble_eq_true rfl, Nat.le_of_ble_eq_true rfl⟩) hS (fun r9 u H locs hp hM hS => ?_)
      obtain ⟨b4, rfl, rfl, hw⟩ := hp
      refine lv_if_eq (tgt := 41) hx hb dX11_meet_26 (by decide) (fun cq => ?_) (fun cq => ?_)
      · have hw := hw.1 (bI_f cq)
        refine lv_iconst (v := (-1)) hx hb dX11_meet_41 (by decide) ?_
        exact m_reti hx hb hr hlk hM hS ⟨_, rfl, hw⟩ dX11_meet_42
      · have hw := hw.2 (bI_t cq)
        refine lv_aload hx hb dX11_meet_29 (lv_at hl 0 rfl) ?_
        refine m_getr E hM fs_X11_209 hq3.1.1 hq3.2.1 dX11_meet_31 ?_
        refine lv_iload_n hx hb dX11_meet_34 rfl (lv_at hl 4 rfl) ?_
        refine m_ci (m_runV E hM hS cs_X11_210 hq3.2.2.1 (by decide) rfl rfl (c_X3_hasPerson hq3.2.2 hw) rfl rfl ⟨Nat.le_of_ble_eq_true rfl, Nat.le_of_ble_eq_true rfl⟩ rfl hl.1 rfl (Nat.le_of_ble_eq_true rfl) dX11_meet_35 ⟨Nat.le_of_ble_eq_true rfl, Nat.le_of_ble_eq_true rfl⟩) hS (fun r9 u H locs hp hM hS => ?_)
        obtain ⟨b5, rfl, rfl, hw⟩ := hp
        refine lv_if_ne (tgt := 43) hx hb dX11_meet_38 (by decide) (fun cq => ?_) (fun cq => ?_)
        · have hw := hw.1 (bI_t cq)
          refine lv_iload hx hb dX11_meet_43 (lv_at hl 5 rfl) ?_
          refine lv_if_eq (tgt := 58) hx hb dX11_meet_45 (by decide) (fun cq => ?_) (fun cq => ?_)
          · have hw := hw.1 cq
            refine lv_aload hx hb dX11_meet_58 (lv_at hl 0 rfl) ?_
            refine lv_iload_n hx hb dX11_meet_60 rfl (lv_at hl 3 rfl) ?_
            refine lv_iload_n hx hb dX11_meet_61 rfl (lv_at hl 4 rfl) ?_
            refine m_ci (m_runV E hM hS cs_X11_414 hq3.1.1 (by decide) rfl rfl (c_X2_firstMeeting hq3 hw) rfl rfl ⟨Nat.le_of_ble_eq_true rfl, Nat.le_of_ble_eq_true rfl⟩ rfl hl.1 rfl (Nat.le_of_ble_eq_true rfl) dX11_meet_62 ⟨Nat.le_of_ble_eq_true rfl, Nat.le_of_ble_eq_true rfl⟩) hS (fun r6 u H locs hp hM hS => ?_)
            obtain ⟨rfl, hw⟩ := hp
            exact m_reti hx hb hr hlk hM hS ⟨_, rfl, hw⟩ dX11_meet_65
          · have hw := hw.2 cq
            refine lv_aload hx hb dX11_meet_48 (lv_at hl 0 rfl) ?_
            refine lv_iload_n hx hb dX11_meet_50 rfl (lv_at hl 3 rfl) ?_
            refine lv_iload_n hx hb dX11_meet_51 rfl (lv_at hl 4 rfl) ?_
            refine m_ci (m_runV E hM hS cs_X11_411 hq3.1.1 (by decide) rfl rfl (c_X2_passes hq3 hw) rfl rfl ⟨Nat.le_of_ble_eq_true rfl, Nat.le_of_ble_eq_true rfl⟩ rfl hl.1 rfl (Nat.le_of_ble_eq_true rfl) dX11_meet_52 ⟨Nat.le_of_ble_eq_true rfl, Nat.le_of_ble_eq_true rfl⟩) hS (fun r7 u H locs hp hM hS => ?_)
            obtain ⟨rfl, hw⟩ := hp
            refine lv_goto (tgt := 65) hx hb dX11_meet_55 (by decide) ?_
            exact m_reti hx hb hr hlk hM hS ⟨_, rfl, hw⟩ dX11_meet_65
        · have hw := hw.2 (bI_f cq)
          refine lv_iconst (v := (-1)) hx hb dX11_meet_41 (by decide) ?_
          exact m_reti hx hb hr hlk hM hS ⟨_, rfl, hw⟩ dX11_meet_42
theorem dX11_lookAtAll_0 : decode cX11_lookAtAll 0 = .ok (.iload_n 1, 1) := by decide +kernel
theorem dX11_lookAtAll_1 : decode cX11_lookAtAll 1 = .ok (.tableswitch 45 0 2 #[27, 32, 37], 27) := by decide +kernel
theorem dX11_lookAtAll_28 : decode cX11_lookAtAll 28 = .ok (.aload_n 0, 1) := by decide +kernel
theorem dX11_lookAtAll_29 : decode cX11_lookAtAll 29 = .ok (.invokevirtual 433, 3) := by decide +kernel
theorem dX11_lookAtAll_32 : decode cX11_lookAtAll 32 = .ok (.ireturn, 1) := by decide +kernel
theorem dX11_lookAtAll_33 : decode cX11_lookAtAll 33 = .ok (.aload_n 0, 1) := by decide +kernel
theorem dX11_lookAtAll_34 : decode cX11_lookAtAll 34 = .ok (.invokevirtual 436, 3) := by decide +kernel
theorem dX11_lookAtAll_37 : decode cX11_lookAtAll 37 = .ok (.ireturn, 1) := by decide +kernel
theorem dX11_lookAtAll_38 : decode cX11_lookAtAll 38 = .ok (.aload_n 0, 1) := by decide +kernel
theorem dX11_lookAtAll_39 : decode cX11_lookAtAll 39 = .ok (.getfield 209, 3) := by decide +kernel
theorem dX11_lookAtAll_42 : decode cX11_lookAtAll 42 = .ok (.invokevirtual 439, 3) := by decide +kernel
theorem dX11_lookAtAll_45 : decode cX11_lookAtAll 45 = .ok (.ireturn, 1) := by decide +kernel
theorem dX11_lookAtAll_46 : decode cX11_lookAtAll 46 = .ok (.bipush (-2), 2) := by decide +kernel
theorem dX11_lookAtAll_48 : decode cX11_lookAtAll 48 = .ok (.ireturn, 1) := by decide +kernel
def w_X11_lookAtAll (I : mI) (a1 : Nat) (a1h : Nat) (a2 : Int32) (post : Int32 → mI → Prop) : Prop := (a2 = 0 → w_X2_longestHush I a1 a1h (fun r1 => post r1 I)) ∧ (a2 = 1 → w_X2_busiestStep I a1 a1h (fun r2 I3 => post r2 I3)) ∧ (a2 = 2 → w_X3_copies I a1h (fun r4 => post r4 I)) ∧ (¬ a2 = 0 → ¬ a2 = 1 → ¬ a2 = 2 → post (-2) I)
set_option maxRecDepth 100000 in
set_option maxHeartbeats 4000000 in
theorem c_X11_lookAtAll {l : Launch} {D : va_G} {cA : Nat → ClassId} {Z : mZ} {bs n : Nat} {K : mK} {R : mR} {I : mI} {L : mL} {a1 : Nat} {a1h : Nat} {a2 : Int32} {post : Int32 → mI → Prop} (ha1 : isX2 K R a1 a1h) (hw : w_X11_lookAtAll I a1 a1h a2 post) : Met l yX11_lookAtAll (.code yX11_lookAtAll cX11_lookAtAll 2 (some .int) :: gw) ({ frames := 3, cells := 0, slots := 0, locals := 71 } : Room) (PreM D cA Z bs (n, K, R, I, L) [.ref (bs + a1), .int a2]) (QI D cA bs (fun r u => ∃ I', u = (n, K, R, I', L) ∧ post r I')) 0 0 (Ab bs) := by
  refine m_met (by decide) (Nat.le_of_ble_eq_true rfl) (fun p e s m below meth c ls E hr hlk hM hS hl => ?_)
  have E : Ev p s m _ c cX11_lookAtAll 2 RX11 D cA Z bs := E
  have hl : lv_has ls 2 [(0, .ref (bs + a1)), (1, .int a2)] := hl
  have hx := E.1.1
  have hb := E.1.2.1
  generalize hHe : s.heap = H at hM ⊢
  have hS : va_S (Ab bs) s.heap H [] := by rw [← hHe]; exact va_S.rf
  clear hHe
  refine lv_iload_n hx hb dX11_lookAtAll_0 rfl (lv_at hl 1 rfl) ?_
  by_cases cq0 : a2 = 0
  · have hw := hw.1 cq0
    refine lv_tableIn (tgt := 28) hx hb dX11_lookAtAll_1 (by rw [cq0]; decide) (by rw [cq0]; decide) (by rw [cq0]; rfl) (by decide) ?_
    refine lv_aload_n hx hb dX11_lookAtAll_28 rfl (lv_at hl 0 rfl) ?_
    refine m_ci (m_runV E hM hS cs_X11_433 ha1.1.1 (by decide) rfl rfl (c_X2_longestHush ha1 hw) rfl rfl ⟨Nat.le_of_ble_eq_true rfl, Nat.le_of_ble_eq_true rfl⟩ rfl hl.1 rfl (Nat.le_of_ble_eq_true rfl) dX11_lookAtAll_29 ⟨Nat.le_of_ble_eq_true rfl, Nat.le_of_ble_eq_true rfl⟩) hS (fun r1 u H locs hp hM hS => ?_)
    obtain ⟨rfl, hw⟩ := hp
    exact m_reti hx hb hr hlk hM hS ⟨_, rfl, hw⟩ dX11_lookAtAll_32
  by_cases cq1 : a2 = 1
  · have hw := hw.2.1 cq1
    refine lv_tableIn (tgt := 33) hx hb dX11_lookAtAll_1 (by rw [cq1]; decide) (by rw [cq1]; decide) (by rw [cq1]; rfl) (by decide) ?_
    refine lv_aload_n hx hb dX11_lookAtAll_33 rfl (lv_at hl 0 rfl) ?_
    refine m_ci (m_runV E hM hS cs_X11_436 ha1.1.1 (by decide) rfl rfl (c_X2_busiestStep ha1 hw) rfl rfl ⟨Nat.le_of_ble_eq_true rfl, Nat.le_of_ble_eq_true rfl⟩ rfl hl.1 rfl (Nat.le_of_ble_eq_true rfl) dX11_lookAtAll_34 ⟨Nat.le_of_ble_eq_true rfl, Nat.le_of_ble_eq_true rfl⟩) hS (fun r2 u H locs hp hM hS => ?_)
    obtain ⟨I3, rfl, hw⟩ := hp
    exact m_reti hx hb hr hlk hM hS ⟨_, rfl, hw⟩ dX11_lookAtAll_37
  by_cases cq2 : a2 = 2
  · have hw := hw.2.2.1 cq2
    refine lv_tableIn (tgt := 38) hx hb dX11_lookAtAll_1 (by rw [cq2]; decide) (by rw [cq2]; decide) (by rw [cq2]; rfl) (by decide) ?_
    refine lv_aload_n hx hb dX11_lookAtAll_38 rfl (lv_at hl 0 rfl) ?_
    refine m_getr E hM fs_X11_209 ha1.1.1 ha1.2.1 dX11_lookAtAll_39 ?_
    refine m_ci (m_runV E hM hS cs_X11_439 ha1.2.2.1 (by decide) rfl rfl (c_X3_copies ha1.2.2 hw) rfl rfl ⟨Nat.le_of_ble_eq_true rfl, Nat.le_of_ble_eq_true rfl⟩ rfl hl.1 rfl (Nat.le_of_ble_eq_true rfl) dX11_lookAtAll_42 ⟨Nat.le_of_ble_eq_true rfl, Nat.le_of_ble_eq_true rfl⟩) hS (fun r4 u H locs hp hM hS => ?_)
    obtain ⟨rfl, hw⟩ := hp
    exact m_reti hx hb hr hlk hM hS ⟨_, rfl, hw⟩ dX11_lookAtAll_45
  have hw := hw.2.2.2 cq0 cq1 cq2
  refine lv_tableOut (tgt := 46) hx hb dX11_lookAtAll_1 (by have hn0 := lv_neT cq0 (a := 0) (by decide); have hn1 := lv_neT cq1 (a := 1) (by decide); have hn2 := lv_neT cq2 (a := 2) (by decide); omega) (by decide) ?_
  refine lv_bipush (v := (-2)) hx hb dX11_lookAtAll_46 (by decide) ?_
  exact m_reti hx hb hr hlk hM hS ⟨_, rfl, hw⟩ dX11_lookAtAll_48
theorem dX11_bestBegin_0 : decode cX11_bestBegin 0 = .ok (.aload_n 1, 1) := by decide +kernel
theorem dX11_bestBegin_1 : decode cX11_bestBegin 1 = .ok (.getfield 209, 3) := by decide +kernel
theorem dX11_bestBegin_4 : decode cX11_bestBegin 4 = .ok (.iload_n 2, 1) := by decide +kernel
theorem dX11_bestBegin_5 : decode cX11_bestBegin 5 = .ok (.invokevirtual 442, 3) := by decide +kernel
theorem dX11_bestBegin_8 : decode cX11_bestBegin 8 = .ok (.ifCond .ne 5, 3) := by decide +kernel
theorem dX11_bestBegin_11 : decode cX11_bestBegin 11 = .ok (.iconst (-1), 1) := by decide +kernel
theorem dX11_bestBegin_12 : decode cX11_bestBegin 12 = .ok (.ireturn, 1) := by decide +kernel
theorem dX11_bestBegin_13 : decode cX11_bestBegin 13 = .ok (.aload_n 0, 1) := by decide +kernel
theorem dX11_bestBegin_14 : decode cX11_bestBegin 14 = .ok (.getfield 42, 3) := by decide +kernel
theorem dX11_bestBegin_17 : decode cX11_bestBegin 17 = .ok (.aload_n 1, 1) := by decide +kernel
theorem dX11_bestBegin_18 : decode cX11_bestBegin 18 = .ok (.iload_n 2, 1) := by decide +kernel
theorem dX11_bestBegin_19 : decode cX11_bestBegin 19 = .ok (.iconst 0, 1) := by decide +kernel
theorem dX11_bestBegin_20 : decode cX11_bestBegin 20 = .ok (.bipush 100, 2) := by decide +kernel
theorem dX11_bestBegin_22 : decode cX11_bestBegin 22 = .ok (.invokevirtual 318, 3) := by decide +kernel
theorem dX11_bestBegin_25 : decode cX11_bestBegin 25 = .ok (.aload_n 0, 1) := by decide +kernel
theorem dX11_bestBegin_26 : decode cX11_bestBegin 26 = .ok (.getfield 56, 3) := by decide +kernel
theorem dX11_bestBegin_29 : decode cX11_bestBegin 29 = .ok (.aload_n 1, 1) := by decide +kernel
theorem dX11_bestBegin_30 : decode cX11_bestBegin 30 = .ok (.aload_n 0, 1) := by decide +kernel
theorem dX11_bestBegin_31 : decode cX11_bestBegin 31 = .ok (.getfield 42, 3) := by decide +kernel
theorem dX11_bestBegin_34 : decode cX11_bestBegin 34 = .ok (.iload_n 2, 1) := by decide +kernel
theorem dX11_bestBegin_35 : decode cX11_bestBegin 35 = .ok (.invokevirtual 445, 3) := by decide +kernel
theorem dX11_bestBegin_38 : decode cX11_bestBegin 38 = .ok (.ireturn, 1) := by decide +kernel
def w_X11_bestBegin (I : mI) (a1 : Nat) (a1h : Nat) (a2 : Int32) (post : Int32 → mI → Prop) : Prop := w_X3_walks I a1h a2 (fun b1 => (b1 = true → w_X4_watch I 66 a1 a1h a2 0 100 (fun I2 => w_X0_best I2 75 a1 a1h 66 a2 (fun r3 I4 => post r3 I4))) ∧ (b1 = false → post (-1) I))
set_option maxRecDepth 100000 in
set_option maxHeartbeats 4000000 in
theorem c_X11_bestBegin {l : Launch} {D : va_G} {cA : Nat → ClassId} {Z : mZ} {bs n : Nat} {K : mK} {R : mR} {I : mI} {L : mL} {a1 : Nat} {a1h : Nat} {a2 : Int32} {post : Int32 → mI → Prop} (ho : isX11 K R ) (ha1 : isX2 K R a1 a1h) (hw : w_X11_bestBegin I a1 a1h a2 post) : Met l yX11_bestBegin (.code yX11_bestBegin cX11_bestBegin 3 (some .int) :: gw) ({ frames := 5, cells := 0, slots := 0, locals := 148 } : Room) (PreM D cA Z bs (n, K, R, I, L) [.ref (bs + 0), .ref (bs + a1), .int a2]) (QI D cA bs (fun r u => ∃ I', u = (n, K, R, I', L) ∧ post r I')) 0 0 (Ab bs) := by
  refine m_met (by decide) (Nat.le_of_ble_eq_true rfl) (fun p e s m below meth c ls E hr hlk hM hS hl => ?_)
  have E : Ev p s m _ c cX11_bestBegin 3 RX11 D cA Z bs := E
  have hl : lv_has ls 3 [(0, .ref (bs + 0)), (1, .ref (bs + a1)), (2, .int a2)] := hl
  have hx := E.1.1
  have hb := E.1.2.1
  generalize hHe : s.heap = H at hM ⊢
  have hS : va_S (Ab bs) s.heap H [] := by rw [← hHe]; exact va_S.rf
  clear hHe
  refine lv_aload_n hx hb dX11_bestBegin_0 rfl (lv_at hl 1 rfl) ?_
  refine m_getr E hM fs_X11_209 ha1.1.1 ha1.2.1 dX11_bestBegin_1 ?_
  refine lv_iload_n hx hb dX11_bestBegin_4 rfl (lv_at hl 2 rfl) ?_
  refine m_ci (m_runV E hM hS cs_X11_442 ha1.2.2.1 (by decide) rfl rfl (c_X3_walks ha1.2.2 hw) rfl rfl ⟨Nat.le_of_ble_eq_true rfl, Nat.le_of_ble_eq_true rfl⟩ rfl hl.1 rfl (Nat.le_of_ble_eq_true rfl) dX11_bestBegin_5 ⟨Nat.le_of_ble_eq_true rfl, Nat.le_of_ble_eq_true rfl⟩) hS (fun r9 u H locs hp hM hS => ?_)
  obtain ⟨b1, rfl, rfl, hw⟩ := hp
  refine lv_if_ne (tgt := 13) hx hb dX11_bestBegin_8 (by decide) (fun cq => ?_) (fun cq => ?_)
  · have hw := hw.1 (bI_t cq)
    refine lv_aload_n hx hb dX11_bestBegin_13 rfl (lv_at hl 0 rfl) ?_
    refine m_getr E hM fs_X11_42 ho.1 ho.2.2.2.2.2.1.1 dX11_bestBegin_14 ?_
    refine lv_aload_n hx hb dX11_bestBegin_17 rfl (lv_at hl 1 rfl) ?_
    refine lv_iload_n hx hb dX11_bestBegin_18 rfl (lv_at hl 2 rfl) ?_
    refine lv_iconst (v := 0) hx hb dX11_bestBegin_19 (by decide) ?_
    refine lv_bipush (v := 100) hx hb dX11_bestBegin_20 (by decide) ?_
    refine m_cv (m_runV E hM hS cs_X11_318 ho.2.2.2.2.2.1.2.1 (by decide) rfl rfl (c_X4_watch ho.2.2.2.2.2.1.2 ha1 hw) rfl rfl ⟨Nat.le_of_ble_eq_true rfl, Nat.le_of_ble_eq_true rfl⟩ rfl hl.1 rfl (Nat.le_of_ble_eq_true rfl) dX11_bestBegin_22 ⟨Nat.le_of_ble_eq_true rfl, Nat.le_of_ble_eq_true rfl⟩) hS (fun u H locs hp hM hS => ?_)
    obtain ⟨I2, rfl, hw⟩ := hp
    refine lv_aload_n hx hb dX11_bestBegin_25 rfl (lv_at hl 0 rfl) ?_
    refine m_getr E hM fs_X11_56 ho.1 ho.2.2.2.2.2.2.2.1.1 dX11_bestBegin_26 ?_
    refine lv_aload_n hx hb dX11_bestBegin_29 rfl (lv_at hl 1 rfl) ?_
    refine lv_aload_n hx hb dX11_bestBegin_30 rfl (lv_at hl 0 rfl) ?_
    refine m_getr E hM fs_X11_42 ho.1 ho.2.2.2.2.2.1.1 dX11_bestBegin_31 ?_
    refine lv_iload_n hx hb dX11_bestBegin_34 rfl (lv_at hl 2 rfl) ?_
    refine m_ci (m_runV E hM hS cs_X11_445 ho.2.2.2.2.2.2.2.1.2.1 (by decide) rfl rfl (c_X0_best ho.2.2.2.2.2.2.2.1.2 ha1 ho.2.2.2.2.2.1.2 hw) rfl rfl ⟨Nat.le_of_ble_eq_true rfl, Nat.le_of_ble_eq_true rfl⟩ rfl hl.1 rfl (Nat.le_of_ble_eq_true rfl) dX11_bestBegin_35 ⟨Nat.le_of_ble_eq_true rfl, Nat.le_of_ble_eq_true rfl⟩) hS (fun r3 u H locs hp hM hS => ?_)
    obtain ⟨I4, rfl, hw⟩ := hp
    exact m_reti hx hb hr hlk hM hS ⟨_, rfl, hw⟩ dX11_bestBegin_38
  · have hw := hw.2 (bI_f cq)
    refine lv_iconst (v := (-1)) hx hb dX11_bestBegin_11 (by decide) ?_
    exact m_reti hx hb hr hlk hM hS ⟨_, rfl, hw⟩ dX11_bestBegin_12
theorem dX11_look_0 : decode cX11_look 0 = .ok (.aload_n 0, 1) := by decide +kernel
theorem dX11_look_1 : decode cX11_look 1 = .ok (.iload_n 1, 1) := by decide +kernel
theorem dX11_look_2 : decode cX11_look 2 = .ok (.invokevirtual 205, 3) := by decide +kernel
theorem dX11_look_5 : decode cX11_look 5 = .ok (.astore_n 3, 1) := by decide +kernel
theorem dX11_look_6 : decode cX11_look 6 = .ok (.aload_n 3, 1) := by decide +kernel
theorem dX11_look_7 : decode cX11_look 7 = .ok (.ifnull 7, 3) := by decide +kernel
theorem dX11_look_10 : decode cX11_look 10 = .ok (.iload_n 2, 1) := by decide +kernel
theorem dX11_look_11 : decode cX11_look 11 = .ok (.ifCond .ge 6, 3) := by decide +kernel
theorem dX11_look_14 : decode cX11_look 14 = .ok (.bipush (-2), 2) := by decide +kernel
theorem dX11_look_16 : decode cX11_look 16 = .ok (.ireturn, 1) := by decide +kernel
theorem dX11_look_17 : decode cX11_look 17 = .ok (.iload_n 2, 1) := by decide +kernel
theorem dX11_look_18 : decode cX11_look 18 = .ok (.bipush 10, 2) := by decide +kernel
theorem dX11_look_20 : decode cX11_look 20 = .ok (.irem, 1) := by decide +kernel
theorem dX11_look_21 : decode cX11_look 21 = .ok (.istore 4, 2) := by decide +kernel
theorem dX11_look_23 : decode cX11_look 23 = .ok (.iload_n 2, 1) := by decide +kernel
theorem dX11_look_24 : decode cX11_look 24 = .ok (.bipush 10, 2) := by decide +kernel
theorem dX11_look_26 : decode cX11_look 26 = .ok (.idiv, 1) := by decide +kernel
theorem dX11_look_27 : decode cX11_look 27 = .ok (.tableswitch 136 0 4 #[33, 39, 63, 87, 111], 33) := by decide +kernel
theorem dX11_look_60 : decode cX11_look 60 = .ok (.aload_n 3, 1) := by decide +kernel
theorem dX11_look_61 : decode cX11_look 61 = .ok (.iload_n 2, 1) := by decide +kernel
theorem dX11_look_62 : decode cX11_look 62 = .ok (.invokestatic 417, 3) := by decide +kernel
theorem dX11_look_65 : decode cX11_look 65 = .ok (.ireturn, 1) := by decide +kernel
theorem dX11_look_66 : decode cX11_look 66 = .ok (.aload_n 3, 1) := by decide +kernel
theorem dX11_look_67 : decode cX11_look 67 = .ok (.getfield 209, 3) := by decide +kernel
theorem dX11_look_70 : decode cX11_look 70 = .ok (.iload 4, 2) := by decide +kernel
theorem dX11_look_72 : decode cX11_look 72 = .ok (.invokevirtual 269, 3) := by decide +kernel
theorem dX11_look_75 : decode cX11_look 75 = .ok (.ifCond .eq 12, 3) := by decide +kernel
theorem dX11_look_78 : decode cX11_look 78 = .ok (.aload_n 3, 1) := by decide +kernel
theorem dX11_look_79 : decode cX11_look 79 = .ok (.iload 4, 2) := by decide +kernel
theorem dX11_look_81 : decode cX11_look 81 = .ok (.invokevirtual 421, 3) := by decide +kernel
theorem dX11_look_84 : decode cX11_look 84 = .ok (.goto 5, 3) := by decide +kernel
theorem dX11_look_87 : decode cX11_look 87 = .ok (.bipush (-2), 2) := by decide +kernel
theorem dX11_look_89 : decode cX11_look 89 = .ok (.ireturn, 1) := by decide +kernel
theorem dX11_look_90 : decode cX11_look 90 = .ok (.aload_n 3, 1) := by decide +kernel
theorem dX11_look_91 : decode cX11_look 91 = .ok (.getfield 209, 3) := by decide +kernel
theorem dX11_look_94 : decode cX11_look 94 = .ok (.iload 4, 2) := by decide +kernel
theorem dX11_look_96 : decode cX11_look 96 = .ok (.invokevirtual 269, 3) := by decide +kernel
theorem dX11_look_99 : decode cX11_look 99 = .ok (.ifCond .eq 12, 3) := by decide +kernel
theorem dX11_look_102 : decode cX11_look 102 = .ok (.aload_n 3, 1) := by decide +kernel
theorem dX11_look_103 : decode cX11_look 103 = .ok (.iload 4, 2) := by decide +kernel
theorem dX11_look_105 : decode cX11_look 105 = .ok (.invokevirtual 424, 3) := by decide +kernel
theorem dX11_look_108 : decode cX11_look 108 = .ok (.goto 5, 3) := by decide +kernel
theorem dX11_look_111 : decode cX11_look 111 = .ok (.bipush (-2), 2) := by decide +kernel
theorem dX11_look_113 : decode cX11_look 113 = .ok (.ireturn, 1) := by decide +kernel
theorem dX11_look_114 : decode cX11_look 114 = .ok (.aload_n 3, 1) := by decide +kernel
theorem dX11_look_115 : decode cX11_look 115 = .ok (.getfield 209, 3) := by decide +kernel
theorem dX11_look_118 : decode cX11_look 118 = .ok (.iload 4, 2) := by decide +kernel
theorem dX11_look_120 : decode cX11_look 120 = .ok (.invokevirtual 210, 3) := by decide +kernel
theorem dX11_look_123 : decode cX11_look 123 = .ok (.ifCond .eq 12, 3) := by decide +kernel
theorem dX11_look_126 : decode cX11_look 126 = .ok (.aload_n 3, 1) := by decide +kernel
theorem dX11_look_127 : decode cX11_look 127 = .ok (.iload 4, 2) := by decide +kernel
theorem dX11_look_129 : decode cX11_look 129 = .ok (.invokevirtual 427, 3) := by decide +kernel
theorem dX11_look_132 : decode cX11_look 132 = .ok (.goto 5, 3) := by decide +kernel
theorem dX11_look_135 : decode cX11_look 135 = .ok (.bipush (-2), 2) := by decide +kernel
theorem dX11_look_137 : decode cX11_look 137 = .ok (.ireturn, 1) := by decide +kernel
theorem dX11_look_138 : decode cX11_look 138 = .ok (.aload_n 3, 1) := by decide +kernel
theorem dX11_look_139 : decode cX11_look 139 = .ok (.getfield 209, 3) := by decide +kernel
theorem dX11_look_142 : decode cX11_look 142 = .ok (.iload 4, 2) := by decide +kernel
theorem dX11_look_144 : decode cX11_look 144 = .ok (.invokevirtual 210, 3) := by decide +kernel
theorem dX11_look_147 : decode cX11_look 147 = .ok (.ifCond .eq 13, 3) := by decide +kernel
theorem dX11_look_150 : decode cX11_look 150 = .ok (.aload_n 0, 1) := by decide +kernel
theorem dX11_look_151 : decode cX11_look 151 = .ok (.aload_n 3, 1) := by decide +kernel
theorem dX11_look_152 : decode cX11_look 152 = .ok (.iload 4, 2) := by decide +kernel
theorem dX11_look_154 : decode cX11_look 154 = .ok (.invokevirtual 430, 3) := by decide +kernel
theorem dX11_look_157 : decode cX11_look 157 = .ok (.goto 5, 3) := by decide +kernel
theorem dX11_look_160 : decode cX11_look 160 = .ok (.bipush (-2), 2) := by decide +kernel
theorem dX11_look_162 : decode cX11_look 162 = .ok (.ireturn, 1) := by decide +kernel
theorem dX11_look_163 : decode cX11_look 163 = .ok (.bipush (-2), 2) := by decide +kernel
theorem dX11_look_165 : decode cX11_look 165 = .ok (.ireturn, 1) := by decide +kernel
def w_X11_look (I : mI) (a1 : Int32) (a2 : Int32) (post : Int32 → mI → Prop) : Prop := w_X11_eveningAt I a1 (fun r1 I2 => (r1 = none → post (-2) I2) ∧ (∀ q3 : Nat, r1 = some q3 → (0 ≤ a2 → ∀ x4, x4 = (irem a2 10) → ∀ x5, x5 = (a2 / 10) → (x5 = 0 → w_X11_lookAtAll I2 q3 (hE q3) a2 (fun r6 I7 => post r6 I7)) ∧ (x5 = 1 → w_X3_hasFlat I2 (hE q3) x4 (fun b8 => (b8 = false → post (-2) I2) ∧ (b8 = true → w_X2_shoesHeard I2 q3 (hE q3) x4 (fun r9 => post r9 I2)))) ∧ (x5 = 2 → w_X3_hasFlat I2 (hE q3) x4 (fun b10 => (b10 = false → post (-2) I2) ∧ (b10 = true → w_X2_quietestStep I2 q3 (hE q3) x4 (fun r11 I12 => post r11 I12)))) ∧ (x5 = 3 → w_X3_hasPerson I2 (hE q3) x4 (fun b13 => (b13 = false → post (-2) I2) ∧ (b13 = true → w_X2_loudestUnheardShoe I2 q3 (hE q3) x4 (fun r14 => post r14 I2)))) ∧ (x5 = 4 → w_X3_hasPerson I2 (hE q3) x4 (fun b15 => (b15 = false → post (-2) I2) ∧ (b15 = true → w_X11_bestBegin I2 q3 (hE q3) x4 (fun r16 I17 => post r16 I17)))) ∧ (¬ x5 = 0 → ¬ x5 = 1 → ¬ x5 = 2 → ¬ x5 = 3 → ¬ x5 = 4 → post (-2) I2)) ∧ (¬ 0 ≤ a2 → post (-2) I2)))
set_option maxRecDepth 100000 in
set_option maxHeartbeats 4000000 in
theorem c_X11_look {l : Launch} {D : va_G} {cA : Nat → ClassId} {Z : mZ} {bs n : Nat} {K : mK} {R : mR} {I : mI} {L : mL} {a1 : Int32} {a2 : Int32} {post : Int32 → mI → Prop} (ho : isX11 K R ) (hw : w_X11_look I a1 a2 post) : Met l yX11_look (.code yX11_look cX11_look 5 (some .int) :: gw) ({ frames := 6, cells := 0, slots := 0, locals := 170 } : Room) (PreM D cA Z bs (n, K, R, I, L) [.ref (bs + 0), .int a1, .int a2]) (QI D cA bs (fun r u => ∃ I', u = (n, K, R, I', L) ∧ post r I')) 0 0 (Ab bs) := by
  refine m_met (by decide) (Nat.le_of_ble_eq_true rfl) (fun p e s m below meth c ls E hr hlk hM hS hl => ?_)
  have E : Ev p s m _ c cX11_look 5 RX11 D cA Z bs := E
  have hl : lv_has ls 5 [(0, .ref (bs + 0)), (1, .int a1), (2, .int a2)] := hl
  have hx := E.1.1
  have hb := E.1.2.1
  generalize hHe : s.heap = H at hM ⊢
  have hS : va_S (Ab bs) s.heap H [] := by rw [← hHe]; exact va_S.rf
  clear hHe
  refine lv_aload_n hx hb dX11_look_0 rfl (lv_at hl 0 rfl) ?_
  refine lv_iload_n hx hb dX11_look_1 rfl (lv_at hl 1 rfl) ?_
  refine m_co (m_runV E hM hS cs_X11_205 ho.1 (by decide) rfl rfl (c_X11_eveningAt ho hw) rfl rfl ⟨Nat.le_of_ble_eq_true rfl, Nat.le_of_ble_eq_true rfl⟩ rfl hl.1 rfl (Nat.le_of_ble_eq_true rfl) dX11_look_2 ⟨Nat.le_of_ble_eq_true rfl, Nat.le_of_ble_eq_true rfl⟩) hS (fun r1 u H locs hp hM hS => ?_)
  obtain ⟨I2, rfl, hw, hqr1⟩ := hp
  rcases r1 with _ | q3
  · have hw := hw.1 rfl
    refine lv_astore_nN (lv' := [(3, .null), (0, .ref (bs + 0)), (1, .int a1), (2, .int a2)]) hx hb dX11_look_5 rfl hl (by decide) rfl (fun ls hl => ?_)
    refine lv_aload_nN hx hb dX11_look_6 rfl (lv_at hl 0 rfl) ?_
    refine lv_ifnullN (tgt := 14) hx hb dX11_look_7 (by decide) ?_
    refine lv_bipush (v := (-2)) hx hb dX11_look_14 (by decide) ?_
    exact m_reti hx hb hr hlk hM hS ⟨_, rfl, hw⟩ dX11_look_16
  · have hq3 := hqr1 _ rfl
    have hw := hw.2 q3 rfl
    refine lv_astore_n (lv' := [(3, .ref (bs + q3)), (0, .ref (bs + 0)), (1, .int a1), (2, .int a2)]) hx hb dX11_look_5 rfl hl (by decide) rfl (fun ls hl => ?_)
    refine lv_aload_n hx hb dX11_look_6 rfl (lv_at hl 0 rfl) ?_
    refine lv_ifnull hx hb dX11_look_7 ?_
    refine lv_iload_n hx hb dX11_look_10 rfl (lv_at hl 3 rfl) ?_
    refine lv_if_ge (tgt := 17) hx hb dX11_look_11 (by decide) (fun cq => ?_) (fun cq => ?_)
    · have hw := hw.1 cq
      refine lv_iload_n hx hb dX11_look_17 rfl (lv_at hl 3 rfl) ?_
      refine lv_bipush (v := 10) hx hb dX11_look_18 (by decide) ?_
      refine lv_irem hx hb dX11_look_20 (by decide) ?_
      refine lv_topi (fun x4 ex4 => ?_)
      have hw := hw x4 ex4
      refine lv_istore (lv' := [(4, .int x4), (3, .ref (bs + q3)), (0, .ref (bs + 0)), (1, .int a1), (2, .int a2)]) hx hb dX11_look_21 hl (by decide) rfl (fun ls hl => ?_)
      refine lv_iload_n hx hb dX11_look_23 rfl (lv_at hl 4 rfl) ?_
      refine lv_bipush (v := 10) hx hb dX11_look_24 (by decide) ?_
      refine lv_idiv hx hb dX11_look_26 (by decide) ?_
      refine lv_topi (fun x5 ex5 => ?_)
      have hw := hw x5 ex5
      by_cases cq0 : x5 = 0
      · have hw := hw.1 cq0
        refine lv_tableIn (tgt := 60) hx hb dX11_look_27 (by rw [cq0]; decide) (by rw [cq0]; decide) (by rw [cq0]; rfl) (by decide) ?_
        refine lv_aload_n hx hb dX11_look_60 rfl (lv_at hl 1 rfl) ?_
        refine lv_iload_n hx hb dX11_look_61 rfl (lv_at hl 4 rfl) ?_
        refine m_ci (m_runS E hM hS cs_X11_417 (c_X11_lookAtAll hq3 hw) rfl rfl ⟨Nat.le_of_ble_eq_true rfl, Nat.le_of_ble_eq_true rfl⟩ rfl hl.1 rfl (Nat.le_of_ble_eq_true rfl) dX11_look_62 ⟨Nat.le_of_ble_eq_true rfl, Nat.le_of_ble_eq_true rfl⟩) hS (fun r6 u H locs hp hM hS => ?_)
        obtain ⟨I7, rfl, hw⟩ := hp
        exact m_reti hx hb hr hlk hM hS ⟨_, rfl, hw⟩ dX11_look_65
      by_cases cq1 : x5 = 1
      · have hw := hw.2.1 cq1
        refine lv_tableIn (tgt := 66) hx hb dX11_look_27 (by rw [cq1]; decide) (by rw [cq1]; decide) (by rw [cq1]; rfl) (by decide) ?_
        refine lv_aload_n hx hb dX11_look_66 rfl (lv_at hl 1 rfl) ?_
        refine m_getr E hM fs_X11_209 hq3.1.1 hq3.2.1 dX11_look_67 ?_
        refine lv_iload hx hb dX11_look_70 (lv_at hl 0 rfl) ?_
        refine m_ci (m_runV E hM hS cs_X11_269 hq3.2.2.1 (by decide) rfl rfl (c_X3_hasFlat hq3.2.2 hw) rfl rfl ⟨Nat.le_of_ble_eq_true rfl, Nat.le_of_ble_eq_true rfl⟩ rfl hl.1 rfl (Nat.le_of_ble_eq_true rfl) dX11_look_72 ⟨Nat.le_of_ble_eq_true rfl, Nat.le_of_ble_eq_true rfl⟩) hS (fun r9 u H locs hp hM hS => ?_)
        obtain ⟨b8, rfl, rfl, hw⟩ := hp
        refine lv_if_eq (tgt := 87) hx hb dX11_look_75 (by decide) (fun cq => ?_) (fun cq => ?_)
        · have hw := hw.1 (bI_f cq)
          refine lv_bipush (v := (-2)) hx hb dX11_look_87 (by decide) ?_
          exact m_reti hx hb hr hlk hM hS ⟨_, rfl, hw⟩ dX11_look_89
        · have hw := hw.2 (bI_t cq)
          refine lv_aload_n hx hb dX11_look_78 rfl (lv_at hl 1 rfl) ?_
          refine lv_iload hx hb dX11_look_79 (lv_at hl 0 rfl) ?_
          refine m_ci (m_runV E hM hS cs_X11_421 hq3.1.1 (by decide) rfl rfl (c_X2_shoesHeard hq3 hw) rfl rfl ⟨Nat.le_of_ble_eq_true rfl, Nat.le_of_ble_eq_true rfl⟩ rfl hl.1 rfl (Nat.le_of_ble_eq_true rfl) dX11_look_81 ⟨Nat.le_of_ble_eq_true rfl, Nat.le_of_ble_eq_true rfl⟩) hS (fun r9 u H locs hp hM hS => ?_)
          obtain ⟨rfl, hw⟩ := hp
          refine lv_goto (tgt := 89) hx hb dX11_look_84 (by decide) ?_
          exact m_reti hx hb hr hlk hM hS ⟨_, rfl, hw⟩ dX11_look_89
      by_cases cq2 : x5 = 2
      · have hw := hw.2.2.1 cq2
        refine lv_tableIn (tgt := 90) hx hb dX11_look_27 (by rw [cq2]; decide) (by rw [cq2]; decide) (by rw [cq2]; rfl) (by decide) ?_
        refine lv_aload_n hx hb dX11_look_90 rfl (lv_at hl 1 rfl) ?_
        refine m_getr E hM fs_X11_209 hq3.1.1 hq3.2.1 dX11_look_91 ?_
        refine lv_iload hx hb dX11_look_94 (lv_at hl 0 rfl) ?_
        refine m_ci (m_runV E hM hS cs_X11_269 hq3.2.2.1 (by decide) rfl rfl (c_X3_hasFlat hq3.2.2 hw) rfl rfl ⟨Nat.le_of_ble_eq_true rfl, Nat.le_of_ble_eq_true rfl⟩ rfl hl.1 rfl (Nat.le_of_ble_eq_true rfl) dX11_look_96 ⟨Nat.le_of_ble_eq_true rfl, Nat.le_of_ble_eq_true rfl⟩) hS (fun r9 u H locs hp hM hS => ?_)
        obtain ⟨b10, rfl, rfl, hw⟩ := hp
        refine lv_if_eq (tgt := 111) hx hb dX11_look_99 (by decide) (fun cq => ?_) (fun cq => ?_)
        · have hw := hw.1 (bI_f cq)
          refine lv_bipush (v := (-2)) hx hb dX11_look_111 (by decide) ?_
          exact m_reti hx hb hr hlk hM hS ⟨_, rfl, hw⟩ dX11_look_113
        · have hw := hw.2 (bI_t cq)
          refine lv_aload_n hx hb dX11_look_102 rfl (lv_at hl 1 rfl) ?_
          refine lv_iload hx hb dX11_look_103 (lv_at hl 0 rfl) ?_
          refine m_ci (m_runV E hM hS cs_X11_424 hq3.1.1 (by decide) rfl rfl (c_X2_quietestStep hq3 hw) rfl rfl ⟨Nat.le_of_ble_eq_true rfl, Nat.le_of_ble_eq_true rfl⟩ rfl hl.1 rfl (Nat.le_of_ble_eq_true rfl) dX11_look_105 ⟨Nat.le_of_ble_eq_true rfl, Nat.le_of_ble_eq_true rfl⟩) hS (fun r11 u H locs hp hM hS => ?_)
          obtain ⟨I12, rfl, hw⟩ := hp
          refine lv_goto (tgt := 113) hx hb dX11_look_108 (by decide) ?_
          exact m_reti hx hb hr hlk hM hS ⟨_, rfl, hw⟩ dX11_look_113
      by_cases cq3 : x5 = 3
      · have hw := hw.2.2.2.1 cq3
        refine lv_tableIn (tgt := 114) hx hb dX11_look_27 (by rw [cq3]; decide) (by rw [cq3]; decide) (by rw [cq3]; rfl) (by decide) ?_
        refine lv_aload_n hx hb dX11_look_114 rfl (lv_at hl 1 rfl) ?_
        refine m_getr E hM fs_X11_209 hq3.1.1 hq3.2.1 dX11_look_115 ?_
        refine lv_iload hx hb dX11_look_118 (lv_at hl 0 rfl) ?_
        refine m_ci (m_runV E hM hS cs_X11_210 hq3.2.2.1 (by decide) rfl rfl (c_X3_hasPerson hq3.2.2 hw) rfl rfl ⟨Nat.le_of_ble_eq_true rfl, Nat.le_of_ble_eq_true rfl⟩ rfl hl.1 rfl (Nat.le_of_ble_eq_true rfl) dX11_look_120 ⟨Nat.le_of_ble_eq_true rfl, Nat.le_of_ble_eq_true rfl⟩) hS (fun r9 u H locs hp hM hS => ?_)
        obtain ⟨b13, rfl, rfl, hw⟩ := hp
        refine lv_if_eq (tgt := 135) hx hb dX11_look_123 (by decide) (fun cq => ?_) (fun cq => ?_)
        · have hw := hw.1 (bI_f cq)
          refine lv_bipush (v := (-2)) hx hb dX11_look_135 (by decide) ?_
          exact m_reti hx hb hr hlk hM hS ⟨_, rfl, hw⟩ dX11_look_137
        · have hw := hw.2 (bI_t cq)
          refine lv_aload_n hx hb dX11_look_126 rfl (lv_at hl 1 rfl) ?_
          refine lv_iload hx hb dX11_look_127 (lv_at hl 0 rfl) ?_
          refine m_ci (m_runV E hM hS cs_X11_427 hq3.1.1 (by decide) rfl rfl (c_X2_loudestUnheardShoe hq3 hw) rfl rfl ⟨Nat.le_of_ble_eq_true rfl, Nat.le_of_ble_eq_true rfl⟩ rfl hl.1 rfl (Nat.le_of_ble_eq_true rfl) dX11_look_129 ⟨Nat.le_of_ble_eq_true rfl, Nat.le_of_ble_eq_true rfl⟩) hS (fun r14 u H locs hp hM hS => ?_)
          obtain ⟨rfl, hw⟩ := hp
          refine lv_goto (tgt := 137) hx hb dX11_look_132 (by decide) ?_
          exact m_reti hx hb hr hlk hM hS ⟨_, rfl, hw⟩ dX11_look_137
      by_cases cq4 : x5 = 4
      · have hw := hw.2.2.2.2.1 cq4
        refine lv_tableIn (tgt := 138) hx hb dX11_look_27 (by rw [cq4]; decide) (by rw [cq4]; decide) (by rw [cq4]; rfl) (by decide) ?_
        refine lv_aload_n hx hb dX11_look_138 rfl (lv_at hl 1 rfl) ?_
        refine m_getr E hM fs_X11_209 hq3.1.1 hq3.2.1 dX11_look_139 ?_
        refine lv_iload hx hb dX11_look_142 (lv_at hl 0 rfl) ?_
        refine m_ci (m_runV E hM hS cs_X11_210 hq3.2.2.1 (by decide) rfl rfl (c_X3_hasPerson hq3.2.2 hw) rfl rfl ⟨Nat.le_of_ble_eq_true rfl, Nat.le_of_ble_eq_true rfl⟩ rfl hl.1 rfl (Nat.le_of_ble_eq_true rfl) dX11_look_144 ⟨Nat.le_of_ble_eq_true rfl, Nat.le_of_ble_eq_true rfl⟩) hS (fun r9 u H locs hp hM hS => ?_)
        obtain ⟨b15, rfl, rfl, hw⟩ := hp
        refine lv_if_eq (tgt := 160) hx hb dX11_look_147 (by decide) (fun cq => ?_) (fun cq => ?_)
        · have hw := hw.1 (bI_f cq)
          refine lv_bipush (v := (-2)) hx hb dX11_look_160 (by decide) ?_
          exact m_reti hx hb hr hlk hM hS ⟨_, rfl, hw⟩ dX11_look_162
        · have hw := hw.2 (bI_t cq)
          refine lv_aload_n hx hb dX11_look_150 rfl (lv_at hl 2 rfl) ?_
          refine lv_aload_n hx hb dX11_look_151 rfl (lv_at hl 1 rfl) ?_
          refine lv_iload hx hb dX11_look_152 (lv_at hl 0 rfl) ?_
          refine m_ci (m_runV E hM hS cs_X11_430 ho.1 (by decide) rfl rfl (c_X11_bestBegin ho hq3 hw) rfl rfl ⟨Nat.le_of_ble_eq_true rfl, Nat.le_of_ble_eq_true rfl⟩ rfl hl.1 rfl (Nat.le_of_ble_eq_true rfl) dX11_look_154 ⟨Nat.le_of_ble_eq_true rfl, Nat.le_of_ble_eq_true rfl⟩) hS (fun r16 u H locs hp hM hS => ?_)
          obtain ⟨I17, rfl, hw⟩ := hp
          refine lv_goto (tgt := 162) hx hb dX11_look_157 (by decide) ?_
          exact m_reti hx hb hr hlk hM hS ⟨_, rfl, hw⟩ dX11_look_162
      have hw := hw.2.2.2.2.2 cq0 cq1 cq2 cq3 cq4
      refine lv_tableOut (tgt := 163) hx hb dX11_look_27 (by have hn0 := lv_neT cq0 (a := 0) (by decide); have hn1 := lv_neT cq1 (a := 1) (by decide); have hn2 := lv_neT cq2 (a := 2) (by decide); have hn3 := lv_neT cq3 (a := 3) (by decide); have hn4 := lv_neT cq4 (a := 4) (by decide); omega) (by decide) ?_
      refine lv_bipush (v := (-2)) hx hb dX11_look_163 (by decide) ?_
      exact m_reti hx hb hr hlk hM hS ⟨_, rfl, hw⟩ dX11_look_165
    · have hw := hw.2 cq
      refine lv_bipush (v := (-2)) hx hb dX11_look_14 (by decide) ?_
      exact m_reti hx hb hr hlk hM hS ⟨_, rfl, hw⟩ dX11_look_16
theorem dX11_count_0 : decode cX11_count 0 = .ok (.aload_n 0, 1) := by decide +kernel
theorem dX11_count_1 : decode cX11_count 1 = .ok (.iload_n 1, 1) := by decide +kernel
theorem dX11_count_2 : decode cX11_count 2 = .ok (.invokevirtual 115, 3) := by decide +kernel
theorem dX11_count_5 : decode cX11_count 5 = .ok (.ireturn, 1) := by decide +kernel
def w_X11_count (I : mI) (a1 : Int32) (post : Int32 → Prop) : Prop := w_X11_howMany I a1 (fun r1 => post r1)
set_option maxRecDepth 100000 in
set_option maxHeartbeats 4000000 in
theorem c_X11_count {l : Launch} {D : va_G} {cA : Nat → ClassId} {Z : mZ} {bs n : Nat} {K : mK} {R : mR} {I : mI} {L : mL} {a1 : Int32} {post : Int32 → Prop} (ho : isX11 K R ) (hw : w_X11_count I a1 post) : Met l yX11_count (.code yX11_count cX11_count 2 (some .int) :: gw) ({ frames := 1, cells := 0, slots := 0, locals := 21 } : Room) (PreM D cA Z bs (n, K, R, I, L) [.ref (bs + 0), .int a1]) (QI D cA bs (fun r u => u = (n, K, R, I, L) ∧ post r)) 0 0 (Ab bs) := by
  refine m_met (by decide) (Nat.le_of_ble_eq_true rfl) (fun p e s m below meth c ls E hr hlk hM hS hl => ?_)
  have E : Ev p s m _ c cX11_count 2 RX11 D cA Z bs := E
  have hl : lv_has ls 2 [(0, .ref (bs + 0)), (1, .int a1)] := hl
  have hx := E.1.1
  have hb := E.1.2.1
  generalize hHe : s.heap = H at hM ⊢
  have hS : va_S (Ab bs) s.heap H [] := by rw [← hHe]; exact va_S.rf
  clear hHe
  refine lv_aload_n hx hb dX11_count_0 rfl (lv_at hl 0 rfl) ?_
  refine lv_iload_n hx hb dX11_count_1 rfl (lv_at hl 1 rfl) ?_
  refine m_ci (m_runV E hM hS cs_X11_115 ho.1 (by decide) rfl rfl (c_X11_howMany ho hw) rfl rfl ⟨Nat.le_of_ble_eq_true rfl, Nat.le_of_ble_eq_true rfl⟩ rfl hl.1 rfl (Nat.le_of_ble_eq_true rfl) dX11_count_2 ⟨Nat.le_of_ble_eq_true rfl, Nat.le_of_ble_eq_true rfl⟩) hS (fun r1 u H locs hp hM hS => ?_)
  obtain ⟨rfl, hw⟩ := hp
  exact m_reti hx hb hr hlk hM hS ⟨rfl, hw⟩ dX11_count_5
