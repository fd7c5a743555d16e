theorem dX11_feed_0 : decode cX11_feed 0 = .ok (.aload_n 0, 1) := by decide +kernel
theorem dX11_feed_1 : decode cX11_feed 1 = .ok (.getfield 12, 3) := by decide +kernel
theorem dX11_feed_4 : decode cX11_feed 4 = .ok (.getfield 81, 3) := by decide +kernel
theorem dX11_feed_7 : decode cX11_feed 7 = .ok (.bipush 20, 2) := by decide +kernel
theorem dX11_feed_9 : decode cX11_feed 9 = .ok (.iadd, 1) := by decide +kernel
theorem dX11_feed_10 : decode cX11_feed 10 = .ok (.sipush 600, 3) := by decide +kernel
theorem dX11_feed_13 : decode cX11_feed 13 = .ok (.if_icmp .le 5, 3) := by decide +kernel
theorem dX11_feed_16 : decode cX11_feed 16 = .ok (.iconst (-1), 1) := by decide +kernel
theorem dX11_feed_17 : decode cX11_feed 17 = .ok (.ireturn, 1) := by decide +kernel
theorem dX11_feed_18 : decode cX11_feed 18 = .ok (.aload_n 0, 1) := by decide +kernel
theorem dX11_feed_19 : decode cX11_feed 19 = .ok (.getfield 12, 3) := by decide +kernel
theorem dX11_feed_22 : decode cX11_feed 22 = .ok (.iload_n 1, 1) := by decide +kernel
theorem dX11_feed_23 : decode cX11_feed 23 = .ok (.invokevirtual 85, 3) := by decide +kernel
theorem dX11_feed_26 : decode cX11_feed 26 = .ok (.aload_n 0, 1) := by decide +kernel
theorem dX11_feed_27 : decode cX11_feed 27 = .ok (.getfield 12, 3) := by decide +kernel
theorem dX11_feed_30 : decode cX11_feed 30 = .ok (.iload_n 2, 1) := by decide +kernel
theorem dX11_feed_31 : decode cX11_feed 31 = .ok (.invokevirtual 85, 3) := by decide +kernel
theorem dX11_feed_34 : decode cX11_feed 34 = .ok (.aload_n 0, 1) := by decide +kernel
theorem dX11_feed_35 : decode cX11_feed 35 = .ok (.getfield 12, 3) := by decide +kernel
theorem dX11_feed_38 : decode cX11_feed 38 = .ok (.iload_n 3, 1) := by decide +kernel
theorem dX11_feed_39 : decode cX11_feed 39 = .ok (.invokevirtual 85, 3) := by decide +kernel
theorem dX11_feed_42 : decode cX11_feed 42 = .ok (.aload_n 0, 1) := by decide +kernel
theorem dX11_feed_43 : decode cX11_feed 43 = .ok (.getfield 12, 3) := by decide +kernel
theorem dX11_feed_46 : decode cX11_feed 46 = .ok (.iload 4, 2) := by decide +kernel
theorem dX11_feed_48 : decode cX11_feed 48 = .ok (.invokevirtual 85, 3) := by decide +kernel
theorem dX11_feed_51 : decode cX11_feed 51 = .ok (.aload_n 0, 1) := by decide +kernel
theorem dX11_feed_52 : decode cX11_feed 52 = .ok (.getfield 12, 3) := by decide +kernel
theorem dX11_feed_55 : decode cX11_feed 55 = .ok (.iload 5, 2) := by decide +kernel
theorem dX11_feed_57 : decode cX11_feed 57 = .ok (.invokevirtual 85, 3) := by decide +kernel
theorem dX11_feed_60 : decode cX11_feed 60 = .ok (.aload_n 0, 1) := by decide +kernel
theorem dX11_feed_61 : decode cX11_feed 61 = .ok (.getfield 12, 3) := by decide +kernel
theorem dX11_feed_64 : decode cX11_feed 64 = .ok (.getfield 81, 3) := by decide +kernel
theorem dX11_feed_67 : decode cX11_feed 67 = .ok (.ireturn, 1) := by decide +kernel
def w_X11_feed (I : mI) (a1 : Int32) (a2 : Int32) (a3 : Int32) (a4 : Int32) (a5 : Int32) (post : Int32 → mI → Prop) : Prop := (((I 1 1) + 20) ≤ 600 → w_X8_append I 1 a1 (fun I1 => w_X8_append I1 1 a2 (fun I2 => w_X8_append I2 1 a3 (fun I3 => w_X8_append I3 1 a4 (fun I4 => w_X8_append I4 1 a5 (fun I5 => post (I5 1 1) I5)))))) ∧ (¬ ((I 1 1) + 20) ≤ 600 → post (-1) I)
set_option maxRecDepth 100000 in
set_option maxHeartbeats 4000000 in
theorem c_X11_feed {l : Launch} {D : va_G} {cA : Nat → ClassId} {Z : mZ} {bs : Ad} {n : Nat} {K : mK} {R : mR} {I : mI} {L : mL} {a1 : Int32} {a2 : Int32} {a3 : Int32} {a4 : Int32} {a5 : Int32} {post : Int32 → mI → Prop} (ho : isX11 K R ) (hw : w_X11_feed I a1 a2 a3 a4 a5 post) : Met l yX11_feed (.code yX11_feed cX11_feed 6 (some .int) :: gw) ({ frames := 1, cells := 0, slots := 0, locals := 22 } : Room) (PreM D cA Z bs (n, K, R, I, L) [.ref (ad bs 0), .int a1, .int a2, .int a3, .int a4, .int a5]) (QI D cA bs (fun r u => ∃ I', u = (n, K, R, I', L) ∧ post r I')) 0 0 (Ab bs) := by
  refine m_met (by decide) (Nat.le_of_ble_eq_true rfl) (fun p e s m below meth c ls E hr hlk hM hS hl => ?_)
  have E : Ev p s m _ c cX11_feed 6 RX11 D cA Z bs := E
  have hl : lv_has ls 6 [(0, .ref (ad bs 0)), (1, .int a1), (2, .int a2), (3, .int a3), (4, .int a4), (5, .int a5)] := hl
  have hx := E.1.1
  have hb := E.1.2.1
  generalize hHe : s.heap = H at hM ⊢
  have hS : va_S (Ab bs) s.heap H [] := by rw [← hHe]; exact va_S.rf
  clear hHe
  refine lv_aload_n hx hb dX11_feed_0 rfl (lv_at hl 0 rfl) ?_
  refine m_getr E hM fs_X11_12 ho.1 ho.2.1.1 dX11_feed_1 ?_
  refine m_geti E hM fs_X11_81 ho.2.1.2.1.1 dX11_feed_4 ?_
  refine lv_bipush (v := 20) hx hb dX11_feed_7 (by decide) ?_
  refine lv_iadd hx hb dX11_feed_9 ?_
  refine lv_sipush (v := 600) hx hb dX11_feed_10 (by decide) ?_
  refine lv_icmp_le (tgt := 18) hx hb dX11_feed_13 (by decide) (fun cq => ?_) (fun cq => ?_)
  · have hw := hw.1 cq
    refine lv_aload_n hx hb dX11_feed_18 rfl (lv_at hl 0 rfl) ?_
    refine m_getr E hM fs_X11_12 ho.1 ho.2.1.1 dX11_feed_19 ?_
    refine lv_iload_n hx hb dX11_feed_22 rfl (lv_at hl 1 rfl) ?_
    refine m_cv (m_runV E hM hS cs_X11_85 ho.2.1.2.1.1 (by decide) rfl rfl (c_X8_append ho.2.1.2 hw) rfl rfl ⟨Nat.le_of_ble_eq_true rfl, Nat.le_of_ble_eq_true rfl⟩ rfl hl.1 rfl (Nat.le_of_ble_eq_true rfl) dX11_feed_23 ⟨Nat.le_of_ble_eq_true rfl, Nat.le_of_ble_eq_true rfl⟩) hS (fun u H locs hp hM hS => ?_)
    obtain ⟨I1, rfl, hw⟩ := hp
    refine lv_aload_n hx hb dX11_feed_26 rfl (lv_at hl 0 rfl) ?_
    refine m_getr E hM fs_X11_12 ho.1 ho.2.1.1 dX11_feed_27 ?_
    refine lv_iload_n hx hb dX11_feed_30 rfl (lv_at hl 2 rfl) ?_
    refine m_cv (m_runV E hM hS cs_X11_85 ho.2.1.2.1.1 (by decide) rfl rfl (c_X8_append ho.2.1.2 hw) rfl rfl ⟨Nat.le_of_ble_eq_true rfl, Nat.le_of_ble_eq_true rfl⟩ rfl hl.1 rfl (Nat.le_of_ble_eq_true rfl) dX11_feed_31 ⟨Nat.le_of_ble_eq_true rfl, Nat.le_of_ble_eq_true rfl⟩) hS (fun u H locs hp hM hS => ?_)
    obtain ⟨I2, rfl, hw⟩ := hp
    refine lv_aload_n hx hb dX11_feed_34 rfl (lv_at hl 0 rfl) ?_
    refine m_getr E hM fs_X11_12 ho.1 ho.2.1.1 dX11_feed_35 ?_
    refine lv_iload_n hx hb dX11_feed_38 rfl (lv_at hl 3 rfl) ?_
    refine m_cv (m_runV E hM hS cs_X11_85 ho.2.1.2.1.1 (by decide) rfl rfl (c_X8_append ho.2.1.2 hw) rfl rfl ⟨Nat.le_of_ble_eq_true rfl, Nat.le_of_ble_eq_true rfl⟩ rfl hl.1 rfl (Nat.le_of_ble_eq_true rfl) dX11_feed_39 ⟨Nat.le_of_ble_eq_true rfl, Nat.le_of_ble_eq_true rfl⟩) hS (fun u H locs hp hM hS => ?_)
    obtain ⟨I3, rfl, hw⟩ := hp
    refine lv_aload_n hx hb dX11_feed_42 rfl (lv_at hl 0 rfl) ?_
    refine m_getr E hM fs_X11_12 ho.1 ho.2.1.1 dX11_feed_43 ?_
    refine lv_iload hx hb dX11_feed_46 (lv_at hl 4 rfl) ?_
    refine m_cv (m_runV E hM hS cs_X11_85 ho.2.1.2.1.1 (by decide) rfl rfl (c_X8_append ho.2.1.2 hw) rfl rfl ⟨Nat.le_of_ble_eq_true rfl, Nat.le_of_ble_eq_true rfl⟩ rfl hl.1 rfl (Nat.le_of_ble_eq_true rfl) dX11_feed_48 ⟨Nat.le_of_ble_eq_true rfl, Nat.le_of_ble_eq_true rfl⟩) hS (fun u H locs hp hM hS => ?_)
    obtain ⟨I4, rfl, hw⟩ := hp
    refine lv_aload_n hx hb dX11_feed_51 rfl (lv_at hl 0 rfl) ?_
    refine m_getr E hM fs_X11_12 ho.1 ho.2.1.1 dX11_feed_52 ?_
    refine lv_iload hx hb dX11_feed_55 (lv_at hl 5 rfl) ?_
    refine m_cv (m_runV E hM hS cs_X11_85 ho.2.1.2.1.1 (by decide) rfl rfl (c_X8_append ho.2.1.2 hw) rfl rfl ⟨Nat.le_of_ble_eq_true rfl, Nat.le_of_ble_eq_true rfl⟩ rfl hl.1 rfl (Nat.le_of_ble_eq_true rfl) dX11_feed_57 ⟨Nat.le_of_ble_eq_true rfl, Nat.le_of_ble_eq_true rfl⟩) hS (fun u H locs hp hM hS => ?_)
    obtain ⟨I5, rfl, hw⟩ := hp
    refine lv_aload_n hx hb dX11_feed_60 rfl (lv_at hl 0 rfl) ?_
    refine m_getr E hM fs_X11_12 ho.1 ho.2.1.1 dX11_feed_61 ?_
    refine m_geti E hM fs_X11_81 ho.2.1.2.1.1 dX11_feed_64 ?_
    exact m_reti hx hb hr hlk hM hS ⟨_, rfl, hw⟩ dX11_feed_67
  · have hw := hw.2 cq
    refine lv_iconst (v := (-1)) hx hb dX11_feed_16 (by decide) ?_
    exact m_reti hx hb hr hlk hM hS ⟨_, rfl, hw⟩ dX11_feed_17
theorem dX11_end_0 : decode cX11_end 0 = .ok (.iload_n 1, 1) := by decide +kernel
theorem dX11_end_1 : decode cX11_end 1 = .ok (.ifCond .lt 14, 3) := by decide +kernel
theorem dX11_end_4 : decode cX11_end 4 = .ok (.iload_n 1, 1) := by decide +kernel
theorem dX11_end_5 : decode cX11_end 5 = .ok (.aload_n 0, 1) := by decide +kernel
theorem dX11_end_6 : decode cX11_end 6 = .ok (.getfield 12, 3) := by decide +kernel
theorem dX11_end_9 : decode cX11_end 9 = .ok (.getfield 81, 3) := by decide +kernel
theorem dX11_end_12 : decode cX11_end 12 = .ok (.if_icmp .le 5, 3) := by decide +kernel
theorem dX11_end_15 : decode cX11_end 15 = .ok (.iconst (-1), 1) := by decide +kernel
theorem dX11_end_16 : decode cX11_end 16 = .ok (.ireturn, 1) := by decide +kernel
theorem dX11_end_17 : decode cX11_end 17 = .ok (.aload_n 0, 1) := by decide +kernel
theorem dX11_end_18 : decode cX11_end 18 = .ok (.getfield 12, 3) := by decide +kernel
theorem dX11_end_21 : decode cX11_end 21 = .ok (.iload_n 1, 1) := by decide +kernel
theorem dX11_end_22 : decode cX11_end 22 = .ok (.putfield 81, 3) := by decide +kernel
theorem dX11_end_25 : decode cX11_end 25 = .ok (.iload_n 1, 1) := by decide +kernel
theorem dX11_end_26 : decode cX11_end 26 = .ok (.ireturn, 1) := by decide +kernel
def w_X11_end (I : mI) (a1 : Int32) (post : Int32 → mI → Prop) : Prop := (a1 < 0 → post (-1) I) ∧ (¬ a1 < 0 → (a1 ≤ (I 1 1) → ∀ I1, I1 = up2 I 1 1 a1 → post a1 I1) ∧ (¬ a1 ≤ (I 1 1) → post (-1) I))
set_option maxRecDepth 100000 in
set_option maxHeartbeats 4000000 in
theorem c_X11_end {l : Launch} {D : va_G} {cA : Nat → ClassId} {Z : mZ} {bs : Ad} {n : Nat} {K : mK} {R : mR} {I : mI} {L : mL} {a1 : Int32} {post : Int32 → mI → Prop} (ho : isX11 K R ) (hw : w_X11_end I a1 post) : Met l yX11_end (.code yX11_end cX11_end 2 (some .int) :: gw) ({ frames := 0, cells := 0, slots := 0, locals := 0 } : Room) (PreM D cA Z bs (n, K, R, I, L) [.ref (ad bs 0), .int a1]) (QI D cA bs (fun r u => ∃ I', u = (n, K, R, I', L) ∧ post r I')) 0 0 (Ab bs) := by
  refine m_met (by decide) (Nat.le_of_ble_eq_true rfl) (fun p e s m below meth c ls E hr hlk hM hS hl => ?_)
  have E : Ev p s m _ c cX11_end 2 RX11 D cA Z bs := E
  have hl : lv_has ls 2 [(0, .ref (ad bs 0)), (1, .int a1)] := hl
  have hx := E.1.1
  have hb := E.1.2.1
  generalize hHe : s.heap = H at hM ⊢
  have hS : va_S (Ab bs) s.heap H [] := by rw [← hHe]; exact va_S.rf
  clear hHe
  refine lv_iload_n hx hb dX11_end_0 rfl (lv_at hl 1 rfl) ?_
  refine lv_if_lt (tgt := 15) hx hb dX11_end_1 (by decide) (fun cq => ?_) (fun cq => ?_)
  · have hw := hw.1 cq
    refine lv_iconst (v := (-1)) hx hb dX11_end_15 (by decide) ?_
    exact m_reti hx hb hr hlk hM hS ⟨_, rfl, hw⟩ dX11_end_16
  · have hw := hw.2 cq
    refine lv_iload_n hx hb dX11_end_4 rfl (lv_at hl 1 rfl) ?_
    refine lv_aload_n hx hb dX11_end_5 rfl (lv_at hl 0 rfl) ?_
    refine m_getr E hM fs_X11_12 ho.1 ho.2.1.1 dX11_end_6 ?_
    refine m_geti E hM fs_X11_81 ho.2.1.2.1.1 dX11_end_9 ?_
    refine lv_icmp_le (tgt := 17) hx hb dX11_end_12 (by decide) (fun cq => ?_) (fun cq => ?_)
    · have hw := hw.1 cq
      refine lv_aload_n hx hb dX11_end_17 rfl (lv_at hl 0 rfl) ?_
      refine m_getr E hM fs_X11_12 ho.1 ho.2.1.1 dX11_end_18 ?_
      refine lv_iload_n hx hb dX11_end_21 rfl (lv_at hl 1 rfl) ?_
      refine m_puti E hM hS fp_X11_81 ho.2.1.2.1.1 rfl rfl dX11_end_22 (fun I1 H locs eI1 hM hS => ?_)
      have hw := hw I1 eI1
      refine lv_iload_n hx hb dX11_end_25 rfl (lv_at hl 1 rfl) ?_
      exact m_reti hx hb hr hlk hM hS ⟨_, rfl, hw⟩ dX11_end_26
    · have hw := hw.2 cq
      refine lv_iconst (v := (-1)) hx hb dX11_end_15 (by decide) ?_
      exact m_reti hx hb hr hlk hM hS ⟨_, rfl, hw⟩ dX11_end_16
theorem dX11_howMany_0 : decode cX11_howMany 0 = .ok (.iload_n 1, 1) := by decide +kernel
theorem dX11_howMany_1 : decode cX11_howMany 1 = .ok (.ifCond .ne 11, 3) := by decide +kernel
theorem dX11_howMany_4 : decode cX11_howMany 4 = .ok (.aload_n 0, 1) := by decide +kernel
theorem dX11_howMany_5 : decode cX11_howMany 5 = .ok (.getfield 12, 3) := by decide +kernel
theorem dX11_howMany_8 : decode cX11_howMany 8 = .ok (.getfield 126, 3) := by decide +kernel
theorem dX11_howMany_11 : decode cX11_howMany 11 = .ok (.ireturn, 1) := by decide +kernel
theorem dX11_howMany_12 : decode cX11_howMany 12 = .ok (.iload_n 1, 1) := by decide +kernel
theorem dX11_howMany_13 : decode cX11_howMany 13 = .ok (.iconst 1, 1) := by decide +kernel
theorem dX11_howMany_14 : decode cX11_howMany 14 = .ok (.if_icmp .ne 13, 3) := by decide +kernel
theorem dX11_howMany_17 : decode cX11_howMany 17 = .ok (.aload_n 0, 1) := by decide +kernel
theorem dX11_howMany_18 : decode cX11_howMany 18 = .ok (.getfield 12, 3) := by decide +kernel
theorem dX11_howMany_21 : decode cX11_howMany 21 = .ok (.getfield 150, 3) := by decide +kernel
theorem dX11_howMany_24 : decode cX11_howMany 24 = .ok (.goto 5, 3) := by decide +kernel
theorem dX11_howMany_27 : decode cX11_howMany 27 = .ok (.bipush (-2), 2) := by decide +kernel
theorem dX11_howMany_29 : decode cX11_howMany 29 = .ok (.ireturn, 1) := by decide +kernel
def w_X11_howMany (I : mI) (a1 : Int32) (post : Int32 → Prop) : Prop := (¬ a1 = 0 → (¬ a1 = 1 → post (-2)) ∧ (a1 = 1 → post (I 1 5))) ∧ (a1 = 0 → post (I 1 4))
set_option maxRecDepth 100000 in
set_option maxHeartbeats 4000000 in
theorem c_X11_howMany {l : Launch} {D : va_G} {cA : Nat → ClassId} {Z : mZ} {bs : Ad} {n : Nat} {K : mK} {R : mR} {I : mI} {L : mL} {a1 : Int32} {post : Int32 → Prop} (ho : isX11 K R ) (hw : w_X11_howMany I a1 post) : Met l yX11_howMany (.code yX11_howMany cX11_howMany 2 (some .int) :: gw) ({ frames := 0, cells := 0, slots := 0, locals := 0 } : Room) (PreM D cA Z bs (n, K, R, I, L) [.ref (ad bs 0), .int a1]) (QI D cA bs (fun r u => u = (n, K, R, I, L) ∧ post r)) 0 0 (Ab bs) := by
  refine m_met (by decide) (Nat.le_of_ble_eq_true rfl) (fun p e s m below meth c ls E hr hlk hM hS hl => ?_)
  have E : Ev p s m _ c cX11_howMany 2 RX11 D cA Z bs := E
  have hl : lv_has ls 2 [(0, .ref (ad bs 0)), (1, .int a1)] := hl
  have hx := E.1.1
  have hb := E.1.2.1
  generalize hHe : s.heap = H at hM ⊢
  have hS : va_S (Ab bs) s.heap H [] := by rw [← hHe]; exact va_S.rf
  clear hHe
  refine lv_iload_n hx hb dX11_howMany_0 rfl (lv_at hl 1 rfl) ?_
  refine lv_if_ne (tgt := 12) hx hb dX11_howMany_1 (by decide) (fun cq => ?_) (fun cq => ?_)
  · have hw := hw.1 cq
    refine lv_iload_n hx hb dX11_howMany_12 rfl (lv_at hl 1 rfl) ?_
    refine lv_iconst (v := 1) hx hb dX11_howMany_13 (by decide) ?_
    refine lv_icmp_ne (tgt := 27) hx hb dX11_howMany_14 (by decide) (fun cq => ?_) (fun cq => ?_)
    · have hw := hw.1 cq
      refine lv_bipush (v := (-2)) hx hb dX11_howMany_27 (by decide) ?_
      exact m_reti hx hb hr hlk hM hS ⟨rfl, hw⟩ dX11_howMany_29
    · have hw := hw.2 cq
      refine lv_aload_n hx hb dX11_howMany_17 rfl (lv_at hl 0 rfl) ?_
      refine m_getr E hM fs_X11_12 ho.1 ho.2.1.1 dX11_howMany_18 ?_
      refine m_geti E hM fs_X11_150 ho.2.1.2.1.1 dX11_howMany_21 ?_
      refine lv_goto (tgt := 29) hx hb dX11_howMany_24 (by decide) ?_
      exact m_reti hx hb hr hlk hM hS ⟨rfl, hw⟩ dX11_howMany_29
  · have hw := hw.2 cq
    refine lv_aload_n hx hb dX11_howMany_4 rfl (lv_at hl 0 rfl) ?_
    refine m_getr E hM fs_X11_12 ho.1 ho.2.1.1 dX11_howMany_5 ?_
    refine m_geti E hM fs_X11_126 ho.2.1.2.1.1 dX11_howMany_8 ?_
    exact m_reti hx hb hr hlk hM hS ⟨rfl, hw⟩ dX11_howMany_11
theorem dX11_placeFor_0 : decode cX11_placeFor 0 = .ok (.aload_n 0, 1) := by decide +kernel
theorem dX11_placeFor_1 : decode cX11_placeFor 1 = .ok (.iload_n 1, 1) := by decide +kernel
theorem dX11_placeFor_2 : decode cX11_placeFor 2 = .ok (.invokevirtual 108, 3) := by decide +kernel
theorem dX11_placeFor_5 : decode cX11_placeFor 5 = .ok (.istore_n 3, 1) := by decide +kernel
theorem dX11_placeFor_6 : decode cX11_placeFor 6 = .ok (.iload_n 3, 1) := by decide +kernel
theorem dX11_placeFor_7 : decode cX11_placeFor 7 = .ok (.ifCond .ge 5, 3) := by decide +kernel
theorem dX11_placeFor_10 : decode cX11_placeFor 10 = .ok (.iconst (-1), 1) := by decide +kernel
theorem dX11_placeFor_11 : decode cX11_placeFor 11 = .ok (.ireturn, 1) := by decide +kernel
theorem dX11_placeFor_12 : decode cX11_placeFor 12 = .ok (.iload_n 2, 1) := by decide +kernel
theorem dX11_placeFor_13 : decode cX11_placeFor 13 = .ok (.iconst (-1), 1) := by decide +kernel
theorem dX11_placeFor_14 : decode cX11_placeFor 14 = .ok (.if_icmp .ne 14, 3) := by decide +kernel
theorem dX11_placeFor_17 : decode cX11_placeFor 17 = .ok (.iload_n 3, 1) := by decide +kernel
theorem dX11_placeFor_18 : decode cX11_placeFor 18 = .ok (.iconst 2, 1) := by decide +kernel
theorem dX11_placeFor_19 : decode cX11_placeFor 19 = .ok (.if_icmp .ge 7, 3) := by decide +kernel
theorem dX11_placeFor_22 : decode cX11_placeFor 22 = .ok (.iload_n 3, 1) := by decide +kernel
theorem dX11_placeFor_23 : decode cX11_placeFor 23 = .ok (.goto 4, 3) := by decide +kernel
theorem dX11_placeFor_26 : decode cX11_placeFor 26 = .ok (.iconst (-1), 1) := by decide +kernel
theorem dX11_placeFor_27 : decode cX11_placeFor 27 = .ok (.ireturn, 1) := by decide +kernel
theorem dX11_placeFor_28 : decode cX11_placeFor 28 = .ok (.iload_n 2, 1) := by decide +kernel
theorem dX11_placeFor_29 : decode cX11_placeFor 29 = .ok (.ifCond .lt 12, 3) := by decide +kernel
theorem dX11_placeFor_32 : decode cX11_placeFor 32 = .ok (.iload_n 2, 1) := by decide +kernel
theorem dX11_placeFor_33 : decode cX11_placeFor 33 = .ok (.iload_n 3, 1) := by decide +kernel
theorem dX11_placeFor_34 : decode cX11_placeFor 34 = .ok (.if_icmp .ge 7, 3) := by decide +kernel
theorem dX11_placeFor_37 : decode cX11_placeFor 37 = .ok (.iload_n 2, 1) := by decide +kernel
theorem dX11_placeFor_38 : decode cX11_placeFor 38 = .ok (.goto 4, 3) := by decide +kernel
theorem dX11_placeFor_41 : decode cX11_placeFor 41 = .ok (.iconst (-1), 1) := by decide +kernel
theorem dX11_placeFor_42 : decode cX11_placeFor 42 = .ok (.ireturn, 1) := by decide +kernel
def w_X11_placeFor (I : mI) (a1 : Int32) (a2 : Int32) (post : Int32 → Prop) : Prop := w_X11_howMany I a1 (fun r1 => (0 ≤ r1 → (¬ a2 = (-1) → (a2 < 0 → post (-1)) ∧ (¬ a2 < 0 → (r1 ≤ a2 → post (-1)) ∧ (¬ r1 ≤ a2 → post a2))) ∧ (a2 = (-1) → (2 ≤ r1 → post (-1)) ∧ (¬ 2 ≤ r1 → post r1))) ∧ (¬ 0 ≤ r1 → post (-1)))
set_option maxRecDepth 100000 in
set_option maxHeartbeats 4000000 in
theorem c_X11_placeFor {l : Launch} {D : va_G} {cA : Nat → ClassId} {Z : mZ} {bs : Ad} {n : Nat} {K : mK} {R : mR} {I : mI} {L : mL} {a1 : Int32} {a2 : Int32} {post : Int32 → Prop} (ho : isX11 K R ) (hw : w_X11_placeFor I a1 a2 post) : Met l yX11_placeFor (.code yX11_placeFor cX11_placeFor 4 (some .int) :: gw) ({ frames := 1, cells := 0, slots := 0, locals := 21 } : Room) (PreM D cA Z bs (n, K, R, I, L) [.ref (ad bs 0), .int a1, .int a2]) (QI D cA bs (fun r u => u = (n, K, R, I, L) ∧ post r)) 0 0 (Ab bs) := by
  refine m_met (by decide) (Nat.le_of_ble_eq_true rfl) (fun p e s m below meth c ls E hr hlk hM hS hl => ?_)
  have E : Ev p s m _ c cX11_placeFor 4 RX11 D cA Z bs := E
  have hl : lv_has ls 4 [(0, .ref (ad bs 0)), (1, .int a1), (2, .int a2)] := hl
  have hx := E.1.1
  have hb := E.1.2.1
  generalize hHe : s.heap = H at hM ⊢
  have hS : va_S (Ab bs) s.heap H [] := by rw [← hHe]; exact va_S.rf
  clear hHe
  refine lv_aload_n hx hb dX11_placeFor_0 rfl (lv_at hl 0 rfl) ?_
  refine lv_iload_n hx hb dX11_placeFor_1 rfl (lv_at hl 1 rfl) ?_
  refine m_ci (m_runV E hM hS cs_X11_108 ho.1 (by decide) rfl rfl (c_X11_howMany ho hw) rfl rfl ⟨Nat.le_of_ble_eq_true rfl, Nat.le_of_ble_eq_true rfl⟩ rfl hl.1 rfl (Nat.le_of_ble_eq_true rfl) dX11_placeFor_2 ⟨Nat.le_of_ble_eq_true rfl, Nat.le_of_ble_eq_true rfl⟩) hS (fun r1 u H locs hp hM hS => ?_)
  obtain ⟨rfl, hw⟩ := hp
  refine lv_istore_n (lv' := [(3, .int r1), (0, .ref (ad bs 0)), (1, .int a1), (2, .int a2)]) hx hb dX11_placeFor_5 rfl hl (by decide) rfl (fun ls hl => ?_)
  refine lv_iload_n hx hb dX11_placeFor_6 rfl (lv_at hl 0 rfl) ?_
  refine lv_if_ge (tgt := 12) hx hb dX11_placeFor_7 (by decide) (fun cq => ?_) (fun cq => ?_)
  · have hw := hw.1 cq
    refine lv_iload_n hx hb dX11_placeFor_12 rfl (lv_at hl 3 rfl) ?_
    refine lv_iconst (v := (-1)) hx hb dX11_placeFor_13 (by decide) ?_
    refine lv_icmp_ne (tgt := 28) hx hb dX11_placeFor_14 (by decide) (fun cq => ?_) (fun cq => ?_)
    · have hw := hw.1 cq
      refine lv_iload_n hx hb dX11_placeFor_28 rfl (lv_at hl 3 rfl) ?_
      refine lv_if_lt (tgt := 41) hx hb dX11_placeFor_29 (by decide) (fun cq => ?_) (fun cq => ?_)
      · have hw := hw.1 cq
        refine lv_iconst (v := (-1)) hx hb dX11_placeFor_41 (by decide) ?_
        exact m_reti hx hb hr hlk hM hS ⟨rfl, hw⟩ dX11_placeFor_42
      · have hw := hw.2 cq
        refine lv_iload_n hx hb dX11_placeFor_32 rfl (lv_at hl 3 rfl) ?_
        refine lv_iload_n hx hb dX11_placeFor_33 rfl (lv_at hl 0 rfl) ?_
        refine lv_icmp_ge (tgt := 41) hx hb dX11_placeFor_34 (by decide) (fun cq => ?_) (fun cq => ?_)
        · have hw := hw.1 cq
          refine lv_iconst (v := (-1)) hx hb dX11_placeFor_41 (by decide) ?_
          exact m_reti hx hb hr hlk hM hS ⟨rfl, hw⟩ dX11_placeFor_42
        · have hw := hw.2 cq
          refine lv_iload_n hx hb dX11_placeFor_37 rfl (lv_at hl 3 rfl) ?_
          refine lv_goto (tgt := 42) hx hb dX11_placeFor_38 (by decide) ?_
          exact m_reti hx hb hr hlk hM hS ⟨rfl, hw⟩ dX11_placeFor_42
    · have hw := hw.2 cq
      refine lv_iload_n hx hb dX11_placeFor_17 rfl (lv_at hl 0 rfl) ?_
      refine lv_iconst (v := 2) hx hb dX11_placeFor_18 (by decide) ?_
      refine lv_icmp_ge (tgt := 26) hx hb dX11_placeFor_19 (by decide) (fun cq => ?_) (fun cq => ?_)
      · have hw := hw.1 cq
        refine lv_iconst (v := (-1)) hx hb dX11_placeFor_26 (by decide) ?_
        exact m_reti hx hb hr hlk hM hS ⟨rfl, hw⟩ dX11_placeFor_27
      · have hw := hw.2 cq
        refine lv_iload_n hx hb dX11_placeFor_22 rfl (lv_at hl 0 rfl) ?_
        refine lv_goto (tgt := 27) hx hb dX11_placeFor_23 (by decide) ?_
        exact m_reti hx hb hr hlk hM hS ⟨rfl, hw⟩ dX11_placeFor_27
  · have hw := hw.2 cq
    refine lv_iconst (v := (-1)) hx hb dX11_placeFor_10 (by decide) ?_
    exact m_reti hx hb hr hlk hM hS ⟨rfl, hw⟩ dX11_placeFor_11
theorem dX11_forgetEvening_0 : decode cX11_forgetEvening 0 = .ok (.aload_n 0, 1) := by decide +kernel
theorem dX11_forgetEvening_1 : decode cX11_forgetEvening 1 = .ok (.getfield 35, 3) := by decide +kernel
theorem dX11_forgetEvening_4 : decode cX11_forgetEvening 4 = .ok (.iload_n 1, 1) := by decide +kernel
theorem dX11_forgetEvening_5 : decode cX11_forgetEvening 5 = .ok (.aaload, 1) := by decide +kernel
theorem dX11_forgetEvening_6 : decode cX11_forgetEvening 6 = .ok (.ifnull 13, 3) := by decide +kernel
theorem dX11_forgetEvening_9 : decode cX11_forgetEvening 9 = .ok (.aload_n 0, 1) := by decide +kernel
theorem dX11_forgetEvening_10 : decode cX11_forgetEvening 10 = .ok (.getfield 35, 3) := by decide +kernel
theorem dX11_forgetEvening_13 : decode cX11_forgetEvening 13 = .ok (.iload_n 1, 1) := by decide +kernel
theorem dX11_forgetEvening_14 : decode cX11_forgetEvening 14 = .ok (.aaload, 1) := by decide +kernel
theorem dX11_forgetEvening_15 : decode cX11_forgetEvening 15 = .ok (.iconst 0, 1) := by decide +kernel
theorem dX11_forgetEvening_16 : decode cX11_forgetEvening 16 = .ok (.putfield 446, 3) := by decide +kernel
theorem dX11_forgetEvening_19 : decode cX11_forgetEvening 19 = .ok (.aload_n 0, 1) := by decide +kernel
theorem dX11_forgetEvening_20 : decode cX11_forgetEvening 20 = .ok (.getfield 49, 3) := by decide +kernel
theorem dX11_forgetEvening_23 : decode cX11_forgetEvening 23 = .ok (.invokevirtual 450, 3) := by decide +kernel
theorem dX11_forgetEvening_26 : decode cX11_forgetEvening 26 = .ok (.return_, 1) := by decide +kernel
def w_X11_forgetEvening (I : mI) (a1 : Int32) (post : mI → Prop) : Prop := vp_in a1 2 ∧ ∀ I1, I1 = up2 I (94 + 17 * a1.toNatClampNeg) 1 0 → w_X7_forget I1 70 (fun I2 => post I2)
set_option maxRecDepth 100000 in
set_option maxHeartbeats 4000000 in
theorem s_X11_forgetEvening_19 {p : Program} {l : Launch} {e : Env} {s : State} {m : MethodId} {args : Array Value} {below : List Frame} {meth : Method} {c : Code} {D : va_G} {cA : Nat → ClassId} {Z : mZ} {bs : Ad} {n : Nat} {K : mK} {R : mR} {I : mI} {L : mL} (E : Ev p s m args c cX11_forgetEvening 2 RX11 D cA Z bs) (hr : meth.sig.returnType = none) (hlk : meth.locks = false) (ho : isX11 K R) {a1 : Int32} {post : mI → Prop} {H : Heap} {locs : List Loc} {ls : Array Slot} (hw : w_X7_forget I 70 (fun I2 => post I2)) (hM : mm D cA bs (n, K, R, I, L) H) (hS : va_S (Ab bs) s.heap H locs) (hl : lv_has ls 2 [(0, .ref (ad bs 0)), (1, .int a1)]) : W p l e ({ frames := 1, cells := 0, slots := 0, locals := 20 } : Room) s m args below meth c H locs 0 0 (MQ below (QV D cA bs (fun u => ∃ I', u = (n, K, R, I', L) ∧ post I')) args s 0 0 (Ab bs)) (F0 m 19 ls []) := by
  have hx := E.1.1
  have hb := E.1.2.1
  refine lv_aload_n hx hb dX11_forgetEvening_19 rfl (lv_at hl 0 rfl) ?_
  refine m_getr E hM fs_X11_49 ho.1 ho.2.2.2.2.2.2.1.1 dX11_forgetEvening_20 ?_
  refine m_cv (m_runV E hM hS cs_X11_450 (ho.2.2.2.2.2.2.1.2).1 (by decide) rfl rfl (c_X7_forget (ho.2.2.2.2.2.2.1.2) hw) rfl rfl ⟨Nat.le_of_ble_eq_true rfl, Nat.le_of_ble_eq_true rfl⟩ rfl hl.1 rfl (Nat.le_of_ble_eq_true rfl) dX11_forgetEvening_23 ⟨Nat.le_of_ble_eq_true rfl, Nat.le_of_ble_eq_true rfl⟩) hS (fun u H locs hp hM hS => ?_)
  obtain ⟨I2, rfl, hw⟩ := hp
  exact m_retv hx hb hr hlk hM hS ⟨_, rfl, hw⟩ dX11_forgetEvening_26
set_option maxRecDepth 100000 in
set_option maxHeartbeats 4000000 in
theorem c_X11_forgetEvening {l : Launch} {D : va_G} {cA : Nat → ClassId} {Z : mZ} {bs : Ad} {n : Nat} {K : mK} {R : mR} {I : mI} {L : mL} {a1 : Int32} {post : mI → Prop} (ho : isX11 K R ) (hw : w_X11_forgetEvening I a1 post) : Met l yX11_forgetEvening (.code yX11_forgetEvening cX11_forgetEvening 2 none :: gw) ({ frames := 1, cells := 0, slots := 0, locals := 20 } : Room) (PreM D cA Z bs (n, K, R, I, L) [.ref (ad bs 0), .int a1]) (QV D cA bs (fun u => ∃ I', u = (n, K, R, I', L) ∧ post I')) 0 0 (Ab bs) := by
  refine m_met (by decide) (Nat.le_of_ble_eq_true rfl) (fun p e s m below meth c ls E hr hlk hM hS hl => ?_)
  have E : Ev p s m _ c cX11_forgetEvening 2 RX11 D cA Z bs := E
  have hl : lv_has ls 2 [(0, .ref (ad bs 0)), (1, .int a1)] := hl
  have hx := E.1.1
  have hb := E.1.2.1
  generalize hHe : s.heap = H at hM ⊢
  have hS : va_S (Ab bs) s.heap H [] := by rw [← hHe]; exact va_S.rf
  clear hHe
  obtain ⟨hv, hw⟩ := hw
  have h65 : R 65 a1.toNatClampNeg = some (94 + 17 * a1.toNatClampNeg) := (ho.2.2.2.2.1.2.2 _ (vp_in_lt hv)).1
  refine lv_aload_n hx hb dX11_forgetEvening_0 rfl (lv_at hl 0 rfl) ?_
  refine m_getr E hM fs_X11_35 ho.1 ho.2.2.2.2.1.1 dX11_forgetEvening_1 ?_
  refine lv_iload_n hx hb dX11_forgetEvening_4 rfl (lv_at hl 1 rfl) ?_
  rcases (ho.2.2.2.2.1.2.2 _ (vp_in_lt hv)).2 with hs | hH
  · have hlv : (K (94 + 17 * a1.toNatClampNeg)).1 ≠ 99 := by rw [hs.1.1]; decide
    refine m_aaldE E hM ho.2.2.2.2.1.2.1 hv h65 hlv dX11_forgetEvening_5 ?_
    refine lv_ifnull hx hb dX11_forgetEvening_6 ?_
    refine lv_aload_n hx hb dX11_forgetEvening_9 rfl (lv_at hl 0 rfl) ?_
    refine m_getr E hM fs_X11_35 ho.1 ho.2.2.2.2.1.1 dX11_forgetEvening_10 ?_
    refine lv_iload_n hx hb dX11_forgetEvening_13 rfl (lv_at hl 1 rfl) ?_
    refine m_aaldE E hM ho.2.2.2.2.1.2.1 hv h65 hlv dX11_forgetEvening_14 ?_
    refine lv_iconst (v := 0) hx hb dX11_forgetEvening_15 (by decide) ?_
    refine m_puti E hM hS fp_X11_446 hs.1.1 rfl rfl dX11_forgetEvening_16 (fun I1 H locs eI1 hM hS => ?_)
    exact s_X11_forgetEvening_19 E hr hlk ho (hw I1 eI1) hM hS hl
  · have l65 : (K 65).1 = 17 := by rw [ho.2.2.2.2.1.2.1]
    have hh : bs.2.2 (94 + 17 * a1.toNatClampNeg) = true := (hM.2.2.2.2.1 65 _ _ (by show (K 65).1 ≠ 99; rw [l65]; decide) (Or.inr (by show 17 ≤ (K 65).1; rw [l65]; decide)) h65).elim (fun q => absurd hH.1 q) (fun q => q.2.2.2)
    have hz : I (94 + 17 * a1.toNatClampNeg) = i0 := (hM.2.2.2.2.2.1 _ hh).2.2.1
    refine m_aaldH E hM ho.2.2.2.2.1.2.1 hv h65 hh dX11_forgetEvening_5 ?_
    refine lv_ifnullN (tgt := 19) hx hb dX11_forgetEvening_6 (by decide) ?_
    refine s_X11_forgetEvening_19 E hr hlk ho (hw I ?_) hM hS hl
    funext c k
    by_cases hc : c = 94 + 17 * a1.toNatClampNeg
    · subst hc
      by_cases hk : k = 1
      · subst hk; rw [up2_at, hz]; rfl
      · rw [up2_off _ _ (Or.inr hk)]
    · rw [up2_off _ _ (Or.inl hc)]
theorem dX11_takeText_0 : decode cX11_takeText 0 = .ok (.iload_n 1, 1) := by decide +kernel
theorem dX11_takeText_1 : decode cX11_takeText 1 = .ok (.ifCond .ne 50, 3) := by decide +kernel
theorem dX11_takeText_4 : decode cX11_takeText 4 = .ok (.aload_n 0, 1) := by decide +kernel
theorem dX11_takeText_5 : decode cX11_takeText 5 = .ok (.getfield 12, 3) := by decide +kernel
theorem dX11_takeText_8 : decode cX11_takeText 8 = .ok (.getfield 112, 3) := by decide +kernel
theorem dX11_takeText_11 : decode cX11_takeText 11 = .ok (.iload_n 2, 1) := by decide +kernel
theorem dX11_takeText_12 : decode cX11_takeText 12 = .ok (.aaload, 1) := by decide +kernel
theorem dX11_takeText_13 : decode cX11_takeText 13 = .ok (.aload_n 0, 1) := by decide +kernel
theorem dX11_takeText_14 : decode cX11_takeText 14 = .ok (.getfield 29, 3) := by decide +kernel
theorem dX11_takeText_17 : decode cX11_takeText 17 = .ok (.getfield 116, 3) := by decide +kernel
theorem dX11_takeText_20 : decode cX11_takeText 20 = .ok (.invokevirtual 120, 3) := by decide +kernel
theorem dX11_takeText_23 : decode cX11_takeText 23 = .ok (.aload_n 0, 1) := by decide +kernel
theorem dX11_takeText_24 : decode cX11_takeText 24 = .ok (.getfield 12, 3) := by decide +kernel
theorem dX11_takeText_27 : decode cX11_takeText 27 = .ok (.aload_n 0, 1) := by decide +kernel
theorem dX11_takeText_28 : decode cX11_takeText 28 = .ok (.getfield 12, 3) := by decide +kernel
theorem dX11_takeText_31 : decode cX11_takeText 31 = .ok (.getfield 126, 3) := by decide +kernel
theorem dX11_takeText_34 : decode cX11_takeText 34 = .ok (.iload_n 2, 1) := by decide +kernel
theorem dX11_takeText_35 : decode cX11_takeText 35 = .ok (.iconst 1, 1) := by decide +kernel
theorem dX11_takeText_36 : decode cX11_takeText 36 = .ok (.iadd, 1) := by decide +kernel
theorem dX11_takeText_37 : decode cX11_takeText 37 = .ok (.invokestatic 129, 3) := by decide +kernel
theorem dX11_takeText_40 : decode cX11_takeText 40 = .ok (.putfield 126, 3) := by decide +kernel
theorem dX11_takeText_43 : decode cX11_takeText 43 = .ok (.aload_n 0, 1) := by decide +kernel
theorem dX11_takeText_44 : decode cX11_takeText 44 = .ok (.iload_n 2, 1) := by decide +kernel
theorem dX11_takeText_45 : decode cX11_takeText 45 = .ok (.invokevirtual 134, 3) := by decide +kernel
theorem dX11_takeText_48 : decode cX11_takeText 48 = .ok (.goto 42, 3) := by decide +kernel
theorem dX11_takeText_51 : decode cX11_takeText 51 = .ok (.aload_n 0, 1) := by decide +kernel
theorem dX11_takeText_52 : decode cX11_takeText 52 = .ok (.getfield 12, 3) := by decide +kernel
theorem dX11_takeText_55 : decode cX11_takeText 55 = .ok (.getfield 137, 3) := by decide +kernel
theorem dX11_takeText_58 : decode cX11_takeText 58 = .ok (.iload_n 2, 1) := by decide +kernel
theorem dX11_takeText_59 : decode cX11_takeText 59 = .ok (.aaload, 1) := by decide +kernel
theorem dX11_takeText_60 : decode cX11_takeText 60 = .ok (.aload_n 0, 1) := by decide +kernel
theorem dX11_takeText_61 : decode cX11_takeText 61 = .ok (.getfield 29, 3) := by decide +kernel
theorem dX11_takeText_64 : decode cX11_takeText 64 = .ok (.getfield 141, 3) := by decide +kernel
theorem dX11_takeText_67 : decode cX11_takeText 67 = .ok (.invokevirtual 145, 3) := by decide +kernel
theorem dX11_takeText_70 : decode cX11_takeText 70 = .ok (.aload_n 0, 1) := by decide +kernel
theorem dX11_takeText_71 : decode cX11_takeText 71 = .ok (.getfield 12, 3) := by decide +kernel
theorem dX11_takeText_74 : decode cX11_takeText 74 = .ok (.aload_n 0, 1) := by decide +kernel
theorem dX11_takeText_75 : decode cX11_takeText 75 = .ok (.getfield 12, 3) := by decide +kernel
theorem dX11_takeText_78 : decode cX11_takeText 78 = .ok (.getfield 150, 3) := by decide +kernel
theorem dX11_takeText_81 : decode cX11_takeText 81 = .ok (.iload_n 2, 1) := by decide +kernel
theorem dX11_takeText_82 : decode cX11_takeText 82 = .ok (.iconst 1, 1) := by decide +kernel
theorem dX11_takeText_83 : decode cX11_takeText 83 = .ok (.iadd, 1) := by decide +kernel
theorem dX11_takeText_84 : decode cX11_takeText 84 = .ok (.invokestatic 129, 3) := by decide +kernel
theorem dX11_takeText_87 : decode cX11_takeText 87 = .ok (.putfield 150, 3) := by decide +kernel
theorem dX11_takeText_90 : decode cX11_takeText 90 = .ok (.return_, 1) := by decide +kernel
def w_X11_takeText (I : mI) (a1 : Int32) (a2 : Int32) (post : mI → Prop) : Prop := (¬ a1 = 0 → vp_in a2 2 ∧ w_X6_copyFrom I (1 + 18 + 19 * a2.toNatClampNeg) 59 (fun I2 => ∀ I3, I3 = up2 I2 1 5 (imax (I2 1 5) (a2 + 1)) → post I3)) ∧ (a1 = 0 → vp_in a2 2 ∧ w_X3_copyFrom I (1 + 4 + 19 * a2.toNatClampNeg) 45 (fun I5 => ∀ I6, I6 = up2 I5 1 4 (imax (I5 1 4) (a2 + 1)) → w_X11_forgetEvening I6 a2 (fun I7 => post I7)))
set_option maxRecDepth 100000 in
set_option maxHeartbeats 4000000 in
theorem c_X11_takeText {l : Launch} {D : va_G} {cA : Nat → ClassId} {Z : mZ} {bs : Ad} {n : Nat} {K : mK} {R : mR} {I : mI} {L : mL} {a1 : Int32} {a2 : Int32} {post : mI → Prop} (ho : isX11 K R ) (hw : w_X11_takeText I a1 a2 post) : Met l yX11_takeText (.code yX11_takeText cX11_takeText 3 none :: gw) ({ frames := 2, cells := 0, slots := 0, locals := 101 } : Room) (PreM D cA Z bs (n, K, R, I, L) [.ref (ad bs 0), .int a1, .int a2]) (QV D cA bs (fun u => ∃ I', u = (n, K, R, I', L) ∧ post I')) 0 0 (Ab bs) := by
  refine m_met (by decide) (Nat.le_of_ble_eq_true rfl) (fun p e s m below meth c ls E hr hlk hM hS hl => ?_)
  have E : Ev p s m _ c cX11_takeText 3 RX11 D cA Z bs := E
  have hl : lv_has ls 3 [(0, .ref (ad bs 0)), (1, .int a1), (2, .int a2)] := hl
  have hx := E.1.1
  have hb := E.1.2.1
  generalize hHe : s.heap = H at hM ⊢
  have hS : va_S (Ab bs) s.heap H [] := by rw [← hHe]; exact va_S.rf
  clear hHe
  refine lv_iload_n hx hb dX11_takeText_0 rfl (lv_at hl 1 rfl) ?_
  refine lv_if_ne (tgt := 51) hx hb dX11_takeText_1 (by decide) (fun cq => ?_) (fun cq => ?_)
  · have hw := hw.1 cq
    refine lv_aload_n hx hb dX11_takeText_51 rfl (lv_at hl 0 rfl) ?_
    refine m_getr E hM fs_X11_12 ho.1 ho.2.1.1 dX11_takeText_52 ?_
    refine m_getr E hM fs_X11_137 ho.2.1.2.1.1 (isO_at ho.2.1.2.1 2 rfl).1 dX11_takeText_55 ?_
    refine lv_iload_n hx hb dX11_takeText_58 rfl (lv_at hl 2 rfl) ?_
    obtain ⟨hv, hw⟩ := hw
    have hs1 := ((ho.2.1.2.2 _ (vp_in_lt hv)).2).2
    refine m_aaldS E hM (isO_at ho.2.1.2.1 2 rfl).2 (by simp) hv ((ho.2.1.2.2 _ (vp_in_lt hv)).2).1 dX11_takeText_59 ?_
    refine lv_aload_n hx hb dX11_takeText_60 rfl (lv_at hl 0 rfl) ?_
    refine m_getr E hM fs_X11_29 ho.1 ho.2.2.2.1.1 dX11_takeText_61 ?_
    refine m_getr E hM fs_X11_141 ho.2.2.2.1.2.1.1 ho.2.2.2.1.2.2.2.1.1 dX11_takeText_64 ?_
    refine m_cv (m_runV E hM hS cs_X11_145 hs1.1 (by decide) rfl rfl (c_X6_copyFrom hs1 ho.2.2.2.1.2.2.2.1.2 hw) rfl rfl ⟨Nat.le_of_ble_eq_true rfl, Nat.le_of_ble_eq_true rfl⟩ rfl hl.1 rfl (Nat.le_of_ble_eq_true rfl) dX11_takeText_67 ⟨Nat.le_of_ble_eq_true rfl, Nat.le_of_ble_eq_true rfl⟩) hS (fun u H locs hp hM hS => ?_)
    obtain ⟨I2, rfl, hw⟩ := hp
    refine lv_aload_n hx hb dX11_takeText_70 rfl (lv_at hl 0 rfl) ?_
    refine m_getr E hM fs_X11_12 ho.1 ho.2.1.1 dX11_takeText_71 ?_
    refine lv_aload_n hx hb dX11_takeText_74 rfl (lv_at hl 0 rfl) ?_
    refine m_getr E hM fs_X11_12 ho.1 ho.2.1.1 dX11_takeText_75 ?_
    refine m_geti E hM fs_X11_150 ho.2.1.2.1.1 dX11_takeText_78 ?_
    refine lv_iload_n hx hb dX11_takeText_81 rfl (lv_at hl 2 rfl) ?_
    refine lv_iconst (v := 1) hx hb dX11_takeText_82 (by decide) ?_
    refine lv_iadd hx hb dX11_takeText_83 ?_
    refine m_max E ml_X11_129 hl.1 (Nat.le_of_ble_eq_true rfl) (Nat.le_of_ble_eq_true rfl) (Nat.le_of_ble_eq_true rfl) (Nat.le_of_ble_eq_true rfl) dX11_takeText_84 ?_
    refine m_puti E hM hS fp_X11_150 ho.2.1.2.1.1 rfl rfl dX11_takeText_87 (fun I3 H locs eI3 hM hS => ?_)
    have hw := hw I3 eI3
    exact m_retv hx hb hr hlk hM hS ⟨_, rfl, hw⟩ dX11_takeText_90
  · have hw := hw.2 cq
    refine lv_aload_n hx hb dX11_takeText_4 rfl (lv_at hl 0 rfl) ?_
    refine m_getr E hM fs_X11_12 ho.1 ho.2.1.1 dX11_takeText_5 ?_
    refine m_getr E hM fs_X11_112 ho.2.1.2.1.1 (isO_at ho.2.1.2.1 1 rfl).1 dX11_takeText_8 ?_
    refine lv_iload_n hx hb dX11_takeText_11 rfl (lv_at hl 2 rfl) ?_
    obtain ⟨hv, hw⟩ := hw
    have hs4 := ((ho.2.1.2.2 _ (vp_in_lt hv)).1).2
    refine m_aaldS E hM (isO_at ho.2.1.2.1 1 rfl).2 (by simp) hv ((ho.2.1.2.2 _ (vp_in_lt hv)).1).1 dX11_takeText_12 ?_
    refine lv_aload_n hx hb dX11_takeText_13 rfl (lv_at hl 0 rfl) ?_
    refine m_getr E hM fs_X11_29 ho.1 ho.2.2.2.1.1 dX11_takeText_14 ?_
    refine m_getr E hM fs_X11_116 ho.2.2.2.1.2.1.1 ho.2.2.2.1.2.2.1.1 dX11_takeText_17 ?_
    refine m_cv (m_runV E hM hS cs_X11_120 hs4.1 (by decide) rfl rfl (c_X3_copyFrom hs4 ho.2.2.2.1.2.2.1.2 hw) rfl rfl ⟨Nat.le_of_ble_eq_true rfl, Nat.le_of_ble_eq_true rfl⟩ rfl hl.1 rfl (Nat.le_of_ble_eq_true rfl) dX11_takeText_20 ⟨Nat.le_of_ble_eq_true rfl, Nat.le_of_ble_eq_true rfl⟩) hS (fun u H locs hp hM hS => ?_)
    obtain ⟨I5, rfl, hw⟩ := hp
    refine lv_aload_n hx hb dX11_takeText_23 rfl (lv_at hl 0 rfl) ?_
    refine m_getr E hM fs_X11_12 ho.1 ho.2.1.1 dX11_takeText_24 ?_
    refine lv_aload_n hx hb dX11_takeText_27 rfl (lv_at hl 0 rfl) ?_
    refine m_getr E hM fs_X11_12 ho.1 ho.2.1.1 dX11_takeText_28 ?_
    refine m_geti E hM fs_X11_126 ho.2.1.2.1.1 dX11_takeText_31 ?_
    refine lv_iload_n hx hb dX11_takeText_34 rfl (lv_at hl 2 rfl) ?_
    refine lv_iconst (v := 1) hx hb dX11_takeText_35 (by decide) ?_
    refine lv_iadd hx hb dX11_takeText_36 ?_
    refine m_max E ml_X11_129 hl.1 (Nat.le_of_ble_eq_true rfl) (Nat.le_of_ble_eq_true rfl) (Nat.le_of_ble_eq_true rfl) (Nat.le_of_ble_eq_true rfl) dX11_takeText_37 ?_
    refine m_puti E hM hS fp_X11_126 ho.2.1.2.1.1 rfl rfl dX11_takeText_40 (fun I6 H locs eI6 hM hS => ?_)
    have hw := hw I6 eI6
    refine lv_aload_n hx hb dX11_takeText_43 rfl (lv_at hl 0 rfl) ?_
    refine lv_iload_n hx hb dX11_takeText_44 rfl (lv_at hl 2 rfl) ?_
    refine m_cv (m_runV E hM hS cs_X11_134 ho.1 (by decide) rfl rfl (c_X11_forgetEvening ho hw) rfl rfl ⟨Nat.le_of_ble_eq_true rfl, Nat.le_of_ble_eq_true rfl⟩ rfl hl.1 rfl (Nat.le_of_ble_eq_true rfl) dX11_takeText_45 ⟨Nat.le_of_ble_eq_true rfl, Nat.le_of_ble_eq_true rfl⟩) hS (fun u H locs hp hM hS => ?_)
    obtain ⟨I7, rfl, hw⟩ := hp
    refine lv_goto (tgt := 90) hx hb dX11_takeText_48 (by decide) ?_
    exact m_retv hx hb hr hlk hM hS ⟨_, rfl, hw⟩ dX11_takeText_90
theorem dX11_fault_0 : decode cX11_fault 0 = .ok (.iload_n 1, 1) := by decide +kernel
theorem dX11_fault_1 : decode cX11_fault 1 = .ok (.ifCond .ne 11, 3) := by decide +kernel
theorem dX11_fault_4 : decode cX11_fault 4 = .ok (.aload_n 0, 1) := by decide +kernel
theorem dX11_fault_5 : decode cX11_fault 5 = .ok (.getfield 12, 3) := by decide +kernel
theorem dX11_fault_8 : decode cX11_fault 8 = .ok (.getfield 89, 3) := by decide +kernel
theorem dX11_fault_11 : decode cX11_fault 11 = .ok (.ireturn, 1) := by decide +kernel
theorem dX11_fault_12 : decode cX11_fault 12 = .ok (.iload_n 1, 1) := by decide +kernel
theorem dX11_fault_13 : decode cX11_fault 13 = .ok (.iconst 1, 1) := by decide +kernel
theorem dX11_fault_14 : decode cX11_fault 14 = .ok (.if_icmp .ne 13, 3) := by decide +kernel
theorem dX11_fault_17 : decode cX11_fault 17 = .ok (.aload_n 0, 1) := by decide +kernel
theorem dX11_fault_18 : decode cX11_fault 18 = .ok (.getfield 12, 3) := by decide +kernel
theorem dX11_fault_21 : decode cX11_fault 21 = .ok (.getfield 92, 3) := by decide +kernel
theorem dX11_fault_24 : decode cX11_fault 24 = .ok (.goto 4, 3) := by decide +kernel
theorem dX11_fault_27 : decode cX11_fault 27 = .ok (.iconst (-1), 1) := by decide +kernel
theorem dX11_fault_28 : decode cX11_fault 28 = .ok (.ireturn, 1) := by decide +kernel
def w_X11_fault (I : mI) (a1 : Int32) (post : Int32 → Prop) : Prop := (¬ a1 = 0 → (¬ a1 = 1 → post (-1)) ∧ (a1 = 1 → post (I 1 3))) ∧ (a1 = 0 → post (I 1 2))
set_option maxRecDepth 100000 in
set_option maxHeartbeats 4000000 in
theorem c_X11_fault {l : Launch} {D : va_G} {cA : Nat → ClassId} {Z : mZ} {bs : Ad} {n : Nat} {K : mK} {R : mR} {I : mI} {L : mL} {a1 : Int32} {post : Int32 → Prop} (ho : isX11 K R ) (hw : w_X11_fault I a1 post) : Met l yX11_fault (.code yX11_fault cX11_fault 2 (some .int) :: gw) ({ frames := 0, cells := 0, slots := 0, locals := 0 } : Room) (PreM D cA Z bs (n, K, R, I, L) [.ref (ad bs 0), .int a1]) (QI D cA bs (fun r u => u = (n, K, R, I, L) ∧ post r)) 0 0 (Ab bs) := by
  refine m_met (by decide) (Nat.le_of_ble_eq_true rfl) (fun p e s m below meth c ls E hr hlk hM hS hl => ?_)
  have E : Ev p s m _ c cX11_fault 2 RX11 D cA Z bs := E
  have hl : lv_has ls 2 [(0, .ref (ad bs 0)), (1, .int a1)] := hl
  have hx := E.1.1
  have hb := E.1.2.1
  generalize hHe : s.heap = H at hM ⊢
  have hS : va_S (Ab bs) s.heap H [] := by rw [← hHe]; exact va_S.rf
  clear hHe
  refine lv_iload_n hx hb dX11_fault_0 rfl (lv_at hl 1 rfl) ?_
  refine lv_if_ne (tgt := 12) hx hb dX11_fault_1 (by decide) (fun cq => ?_) (fun cq => ?_)
  · have hw := hw.1 cq
    refine lv_iload_n hx hb dX11_fault_12 rfl (lv_at hl 1 rfl) ?_
    refine lv_iconst (v := 1) hx hb dX11_fault_13 (by decide) ?_
    refine lv_icmp_ne (tgt := 27) hx hb dX11_fault_14 (by decide) (fun cq => ?_) (fun cq => ?_)
    · have hw := hw.1 cq
      refine lv_iconst (v := (-1)) hx hb dX11_fault_27 (by decide) ?_
      exact m_reti hx hb hr hlk hM hS ⟨rfl, hw⟩ dX11_fault_28
    · have hw := hw.2 cq
      refine lv_aload_n hx hb dX11_fault_17 rfl (lv_at hl 0 rfl) ?_
      refine m_getr E hM fs_X11_12 ho.1 ho.2.1.1 dX11_fault_18 ?_
      refine m_geti E hM fs_X11_92 ho.2.1.2.1.1 dX11_fault_21 ?_
      refine lv_goto (tgt := 28) hx hb dX11_fault_24 (by decide) ?_
      exact m_reti hx hb hr hlk hM hS ⟨rfl, hw⟩ dX11_fault_28
  · have hw := hw.2 cq
    refine lv_aload_n hx hb dX11_fault_4 rfl (lv_at hl 0 rfl) ?_
    refine m_getr E hM fs_X11_12 ho.1 ho.2.1.1 dX11_fault_5 ?_
    refine m_geti E hM fs_X11_89 ho.2.1.2.1.1 dX11_fault_8 ?_
    exact m_reti hx hb hr hlk hM hS ⟨rfl, hw⟩ dX11_fault_11
theorem dX11_houseAt_0 : decode cX11_houseAt 0 = .ok (.iload_n 1, 1) := by decide +kernel
theorem dX11_houseAt_1 : decode cX11_houseAt 1 = .ok (.ifCond .lt 26, 3) := by decide +kernel
theorem dX11_houseAt_4 : decode cX11_houseAt 4 = .ok (.iload_n 1, 1) := by decide +kernel
theorem dX11_houseAt_5 : decode cX11_houseAt 5 = .ok (.aload_n 0, 1) := by decide +kernel
theorem dX11_houseAt_6 : decode cX11_houseAt 6 = .ok (.getfield 12, 3) := by decide +kernel
theorem dX11_houseAt_9 : decode cX11_houseAt 9 = .ok (.getfield 126, 3) := by decide +kernel
theorem dX11_houseAt_12 : decode cX11_houseAt 12 = .ok (.if_icmp .ge 15, 3) := by decide +kernel
theorem dX11_houseAt_15 : decode cX11_houseAt 15 = .ok (.aload_n 0, 1) := by decide +kernel
theorem dX11_houseAt_16 : decode cX11_houseAt 16 = .ok (.getfield 12, 3) := by decide +kernel
theorem dX11_houseAt_19 : decode cX11_houseAt 19 = .ok (.getfield 112, 3) := by decide +kernel
theorem dX11_houseAt_22 : decode cX11_houseAt 22 = .ok (.iload_n 1, 1) := by decide +kernel
theorem dX11_houseAt_23 : decode cX11_houseAt 23 = .ok (.aaload, 1) := by decide +kernel
theorem dX11_houseAt_24 : decode cX11_houseAt 24 = .ok (.goto 4, 3) := by decide +kernel
theorem dX11_houseAt_27 : decode cX11_houseAt 27 = .ok (.aconst_null, 1) := by decide +kernel
theorem dX11_houseAt_28 : decode cX11_houseAt 28 = .ok (.areturn, 1) := by decide +kernel
def w_X11_houseAt (I : mI) (a1 : Int32) (post : Option Nat → Prop) : Prop := (a1 < 0 → post none) ∧ (¬ a1 < 0 → ((I 1 4) ≤ a1 → post none) ∧ (¬ (I 1 4) ≤ a1 → vp_in a1 2 ∧ post (some (1 + 4 + 19 * a1.toNatClampNeg))))
set_option maxRecDepth 100000 in
set_option maxHeartbeats 4000000 in
theorem c_X11_houseAt {l : Launch} {D : va_G} {cA : Nat → ClassId} {Z : mZ} {bs : Ad} {n : Nat} {K : mK} {R : mR} {I : mI} {L : mL} {a1 : Int32} {post : Option Nat → Prop} (ho : isX11 K R ) (hw : w_X11_houseAt I a1 post) : Met l yX11_houseAt (.code yX11_houseAt cX11_houseAt 2 (some (.object "EchoStair$House")) :: gw) ({ frames := 0, cells := 0, slots := 0, locals := 0 } : Room) (PreM D cA Z bs (n, K, R, I, L) [.ref (ad bs 0), .int a1]) (QO D cA bs (fun r u => u = (n, K, R, I, L) ∧ post r ∧ ∀ a, r = some a → isX3 K R a)) 0 0 (Ab bs) := by
  refine m_met (by decide) (Nat.le_of_ble_eq_true rfl) (fun p e s m below meth c ls E hr hlk hM hS hl => ?_)
  have E : Ev p s m _ c cX11_houseAt 2 RX11 D cA Z bs := E
  have hl : lv_has ls 2 [(0, .ref (ad bs 0)), (1, .int a1)] := hl
  have hx := E.1.1
  have hb := E.1.2.1
  generalize hHe : s.heap = H at hM ⊢
  have hS : va_S (Ab bs) s.heap H [] := by rw [← hHe]; exact va_S.rf
  clear hHe
  refine lv_iload_n hx hb dX11_houseAt_0 rfl (lv_at hl 1 rfl) ?_
  refine lv_if_lt (tgt := 27) hx hb dX11_houseAt_1 (by decide) (fun cq => ?_) (fun cq => ?_)
  · have hw := hw.1 cq
    refine lv_null hx hb dX11_houseAt_27 ?_
    exact m_reto hx hb hr (Or.inl ⟨_, rfl⟩) hlk none rfl hM hS ⟨rfl, hw, fun _ h => by cases h⟩ dX11_houseAt_28
  · have hw := hw.2 cq
    refine lv_iload_n hx hb dX11_houseAt_4 rfl (lv_at hl 1 rfl) ?_
    refine lv_aload_n hx hb dX11_houseAt_5 rfl (lv_at hl 0 rfl) ?_
    refine m_getr E hM fs_X11_12 ho.1 ho.2.1.1 dX11_houseAt_6 ?_
    refine m_geti E hM fs_X11_126 ho.2.1.2.1.1 dX11_houseAt_9 ?_
    refine lv_icmp_ge (tgt := 27) hx hb dX11_houseAt_12 (by decide) (fun cq => ?_) (fun cq => ?_)
    · have hw := hw.1 cq
      refine lv_null hx hb dX11_houseAt_27 ?_
      exact m_reto hx hb hr (Or.inl ⟨_, rfl⟩) hlk none rfl hM hS ⟨rfl, hw, fun _ h => by cases h⟩ dX11_houseAt_28
    · have hw := hw.2 cq
      refine lv_aload_n hx hb dX11_houseAt_15 rfl (lv_at hl 0 rfl) ?_
      refine m_getr E hM fs_X11_12 ho.1 ho.2.1.1 dX11_houseAt_16 ?_
      refine m_getr E hM fs_X11_112 ho.2.1.2.1.1 (isO_at ho.2.1.2.1 1 rfl).1 dX11_houseAt_19 ?_
      refine lv_iload_n hx hb dX11_houseAt_22 rfl (lv_at hl 1 rfl) ?_
      obtain ⟨hv, hw⟩ := hw
      have hs1 := ((ho.2.1.2.2 _ (vp_in_lt hv)).1).2
      refine m_aaldS E hM (isO_at ho.2.1.2.1 1 rfl).2 (by simp) hv ((ho.2.1.2.2 _ (vp_in_lt hv)).1).1 dX11_houseAt_23 ?_
      refine lv_goto (tgt := 28) hx hb dX11_houseAt_24 (by decide) ?_
      exact m_reto hx hb hr (Or.inl ⟨_, rfl⟩) hlk (some (1 + 4 + 19 * a1.toNatClampNeg)) rfl hM hS ⟨rfl, hw, fun _ h => by cases h; exact hs1⟩ dX11_houseAt_28
theorem dX11_houseFigure_0 : decode cX11_houseFigure 0 = .ok (.iload_n 1, 1) := by decide +kernel
theorem dX11_houseFigure_1 : decode cX11_houseFigure 1 = .ok (.tableswitch 60 0 4 #[35, 40, 45, 50, 55], 35) := by decide +kernel
theorem dX11_houseFigure_36 : decode cX11_houseFigure 36 = .ok (.aload_n 0, 1) := by decide +kernel
theorem dX11_houseFigure_37 : decode cX11_houseFigure 37 = .ok (.getfield 161, 3) := by decide +kernel
theorem dX11_houseFigure_40 : decode cX11_houseFigure 40 = .ok (.ireturn, 1) := by decide +kernel
theorem dX11_houseFigure_41 : decode cX11_houseFigure 41 = .ok (.aload_n 0, 1) := by decide +kernel
theorem dX11_houseFigure_42 : decode cX11_houseFigure 42 = .ok (.getfield 193, 3) := by decide +kernel
theorem dX11_houseFigure_45 : decode cX11_houseFigure 45 = .ok (.ireturn, 1) := by decide +kernel
theorem dX11_houseFigure_46 : decode cX11_houseFigure 46 = .ok (.aload_n 0, 1) := by decide +kernel
theorem dX11_houseFigure_47 : decode cX11_houseFigure 47 = .ok (.getfield 175, 3) := by decide +kernel
theorem dX11_houseFigure_50 : decode cX11_houseFigure 50 = .ok (.ireturn, 1) := by decide +kernel
theorem dX11_houseFigure_51 : decode cX11_houseFigure 51 = .ok (.aload_n 0, 1) := by decide +kernel
theorem dX11_houseFigure_52 : decode cX11_houseFigure 52 = .ok (.getfield 196, 3) := by decide +kernel
theorem dX11_houseFigure_55 : decode cX11_houseFigure 55 = .ok (.ireturn, 1) := by decide +kernel
theorem dX11_houseFigure_56 : decode cX11_houseFigure 56 = .ok (.aload_n 0, 1) := by decide +kernel
theorem dX11_houseFigure_57 : decode cX11_houseFigure 57 = .ok (.getfield 184, 3) := by decide +kernel
theorem dX11_houseFigure_60 : decode cX11_houseFigure 60 = .ok (.ireturn, 1) := by decide +kernel
theorem dX11_houseFigure_61 : decode cX11_houseFigure 61 = .ok (.iconst (-1), 1) := by decide +kernel
theorem dX11_houseFigure_62 : decode cX11_houseFigure 62 = .ok (.ireturn, 1) := by decide +kernel
def w_X11_houseFigure (I : mI) (a1 : Nat) (a2 : Int32) (post : Int32 → Prop) : Prop := (a2 = 0 → post (I a1 0)) ∧ (a2 = 1 → post (I a1 1)) ∧ (a2 = 2 → post (I a1 2)) ∧ (a2 = 3 → post (I a1 3)) ∧ (a2 = 4 → post (I a1 4)) ∧ (¬ a2 = 0 → ¬ a2 = 1 → ¬ a2 = 2 → ¬ a2 = 3 → ¬ a2 = 4 → post (-1))
set_option maxRecDepth 100000 in
set_option maxHeartbeats 4000000 in
theorem c_X11_houseFigure {l : Launch} {D : va_G} {cA : Nat → ClassId} {Z : mZ} {bs : Ad} {n : Nat} {K : mK} {R : mR} {I : mI} {L : mL} {a1 : Nat} {a2 : Int32} {post : Int32 → Prop} (ha1 : isX3 K R a1) (hw : w_X11_houseFigure I a1 a2 post) : Met l yX11_houseFigure (.code yX11_houseFigure cX11_houseFigure 2 (some .int) :: gw) ({ frames := 0, cells := 0, slots := 0, locals := 0 } : Room) (PreM D cA Z bs (n, K, R, I, L) [.ref (ad bs a1), .int a2]) (QI D cA bs (fun r u => u = (n, K, R, I, L) ∧ post r)) 0 0 (Ab bs) := by
  refine m_met (by decide) (Nat.le_of_ble_eq_true rfl) (fun p e s m below meth c ls E hr hlk hM hS hl => ?_)
  have E : Ev p s m _ c cX11_houseFigure 2 RX11 D cA Z bs := E
  have hl : lv_has ls 2 [(0, .ref (ad bs a1)), (1, .int a2)] := hl
  have hx := E.1.1
  have hb := E.1.2.1
  generalize hHe : s.heap = H at hM ⊢
  have hS : va_S (Ab bs) s.heap H [] := by rw [← hHe]; exact va_S.rf
  clear hHe
  refine lv_iload_n hx hb dX11_houseFigure_0 rfl (lv_at hl 1 rfl) ?_
  by_cases cq0 : a2 = 0
  · have hw := hw.1 cq0
    refine lv_tableIn (tgt := 36) hx hb dX11_houseFigure_1 (by rw [cq0]; decide) (by rw [cq0]; decide) (by rw [cq0]; rfl) (by decide) ?_
    refine lv_aload_n hx hb dX11_houseFigure_36 rfl (lv_at hl 0 rfl) ?_
    refine m_geti E hM fs_X11_161 ha1.1 dX11_houseFigure_37 ?_
    exact m_reti hx hb hr hlk hM hS ⟨rfl, hw⟩ dX11_houseFigure_40
  by_cases cq1 : a2 = 1
  · have hw := hw.2.1 cq1
    refine lv_tableIn (tgt := 41) hx hb dX11_houseFigure_1 (by rw [cq1]; decide) (by rw [cq1]; decide) (by rw [cq1]; rfl) (by decide) ?_
    refine lv_aload_n hx hb dX11_houseFigure_41 rfl (lv_at hl 0 rfl) ?_
    refine m_geti E hM fs_X11_193 ha1.1 dX11_houseFigure_42 ?_
    exact m_reti hx hb hr hlk hM hS ⟨rfl, hw⟩ dX11_houseFigure_45
  by_cases cq2 : a2 = 2
  · have hw := hw.2.2.1 cq2
    refine lv_tableIn (tgt := 46) hx hb dX11_houseFigure_1 (by rw [cq2]; decide) (by rw [cq2]; decide) (by rw [cq2]; rfl) (by decide) ?_
    refine lv_aload_n hx hb dX11_houseFigure_46 rfl (lv_at hl 0 rfl) ?_
    refine m_geti E hM fs_X11_175 ha1.1 dX11_houseFigure_47 ?_
    exact m_reti hx hb hr hlk hM hS ⟨rfl, hw⟩ dX11_houseFigure_50
  by_cases cq3 : a2 = 3
  · have hw := hw.2.2.2.1 cq3
    refine lv_tableIn (tgt := 51) hx hb dX11_houseFigure_1 (by rw [cq3]; decide) (by rw [cq3]; decide) (by rw [cq3]; rfl) (by decide) ?_
    refine lv_aload_n hx hb dX11_houseFigure_51 rfl (lv_at hl 0 rfl) ?_
    refine m_geti E hM fs_X11_196 ha1.1 dX11_houseFigure_52 ?_
    exact m_reti hx hb hr hlk hM hS ⟨rfl, hw⟩ dX11_houseFigure_55
  by_cases cq4 : a2 = 4
  · have hw := hw.2.2.2.2.1 cq4
    refine lv_tableIn (tgt := 56) hx hb dX11_houseFigure_1 (by rw [cq4]; decide) (by rw [cq4]; decide) (by rw [cq4]; rfl) (by decide) ?_
    refine lv_aload_n hx hb dX11_houseFigure_56 rfl (lv_at hl 0 rfl) ?_
    refine m_geti E hM fs_X11_184 ha1.1 dX11_houseFigure_57 ?_
    exact m_reti hx hb hr hlk hM hS ⟨rfl, hw⟩ dX11_houseFigure_60
  have hw := hw.2.2.2.2.2 cq0 cq1 cq2 cq3 cq4
  refine lv_tableOut (tgt := 61) hx hb dX11_houseFigure_1 (by have hn0 := lv_neT cq0 (a := 0) (by decide); have hn1 := lv_neT cq1 (a := 1) (by decide); have hn2 := lv_neT cq2 (a := 2) (by decide); have hn3 := lv_neT cq3 (a := 3) (by decide); have hn4 := lv_neT cq4 (a := 4) (by decide); omega) (by decide) ?_
  refine lv_iconst (v := (-1)) hx hb dX11_houseFigure_61 (by decide) ?_
  exact m_reti hx hb hr hlk hM hS ⟨rfl, hw⟩ dX11_houseFigure_62
theorem dX11_house_0 : decode cX11_house 0 = .ok (.aload_n 0, 1) := by decide +kernel
theorem dX11_house_1 : decode cX11_house 1 = .ok (.iload_n 1, 1) := by decide +kernel
theorem dX11_house_2 : decode cX11_house 2 = .ok (.invokevirtual 153, 3) := by decide +kernel
theorem dX11_house_5 : decode cX11_house 5 = .ok (.astore_n 3, 1) := by decide +kernel
theorem dX11_house_6 : decode cX11_house 6 = .ok (.aload_n 3, 1) := by decide +kernel
theorem dX11_house_7 : decode cX11_house 7 = .ok (.ifnonnull 5, 3) := by decide +kernel
theorem dX11_house_10 : decode cX11_house 10 = .ok (.iconst (-1), 1) := by decide +kernel
theorem dX11_house_11 : decode cX11_house 11 = .ok (.ireturn, 1) := by decide +kernel
theorem dX11_house_12 : decode cX11_house 12 = .ok (.iload_n 2, 1) := by decide +kernel
theorem dX11_house_13 : decode cX11_house 13 = .ok (.bipush 100, 2) := by decide +kernel
theorem dX11_house_15 : decode cX11_house 15 = .ok (.if_icmp .lt 20, 3) := by decide +kernel
theorem dX11_house_18 : decode cX11_house 18 = .ok (.aload_n 3, 1) := by decide +kernel
theorem dX11_house_19 : decode cX11_house 19 = .ok (.getfield 157, 3) := by decide +kernel
theorem dX11_house_22 : decode cX11_house 22 = .ok (.iload_n 2, 1) := by decide +kernel
theorem dX11_house_23 : decode cX11_house 23 = .ok (.bipush 100, 2) := by decide +kernel
theorem dX11_house_25 : decode cX11_house 25 = .ok (.isub, 1) := by decide +kernel
theorem dX11_house_26 : decode cX11_house 26 = .ok (.aload_n 3, 1) := by decide +kernel
theorem dX11_house_27 : decode cX11_house 27 = .ok (.getfield 161, 3) := by decide +kernel
theorem dX11_house_30 : decode cX11_house 30 = .ok (.iconst (-1), 1) := by decide +kernel
theorem dX11_house_31 : decode cX11_house 31 = .ok (.invokestatic 164, 3) := by decide +kernel
theorem dX11_house_34 : decode cX11_house 34 = .ok (.ireturn, 1) := by decide +kernel
theorem dX11_house_35 : decode cX11_house 35 = .ok (.iload_n 2, 1) := by decide +kernel
theorem dX11_house_36 : decode cX11_house 36 = .ok (.bipush 10, 2) := by decide +kernel
theorem dX11_house_38 : decode cX11_house 38 = .ok (.if_icmp .ge 9, 3) := by decide +kernel
theorem dX11_house_41 : decode cX11_house 41 = .ok (.aload_n 3, 1) := by decide +kernel
theorem dX11_house_42 : decode cX11_house 42 = .ok (.iload_n 2, 1) := by decide +kernel
theorem dX11_house_43 : decode cX11_house 43 = .ok (.invokestatic 168, 3) := by decide +kernel
theorem dX11_house_46 : decode cX11_house 46 = .ok (.ireturn, 1) := by decide +kernel
theorem dX11_house_47 : decode cX11_house 47 = .ok (.iload_n 2, 1) := by decide +kernel
theorem dX11_house_48 : decode cX11_house 48 = .ok (.bipush 10, 2) := by decide +kernel
theorem dX11_house_50 : decode cX11_house 50 = .ok (.irem, 1) := by decide +kernel
theorem dX11_house_51 : decode cX11_house 51 = .ok (.istore 4, 2) := by decide +kernel
theorem dX11_house_53 : decode cX11_house 53 = .ok (.iload_n 2, 1) := by decide +kernel
theorem dX11_house_54 : decode cX11_house 54 = .ok (.bipush 10, 2) := by decide +kernel
theorem dX11_house_56 : decode cX11_house 56 = .ok (.idiv, 1) := by decide +kernel
theorem dX11_house_57 : decode cX11_house 57 = .ok (.tableswitch 110 1 5 #[35, 50, 65, 80, 95], 35) := by decide +kernel
theorem dX11_house_92 : decode cX11_house 92 = .ok (.aload_n 3, 1) := by decide +kernel
theorem dX11_house_93 : decode cX11_house 93 = .ok (.getfield 172, 3) := by decide +kernel
theorem dX11_house_96 : decode cX11_house 96 = .ok (.iload 4, 2) := by decide +kernel
theorem dX11_house_98 : decode cX11_house 98 = .ok (.aload_n 3, 1) := by decide +kernel
theorem dX11_house_99 : decode cX11_house 99 = .ok (.getfield 175, 3) := by decide +kernel
theorem dX11_house_102 : decode cX11_house 102 = .ok (.iconst (-1), 1) := by decide +kernel
theorem dX11_house_103 : decode cX11_house 103 = .ok (.invokestatic 164, 3) := by decide +kernel
theorem dX11_house_106 : decode cX11_house 106 = .ok (.ireturn, 1) := by decide +kernel
theorem dX11_house_107 : decode cX11_house 107 = .ok (.aload_n 3, 1) := by decide +kernel
theorem dX11_house_108 : decode cX11_house 108 = .ok (.getfield 178, 3) := by decide +kernel
theorem dX11_house_111 : decode cX11_house 111 = .ok (.iload 4, 2) := by decide +kernel
theorem dX11_house_113 : decode cX11_house 113 = .ok (.aload_n 3, 1) := by decide +kernel
theorem dX11_house_114 : decode cX11_house 114 = .ok (.getfield 175, 3) := by decide +kernel
theorem dX11_house_117 : decode cX11_house 117 = .ok (.iconst (-1), 1) := by decide +kernel
theorem dX11_house_118 : decode cX11_house 118 = .ok (.invokestatic 164, 3) := by decide +kernel
theorem dX11_house_121 : decode cX11_house 121 = .ok (.ireturn, 1) := by decide +kernel
theorem dX11_house_122 : decode cX11_house 122 = .ok (.aload_n 3, 1) := by decide +kernel
theorem dX11_house_123 : decode cX11_house 123 = .ok (.getfield 181, 3) := by decide +kernel
theorem dX11_house_126 : decode cX11_house 126 = .ok (.iload 4, 2) := by decide +kernel
theorem dX11_house_128 : decode cX11_house 128 = .ok (.aload_n 3, 1) := by decide +kernel
theorem dX11_house_129 : decode cX11_house 129 = .ok (.getfield 184, 3) := by decide +kernel
theorem dX11_house_132 : decode cX11_house 132 = .ok (.iconst (-1), 1) := by decide +kernel
theorem dX11_house_133 : decode cX11_house 133 = .ok (.invokestatic 164, 3) := by decide +kernel
theorem dX11_house_136 : decode cX11_house 136 = .ok (.ireturn, 1) := by decide +kernel
theorem dX11_house_137 : decode cX11_house 137 = .ok (.aload_n 3, 1) := by decide +kernel
theorem dX11_house_138 : decode cX11_house 138 = .ok (.getfield 187, 3) := by decide +kernel
theorem dX11_house_141 : decode cX11_house 141 = .ok (.iload 4, 2) := by decide +kernel
theorem dX11_house_143 : decode cX11_house 143 = .ok (.aload_n 3, 1) := by decide +kernel
theorem dX11_house_144 : decode cX11_house 144 = .ok (.getfield 184, 3) := by decide +kernel
theorem dX11_house_147 : decode cX11_house 147 = .ok (.iconst (-1), 1) := by decide +kernel
theorem dX11_house_148 : decode cX11_house 148 = .ok (.invokestatic 164, 3) := by decide +kernel
theorem dX11_house_151 : decode cX11_house 151 = .ok (.ireturn, 1) := by decide +kernel
theorem dX11_house_152 : decode cX11_house 152 = .ok (.aload_n 3, 1) := by decide +kernel
theorem dX11_house_153 : decode cX11_house 153 = .ok (.getfield 190, 3) := by decide +kernel
theorem dX11_house_156 : decode cX11_house 156 = .ok (.iload 4, 2) := by decide +kernel
theorem dX11_house_158 : decode cX11_house 158 = .ok (.aload_n 3, 1) := by decide +kernel
theorem dX11_house_159 : decode cX11_house 159 = .ok (.getfield 184, 3) := by decide +kernel
theorem dX11_house_162 : decode cX11_house 162 = .ok (.iconst (-1), 1) := by decide +kernel
theorem dX11_house_163 : decode cX11_house 163 = .ok (.invokestatic 164, 3) := by decide +kernel
theorem dX11_house_166 : decode cX11_house 166 = .ok (.ireturn, 1) := by decide +kernel
theorem dX11_house_167 : decode cX11_house 167 = .ok (.iconst (-1), 1) := by decide +kernel
theorem dX11_house_168 : decode cX11_house 168 = .ok (.ireturn, 1) := by decide +kernel
def w_X11_house (I : mI) (a1 : Int32) (a2 : Int32) (post : Int32 → Prop) : Prop := w_X11_houseAt I a1 (fun r1 => (r1 = none → post (-1)) ∧ (∀ q2 : Nat, r1 = some q2 → (a2 < 100 → (10 ≤ a2 → ∀ x3, x3 = (irem a2 10) → ∀ x4, x4 = (a2 / 10) → (x4 = 1 → w_X11_pick I (q2 + 2) 6 x3 (I q2 2) (-1) (fun r5 => post r5)) ∧ (x4 = 2 → w_X11_pick I (q2 + 3) 6 x3 (I q2 2) (-1) (fun r6 => post r6)) ∧ (x4 = 3 → w_X11_pick I (q2 + 11) 8 x3 (I q2 4) (-1) (fun r7 => post r7)) ∧ (x4 = 4 → w_X11_pick I (q2 + 12) 8 x3 (I q2 4) (-1) (fun r8 => post r8)) ∧ (x4 = 5 → w_X11_pick I (q2 + 13) 8 x3 (I q2 4) (-1) (fun r9 => post r9)) ∧ (¬ x4 = 1 → ¬ x4 = 2 → ¬ x4 = 3 → ¬ x4 = 4 → ¬ x4 = 5 → post (-1))) ∧ (¬ 10 ≤ a2 → w_X11_houseFigure I q2 a2 (fun r10 => post r10))) ∧ (¬ a2 < 100 → w_X11_pick I (q2 + 1) 24 (a2 - 100) (I q2 0) (-1) (fun r11 => post r11))))
set_option maxRecDepth 100000 in
set_option maxHeartbeats 4000000 in
theorem c_X11_house {l : Launch} {D : va_G} {cA : Nat → ClassId} {Z : mZ} {bs : Ad} {n : Nat} {K : mK} {R : mR} {I : mI} {L : mL} {a1 : Int32} {a2 : Int32} {post : Int32 → Prop} (ho : isX11 K R ) (hw : w_X11_house I a1 a2 post) : Met l yX11_house (.code yX11_house cX11_house 5 (some .int) :: gw) ({ frames := 1, cells := 0, slots := 0, locals := 23 } : Room) (PreM D cA Z bs (n, K, R, I, L) [.ref (ad bs 0), .int a1, .int a2]) (QI D cA bs (fun r u => u = (n, K, R, I, L) ∧ post r)) 0 0 (Ab bs) := by
  refine m_met (by decide) (Nat.le_of_ble_eq_true rfl) (fun p e s m below meth c ls E hr hlk hM hS hl => ?_)
  have E : Ev p s m _ c cX11_house 5 RX11 D cA Z bs := E
  have hl : lv_has ls 5 [(0, .ref (ad bs 0)), (1, .int a1), (2, .int a2)] := hl
  have hx := E.1.1
  have hb := E.1.2.1
  generalize hHe : s.heap = H at hM ⊢
  have hS : va_S (Ab bs) s.heap H [] := by rw [← hHe]; exact va_S.rf
  clear hHe
  refine lv_aload_n hx hb dX11_house_0 rfl (lv_at hl 0 rfl) ?_
  refine lv_iload_n hx hb dX11_house_1 rfl (lv_at hl 1 rfl) ?_
  refine m_co (m_runV E hM hS cs_X11_153 ho.1 (by decide) rfl rfl (c_X11_houseAt ho hw) rfl rfl ⟨Nat.le_of_ble_eq_true rfl, Nat.le_of_ble_eq_true rfl⟩ rfl hl.1 rfl (Nat.le_of_ble_eq_true rfl) dX11_house_2 ⟨Nat.le_of_ble_eq_true rfl, Nat.le_of_ble_eq_true rfl⟩) hS (fun r1 u H locs hp hM hS => ?_)
  obtain ⟨rfl, hw, hqr1⟩ := hp
  rcases r1 with _ | q2
  · have hw := hw.1 rfl
    refine lv_astore_nN (lv' := [(3, .null), (0, .ref (ad bs 0)), (1, .int a1), (2, .int a2)]) hx hb dX11_house_5 rfl hl (by decide) rfl (fun ls hl => ?_)
    refine lv_aload_nN hx hb dX11_house_6 rfl (lv_at hl 0 rfl) ?_
    refine lv_ifnonnullN hx hb dX11_house_7 ?_
    refine lv_iconst (v := (-1)) hx hb dX11_house_10 (by decide) ?_
    exact m_reti hx hb hr hlk hM hS ⟨rfl, hw⟩ dX11_house_11
  · have hq2 := hqr1 _ rfl
    have hw := hw.2 q2 rfl
    refine lv_astore_n (lv' := [(3, .ref (ad bs q2)), (0, .ref (ad bs 0)), (1, .int a1), (2, .int a2)]) hx hb dX11_house_5 rfl hl (by decide) rfl (fun ls hl => ?_)
    refine lv_aload_n hx hb dX11_house_6 rfl (lv_at hl 0 rfl) ?_
    refine lv_ifnonnull (tgt := 12) hx hb dX11_house_7 (by decide) ?_
    refine lv_iload_n hx hb dX11_house_12 rfl (lv_at hl 3 rfl) ?_
    refine lv_bipush (v := 100) hx hb dX11_house_13 (by decide) ?_
    refine lv_icmp_lt (tgt := 35) hx hb dX11_house_15 (by decide) (fun cq => ?_) (fun cq => ?_)
    · have hw := hw.1 cq
      refine lv_iload_n hx hb dX11_house_35 rfl (lv_at hl 3 rfl) ?_
      refine lv_bipush (v := 10) hx hb dX11_house_36 (by decide) ?_
      refine lv_icmp_ge (tgt := 47) hx hb dX11_house_38 (by decide) (fun cq => ?_) (fun cq => ?_)
      · have hw := hw.1 cq
        refine lv_iload_n hx hb dX11_house_47 rfl (lv_at hl 3 rfl) ?_
        refine lv_bipush (v := 10) hx hb dX11_house_48 (by decide) ?_
        refine lv_irem hx hb dX11_house_50 (by decide) ?_
        refine lv_topi (fun x3 ex3 => ?_)
        have hw := hw x3 ex3
        refine lv_istore (lv' := [(4, .int x3), (3, .ref (ad bs q2)), (0, .ref (ad bs 0)), (1, .int a1), (2, .int a2)]) hx hb dX11_house_51 hl (by decide) rfl (fun ls hl => ?_)
        refine lv_iload_n hx hb dX11_house_53 rfl (lv_at hl 4 rfl) ?_
        refine lv_bipush (v := 10) hx hb dX11_house_54 (by decide) ?_
        refine lv_idiv hx hb dX11_house_56 (by decide) ?_
        refine lv_topi (fun x4 ex4 => ?_)
        have hw := hw x4 ex4
        by_cases cq0 : x4 = 1
        · have hw := hw.1 cq0
          refine lv_tableIn (tgt := 92) hx hb dX11_house_57 (by rw [cq0]; decide) (by rw [cq0]; decide) (by rw [cq0]; rfl) (by decide) ?_
          refine lv_aload_n hx hb dX11_house_92 rfl (lv_at hl 1 rfl) ?_
          refine m_getr E hM fs_X11_172 hq2.1 (isO_at hq2 1 rfl).1 dX11_house_93 ?_
          refine lv_iload hx hb dX11_house_96 (lv_at hl 0 rfl) ?_
          refine lv_aload_n hx hb dX11_house_98 rfl (lv_at hl 1 rfl) ?_
          refine m_geti E hM fs_X11_175 hq2.1 dX11_house_99 ?_
          refine lv_iconst (v := (-1)) hx hb dX11_house_102 (by decide) ?_
          refine m_ci (m_runS E hM hS cs_X11_164 (c_X11_pick ((isO_at hq2 1 rfl).2) hw) rfl rfl ⟨Nat.le_of_ble_eq_true rfl, Nat.le_of_ble_eq_true rfl⟩ rfl hl.1 rfl (Nat.le_of_ble_eq_true rfl) dX11_house_103 ⟨Nat.le_of_ble_eq_true rfl, Nat.le_of_ble_eq_true rfl⟩) hS (fun r5 u H locs hp hM hS => ?_)
          obtain ⟨rfl, hw⟩ := hp
          exact m_reti hx hb hr hlk hM hS ⟨rfl, hw⟩ dX11_house_106
        by_cases cq1 : x4 = 2
        · have hw := hw.2.1 cq1
          refine lv_tableIn (tgt := 107) hx hb dX11_house_57 (by rw [cq1]; decide) (by rw [cq1]; decide) (by rw [cq1]; rfl) (by decide) ?_
          refine lv_aload_n hx hb dX11_house_107 rfl (lv_at hl 1 rfl) ?_
          refine m_getr E hM fs_X11_178 hq2.1 (isO_at hq2 2 rfl).1 dX11_house_108 ?_
          refine lv_iload hx hb dX11_house_111 (lv_at hl 0 rfl) ?_
          refine lv_aload_n hx hb dX11_house_113 rfl (lv_at hl 1 rfl) ?_
          refine m_geti E hM fs_X11_175 hq2.1 dX11_house_114 ?_
          refine lv_iconst (v := (-1)) hx hb dX11_house_117 (by decide) ?_
          refine m_ci (m_runS E hM hS cs_X11_164 (c_X11_pick ((isO_at hq2 2 rfl).2) hw) rfl rfl ⟨Nat.le_of_ble_eq_true rfl, Nat.le_of_ble_eq_true rfl⟩ rfl hl.1 rfl (Nat.le_of_ble_eq_true rfl) dX11_house_118 ⟨Nat.le_of_ble_eq_true rfl, Nat.le_of_ble_eq_true rfl⟩) hS (fun r6 u H locs hp hM hS => ?_)
          obtain ⟨rfl, hw⟩ := hp
          exact m_reti hx hb hr hlk hM hS ⟨rfl, hw⟩ dX11_house_121
        by_cases cq2 : x4 = 3
        · have hw := hw.2.2.1 cq2
          refine lv_tableIn (tgt := 122) hx hb dX11_house_57 (by rw [cq2]; decide) (by rw [cq2]; decide) (by rw [cq2]; rfl) (by decide) ?_
          refine lv_aload_n hx hb dX11_house_122 rfl (lv_at hl 1 rfl) ?_
          refine m_getr E hM fs_X11_181 hq2.1 (isO_at hq2 10 rfl).1 dX11_house_123 ?_
          refine lv_iload hx hb dX11_house_126 (lv_at hl 0 rfl) ?_
          refine lv_aload_n hx hb dX11_house_128 rfl (lv_at hl 1 rfl) ?_
          refine m_geti E hM fs_X11_184 hq2.1 dX11_house_129 ?_
          refine lv_iconst (v := (-1)) hx hb dX11_house_132 (by decide) ?_
          refine m_ci (m_runS E hM hS cs_X11_164 (c_X11_pick ((isO_at hq2 10 rfl).2) hw) rfl rfl ⟨Nat.le_of_ble_eq_true rfl, Nat.le_of_ble_eq_true rfl⟩ rfl hl.1 rfl (Nat.le_of_ble_eq_true rfl) dX11_house_133 ⟨Nat.le_of_ble_eq_true rfl, Nat.le_of_ble_eq_true rfl⟩) hS (fun r7 u H locs hp hM hS => ?_)
          obtain ⟨rfl, hw⟩ := hp
          exact m_reti hx hb hr hlk hM hS ⟨rfl, hw⟩ dX11_house_136
        by_cases cq3 : x4 = 4
        · have hw := hw.2.2.2.1 cq3
          refine lv_tableIn (tgt := 137) hx hb dX11_house_57 (by rw [cq3]; decide) (by rw [cq3]; decide) (by rw [cq3]; rfl) (by decide) ?_
          refine lv_aload_n hx hb dX11_house_137 rfl (lv_at hl 1 rfl) ?_
          refine m_getr E hM fs_X11_187 hq2.1 (isO_at hq2 11 rfl).1 dX11_house_138 ?_
          refine lv_iload hx hb dX11_house_141 (lv_at hl 0 rfl) ?_
          refine lv_aload_n hx hb dX11_house_143 rfl (lv_at hl 1 rfl) ?_
          refine m_geti E hM fs_X11_184 hq2.1 dX11_house_144 ?_
          refine lv_iconst (v := (-1)) hx hb dX11_house_147 (by decide) ?_
          refine m_ci (m_runS E hM hS cs_X11_164 (c_X11_pick ((isO_at hq2 11 rfl).2) hw) rfl rfl ⟨Nat.le_of_ble_eq_true rfl, Nat.le_of_ble_eq_true rfl⟩ rfl hl.1 rfl (Nat.le_of_ble_eq_true rfl) dX11_house_148 ⟨Nat.le_of_ble_eq_true rfl, Nat.le_of_ble_eq_true rfl⟩) hS (fun r8 u H locs hp hM hS => ?_)
          obtain ⟨rfl, hw⟩ := hp
          exact m_reti hx hb hr hlk hM hS ⟨rfl, hw⟩ dX11_house_151
        by_cases cq4 : x4 = 5
        · have hw := hw.2.2.2.2.1 cq4
          refine lv_tableIn (tgt := 152) hx hb dX11_house_57 (by rw [cq4]; decide) (by rw [cq4]; decide) (by rw [cq4]; rfl) (by decide) ?_
          refine lv_aload_n hx hb dX11_house_152 rfl (lv_at hl 1 rfl) ?_
          refine m_getr E hM fs_X11_190 hq2.1 (isO_at hq2 12 rfl).1 dX11_house_153 ?_
          refine lv_iload hx hb dX11_house_156 (lv_at hl 0 rfl) ?_
          refine lv_aload_n hx hb dX11_house_158 rfl (lv_at hl 1 rfl) ?_
          refine m_geti E hM fs_X11_184 hq2.1 dX11_house_159 ?_
          refine lv_iconst (v := (-1)) hx hb dX11_house_162 (by decide) ?_
          refine m_ci (m_runS E hM hS cs_X11_164 (c_X11_pick ((isO_at hq2 12 rfl).2) hw) rfl rfl ⟨Nat.le_of_ble_eq_true rfl, Nat.le_of_ble_eq_true rfl⟩ rfl hl.1 rfl (Nat.le_of_ble_eq_true rfl) dX11_house_163 ⟨Nat.le_of_ble_eq_true rfl, Nat.le_of_ble_eq_true rfl⟩) hS (fun r9 u H locs hp hM hS => ?_)
          obtain ⟨rfl, hw⟩ := hp
          exact m_reti hx hb hr hlk hM hS ⟨rfl, hw⟩ dX11_house_166
        have hw := hw.2.2.2.2.2 cq0 cq1 cq2 cq3 cq4
        refine lv_tableOut (tgt := 167) hx hb dX11_house_57 (by have hn0 := lv_neT cq0 (a := 1) (by decide); have hn1 := lv_neT cq1 (a := 2) (by decide); have hn2 := lv_neT cq2 (a := 3) (by decide); have hn3 := lv_neT cq3 (a := 4) (by decide); have hn4 := lv_neT cq4 (a := 5) (by decide); omega) (by decide) ?_
        refine lv_iconst (v := (-1)) hx hb dX11_house_167 (by decide) ?_
        exact m_reti hx hb hr hlk hM hS ⟨rfl, hw⟩ dX11_house_168
      · have hw := hw.2 cq
        refine lv_aload_n hx hb dX11_house_41 rfl (lv_at hl 0 rfl) ?_
        refine lv_iload_n hx hb dX11_house_42 rfl (lv_at hl 3 rfl) ?_
        refine m_ci (m_runS E hM hS cs_X11_168 (c_X11_houseFigure hq2 hw) rfl rfl ⟨Nat.le_of_ble_eq_true rfl, Nat.le_of_ble_eq_true rfl⟩ rfl hl.1 rfl (Nat.le_of_ble_eq_true rfl) dX11_house_43 ⟨Nat.le_of_ble_eq_true rfl, Nat.le_of_ble_eq_true rfl⟩) hS (fun r10 u H locs hp hM hS => ?_)
        obtain ⟨rfl, hw⟩ := hp
        exact m_reti hx hb hr hlk hM hS ⟨rfl, hw⟩ dX11_house_46
    · have hw := hw.2 cq
      refine lv_aload_n hx hb dX11_house_18 rfl (lv_at hl 0 rfl) ?_
      refine m_getr E hM fs_X11_157 hq2.1 (isO_at hq2 0 rfl).1 dX11_house_19 ?_
      refine lv_iload_n hx hb dX11_house_22 rfl (lv_at hl 3 rfl) ?_
      refine lv_bipush (v := 100) hx hb dX11_house_23 (by decide) ?_
      refine lv_isub hx hb dX11_house_25 ?_
      refine lv_aload_n hx hb dX11_house_26 rfl (lv_at hl 0 rfl) ?_
      refine m_geti E hM fs_X11_161 hq2.1 dX11_house_27 ?_
      refine lv_iconst (v := (-1)) hx hb dX11_house_30 (by decide) ?_
      refine m_ci (m_runS E hM hS cs_X11_164 (c_X11_pick ((isO_at hq2 0 rfl).2) hw) rfl rfl ⟨Nat.le_of_ble_eq_true rfl, Nat.le_of_ble_eq_true rfl⟩ rfl hl.1 rfl (Nat.le_of_ble_eq_true rfl) dX11_house_31 ⟨Nat.le_of_ble_eq_true rfl, Nat.le_of_ble_eq_true rfl⟩) hS (fun r11 u H locs hp hM hS => ?_)
      obtain ⟨rfl, hw⟩ := hp
      exact m_reti hx hb hr hlk hM hS ⟨rfl, hw⟩ dX11_house_34
theorem dX11_eveningAt_0 : decode cX11_eveningAt 0 = .ok (.aload_n 0, 1) := by decide +kernel
theorem dX11_eveningAt_1 : decode cX11_eveningAt 1 = .ok (.iload_n 1, 1) := by decide +kernel
theorem dX11_eveningAt_2 : decode cX11_eveningAt 2 = .ok (.invokevirtual 153, 3) := by decide +kernel
theorem dX11_eveningAt_5 : decode cX11_eveningAt 5 = .ok (.astore_n 2, 1) := by decide +kernel
theorem dX11_eveningAt_6 : decode cX11_eveningAt 6 = .ok (.aload_n 2, 1) := by decide +kernel
theorem dX11_eveningAt_7 : decode cX11_eveningAt 7 = .ok (.ifnonnull 5, 3) := by decide +kernel
theorem dX11_eveningAt_10 : decode cX11_eveningAt 10 = .ok (.aconst_null, 1) := by decide +kernel
theorem dX11_eveningAt_11 : decode cX11_eveningAt 11 = .ok (.areturn, 1) := by decide +kernel
theorem dX11_eveningAt_12 : decode cX11_eveningAt 12 = .ok (.aload_n 0, 1) := by decide +kernel
theorem dX11_eveningAt_13 : decode cX11_eveningAt 13 = .ok (.getfield 35, 3) := by decide +kernel
theorem dX11_eveningAt_16 : decode cX11_eveningAt 16 = .ok (.iload_n 1, 1) := by decide +kernel
theorem dX11_eveningAt_17 : decode cX11_eveningAt 17 = .ok (.aaload, 1) := by decide +kernel
theorem dX11_eveningAt_18 : decode cX11_eveningAt 18 = .ok (.ifnonnull 17, 3) := by decide +kernel
theorem dX11_eveningAt_21 : decode cX11_eveningAt 21 = .ok (.aload_n 0, 1) := by decide +kernel
theorem dX11_eveningAt_22 : decode cX11_eveningAt 22 = .ok (.getfield 35, 3) := by decide +kernel
theorem dX11_eveningAt_25 : decode cX11_eveningAt 25 = .ok (.iload_n 1, 1) := by decide +kernel
theorem dX11_eveningAt_26 : decode cX11_eveningAt 26 = .ok (.new 33, 3) := by decide +kernel
theorem dX11_eveningAt_29 : decode cX11_eveningAt 29 = .ok (.dup, 1) := by decide +kernel
theorem dX11_eveningAt_30 : decode cX11_eveningAt 30 = .ok (.aload_n 2, 1) := by decide +kernel
theorem dX11_eveningAt_31 : decode cX11_eveningAt 31 = .ok (.invokespecial 453, 3) := by decide +kernel
theorem dX11_eveningAt_34 : decode cX11_eveningAt 34 = .ok (.aastore, 1) := by decide +kernel
theorem dX11_eveningAt_35 : decode cX11_eveningAt 35 = .ok (.aload_n 0, 1) := by decide +kernel
theorem dX11_eveningAt_36 : decode cX11_eveningAt 36 = .ok (.getfield 35, 3) := by decide +kernel
theorem dX11_eveningAt_39 : decode cX11_eveningAt 39 = .ok (.iload_n 1, 1) := by decide +kernel
theorem dX11_eveningAt_40 : decode cX11_eveningAt 40 = .ok (.aaload, 1) := by decide +kernel
theorem dX11_eveningAt_41 : decode cX11_eveningAt 41 = .ok (.getfield 446, 3) := by decide +kernel
theorem dX11_eveningAt_44 : decode cX11_eveningAt 44 = .ok (.ifCond .ne 12, 3) := by decide +kernel
theorem dX11_eveningAt_47 : decode cX11_eveningAt 47 = .ok (.aload_n 0, 1) := by decide +kernel
theorem dX11_eveningAt_48 : decode cX11_eveningAt 48 = .ok (.getfield 35, 3) := by decide +kernel
theorem dX11_eveningAt_51 : decode cX11_eveningAt 51 = .ok (.iload_n 1, 1) := by decide +kernel
theorem dX11_eveningAt_52 : decode cX11_eveningAt 52 = .ok (.aaload, 1) := by decide +kernel
theorem dX11_eveningAt_53 : decode cX11_eveningAt 53 = .ok (.invokevirtual 455, 3) := by decide +kernel
theorem dX11_eveningAt_56 : decode cX11_eveningAt 56 = .ok (.aload_n 0, 1) := by decide +kernel
theorem dX11_eveningAt_57 : decode cX11_eveningAt 57 = .ok (.getfield 35, 3) := by decide +kernel
theorem dX11_eveningAt_60 : decode cX11_eveningAt 60 = .ok (.iload_n 1, 1) := by decide +kernel
theorem dX11_eveningAt_61 : decode cX11_eveningAt 61 = .ok (.aaload, 1) := by decide +kernel
theorem dX11_eveningAt_62 : decode cX11_eveningAt 62 = .ok (.areturn, 1) := by decide +kernel
def w_X11_eveningAt (I : mI) (a1 : Int32) (post : Option Nat → mI → Prop) : Prop := w_X11_houseAt I a1 (fun r1 => (r1 = none → post none I) ∧ (∀ q2 : Nat, r1 = some q2 → vp_in a1 2 ∧ (¬ (I (94 + 17 * a1.toNatClampNeg) 1) = 0 → vp_in a1 2 ∧ post (some (94 + 17 * a1.toNatClampNeg)) I) ∧ ((I (94 + 17 * a1.toNatClampNeg) 1) = 0 → vp_in a1 2 ∧ w_X2_walkAll I (94 + 17 * a1.toNatClampNeg) (5 + 19 * a1.toNatClampNeg) (fun I6 => vp_in a1 2 ∧ post (some (94 + 17 * a1.toNatClampNeg)) I6))))
theorem w_houseAt_x {I : mI} {a1 : Int32} {post : Option Nat → Prop} (hw : w_X11_houseAt I a1 post) : w_X11_houseAt I a1 (fun r => post r ∧ ∀ q, r = some q → q = 5 + 19 * a1.toNatClampNeg ∧ vp_in a1 2) :=
  ⟨fun c => ⟨hw.1 c, fun _ h => by cases h⟩, fun c => ⟨fun c2 => ⟨(hw.2 c).1 c2, fun _ h => by cases h⟩, fun c2 => ⟨((hw.2 c).2 c2).1, ((hw.2 c).2 c2).2, fun q h => by cases h; exact ⟨by omega, ((hw.2 c).2 c2).1⟩⟩⟩⟩
set_option maxRecDepth 100000 in
set_option maxHeartbeats 4000000 in
theorem s_X11_eveningAt_35 {p : Program} {l : Launch} {e : Env} {s : State} {m : MethodId} {args : Array Value} {below : List Frame} {meth : Method} {c : Code} {D : va_G} {cA : Nat → ClassId} {Z : mZ} {bs bs0 : Ad} {n : Nat} {K K0 : mK} {R : mR} {I : mI} {L : mL} (E : Ev p s m args c cX11_eveningAt 3 RX11 D cA Z bs) (hr : meth.sig.returnType = (some (.object "EchoStair$Evening"))) (hlk : meth.locks = false) (hx0 : EX bs0 K0 R bs K) {a1 : Int32} (ho : isX11 K R) (hs : isX2 K R (94 + 17 * a1.toNatClampNeg) (5 + 19 * a1.toNatClampNeg)) {post : Option Nat → mI → Prop} {H : Heap} {locs : List Loc} {ls : Array Slot} (hv : vp_in a1 2) (hw : (¬ (I (94 + 17 * a1.toNatClampNeg) 1) = 0 → vp_in a1 2 ∧ post (some (94 + 17 * a1.toNatClampNeg)) I) ∧ ((I (94 + 17 * a1.toNatClampNeg) 1) = 0 → vp_in a1 2 ∧ w_X2_walkAll I (94 + 17 * a1.toNatClampNeg) (5 + 19 * a1.toNatClampNeg) (fun I6 => vp_in a1 2 ∧ post (some (94 + 17 * a1.toNatClampNeg)) I6))) (hM : mm D cA bs (n, K, R, I, L) H) (hS : va_S (Ab bs) s.heap H locs) (hl : lv_has ls 3 [(0, .ref (ad bs 0)), (1, .int a1)]) : W p l e ({ frames := 4, cells := 17, slots := 6542, locals := 110 } : Room) s m args below meth c H locs 17 6542 (MQ below (QOX D cA bs0 K0 R (fun r u => ∃ K' I', u = (n, K', R, I', L) ∧ post r I' ∧ ∀ a, r = some a → isX2 K' R a (hE a))) args s 17 6542 (Ab bs0)) (F0 m 35 ls []) := by
  have hx := E.1.1
  have hb := E.1.2.1
  have h65 : R 65 a1.toNatClampNeg = some (94 + 17 * a1.toNatClampNeg) := (ho.2.2.2.2.1.2.2 _ (vp_in_lt hv)).1
  have hlv : (K (94 + 17 * a1.toNatClampNeg)).1 ≠ 99 := by rw [hs.1.1]; decide
  refine lv_aload_n hx hb dX11_eveningAt_35 rfl (lv_at hl 0 rfl) ?_
  refine m_getr E hM fs_X11_35 ho.1 ho.2.2.2.2.1.1 dX11_eveningAt_36 ?_
  refine lv_iload_n hx hb dX11_eveningAt_39 rfl (lv_at hl 1 rfl) ?_
  refine m_aaldE E hM ho.2.2.2.2.1.2.1 hv h65 hlv dX11_eveningAt_40 ?_
  refine m_geti E hM fs_X11_446 hs.1.1 dX11_eveningAt_41 ?_
  refine lv_if_ne (tgt := 56) hx hb dX11_eveningAt_44 (by decide) (fun cq => ?_) (fun cq => ?_)
  · obtain ⟨_, hw⟩ := hw.1 cq
    refine lv_aload_n hx hb dX11_eveningAt_56 rfl (lv_at hl 0 rfl) ?_
    refine m_getr E hM fs_X11_35 ho.1 ho.2.2.2.2.1.1 dX11_eveningAt_57 ?_
    refine lv_iload_n hx hb dX11_eveningAt_60 rfl (lv_at hl 1 rfl) ?_
    refine m_aaldE E hM ho.2.2.2.2.1.2.1 hv h65 hlv dX11_eveningAt_61 ?_
    exact m_retox hx hb hr (Or.inl ⟨_, rfl⟩) hlk (some (94 + 17 * a1.toNatClampNeg)) rfl hx0 hM hS ⟨_, _, rfl, hw, fun _ h => by cases h; rw [hE_at]; exact hs⟩ dX11_eveningAt_62
  · obtain ⟨_, hw⟩ := hw.2 cq
    refine lv_aload_n hx hb dX11_eveningAt_47 rfl (lv_at hl 0 rfl) ?_
    refine m_getr E hM fs_X11_35 ho.1 ho.2.2.2.2.1.1 dX11_eveningAt_48 ?_
    refine lv_iload_n hx hb dX11_eveningAt_51 rfl (lv_at hl 1 rfl) ?_
    refine m_aaldE E hM ho.2.2.2.2.1.2.1 hv h65 hlv dX11_eveningAt_52 ?_
    refine m_cv (m_runV E hM hS cs_X11_455 hs.1.1 (by decide) rfl rfl (c_X2_walkAll hs hw) rfl rfl ⟨Nat.le_of_ble_eq_true rfl, Nat.le_of_ble_eq_true rfl⟩ rfl hl.1 rfl (Nat.le_of_ble_eq_true rfl) dX11_eveningAt_53 ⟨Nat.le_of_ble_eq_true rfl, Nat.le_of_ble_eq_true rfl⟩) hS (fun u H locs hp hM hS => ?_)
    obtain ⟨I6, rfl, _, hw⟩ := hp
    refine lv_aload_n hx hb dX11_eveningAt_56 rfl (lv_at hl 0 rfl) ?_
    refine m_getr E hM fs_X11_35 ho.1 ho.2.2.2.2.1.1 dX11_eveningAt_57 ?_
    refine lv_iload_n hx hb dX11_eveningAt_60 rfl (lv_at hl 1 rfl) ?_
    refine m_aaldE E hM ho.2.2.2.2.1.2.1 hv h65 hlv dX11_eveningAt_61 ?_
    exact m_retox hx hb hr (Or.inl ⟨_, rfl⟩) hlk (some (94 + 17 * a1.toNatClampNeg)) rfl hx0 hM hS ⟨_, _, rfl, hw, fun _ h => by cases h; rw [hE_at]; exact hs⟩ dX11_eveningAt_62
/-- what the making of the evening j leaves, in its place -/
theorem even_made {D : va_G} {cA : Nat → ClassId} {bs : Ad} {n j : Nat} {K K1 K2 : mK} {R R1 R2 R3 : mR} {I I1 I2 : mI} {L L1 L2 : mL} {H0 H : Heap} (hM0 : mm D cA bs (n, K, R, I, L) H0) (hj : j < 2) (ho : isX11 K R) (hH : isH K R j) (hh : bs.2.2 (94 + 17 * j) = true) (ea : al K R I L n (2, 19) K1 R1 I1 L1) (h1 : ∀ q ∈ fX2, (R2 n q.1 = some (n + q.2.1) ∧ K2 (n + q.2.1) = q.2.2) ∧ I2 (n + q.2.1) = i0 ∧ L2 (n + q.2.1) = l0) (h2 : R2 n 0 = some (5 + 19 * j)) (h3 : K2 n = K1 n ∧ I2 n = I1 n ∧ L2 n = L1 n) (hB : Bel n K1 K2 R1 R2 I1 I2 L1 L2) (e3 : R3 = up2 R2 65 j (some n)) (hM : mm D cA bs (n + 17, K2, R3, I2, L2) H) : mm D cA (bsR bs n (94 + 17 * j)) (n, KR K (94 + 17 * j), R, I, L) H ∧ EX bs K R (bsR bs n (94 + 17 * j)) (KR K (94 + 17 * j)) := by
  obtain ⟨rfl, rfl, rfl, rfl⟩ := ea
  have hn : 128 ≤ n := (hM0.2.2.2.2.2.1 _ hh).1.2.2
  have hKh : (K (5 + 19 * j)).1 = 3 := by
    have := (ho.2.1.2.2 j hj).1.2.1
    rw [show 1 + 4 + 19 * j = 5 + 19 * j by omega] at this; exact this
  have lt : ∀ c, lve K c → c < n := fun c hc => mm_lt hM0 hc
  have ou : ∀ c, lve K c → c < 94 + 17 * j ∨ 94 + 17 * j + 17 ≤ c := fun c hc => by
    by_cases q : 94 + 17 * j ≤ c ∧ c < 94 + 17 * j + 17
    · have := (hM0.2.2.2.2.2.1 _ (hM0.2.2.2.2.2.2 j hj hh (c - (94 + 17 * j)) (by omega))).2.1
      rw [show 94 + 17 * j + (c - (94 + 17 * j)) = c by omega] at this; exact absurd hc this
    · omega
  refine ⟨mm_ren (K' := K2) (R2 := R3) (I' := I2) (L' := L2) hM0 hM hj rfl hh (by rw [ho.2.2.2.2.1.2.1]) (ho.2.2.2.2.1.2.2 j hj).1 (fun c hc => ?_) (by rw [e3, up2_at]) (fun k hk => ?_) (fun i hi => ?_) (h := 5 + 19 * j) (by unfold lve; rw [hKh]; decide) ⟨?_, fun q hq => ?_⟩ ⟨hH.2.1, fun q hq => ?_⟩, EX_KR hj hH lt ou⟩
  · have b := hB c hc
    refine ⟨by rw [b.1, up1_n _ _ (by omega)], by rw [b.2.1, up1_n _ _ (by omega)], by rw [b.2.2.1, up1_n _ _ (by omega)], fun h65 => ?_⟩
    rw [e3, up2_n _ _ _ h65, b.2.2.2, up1_n _ _ (by omega)]
  · rw [e3, up2_off _ _ (Or.inr hk), (hB 65 (by omega)).2.2.2, up1_n _ _ (by omega)]
  · by_cases hi0 : i = 0
    · subst hi0
      rw [Nat.add_zero, h3.1, h3.2.1, h3.2.2, up1_s, up1_s, up1_s]; exact ⟨rfl, rfl, rfl⟩
    · obtain ⟨q, hq, rfl⟩ := fX2_d i hi hi0
      have := h1 q hq
      exact ⟨by rw [this.1.2, (kE_f q hq).1], this.2.1, this.2.2⟩
  · rw [e3, up2_n _ _ _ (by omega)]; exact h2
  · rw [e3, up2_n _ _ _ (by omega)]; exact (h1 q hq).1.1
  · obtain ⟨i, hi⟩ := List.getElem?_of_mem hq
    exact hH.2.2 i q hi
set_option maxRecDepth 100000 in
set_option maxHeartbeats 4000000 in
theorem c_X11_eveningAt {l : Launch} {D : va_G} {cA : Nat → ClassId} {Z : mZ} {bs : Ad} {n : Nat} {K : mK} {R : mR} {I : mI} {L : mL} {a1 : Int32} {post : Option Nat → mI → Prop} (ho : isX11 K R ) (hw : w_X11_eveningAt I a1 post) : Met l yX11_eveningAt (.code yX11_eveningAt cX11_eveningAt 3 (some (.object "EchoStair$Evening")) :: gw) ({ frames := 4, cells := 17, slots := 6542, locals := 110 } : Room) (PreM D cA Z bs (n, K, R, I, L) [.ref (ad bs 0), .int a1]) (QOX D cA bs K R (fun r u => ∃ K' I', u = (n, K', R, I', L) ∧ post r I' ∧ ∀ a, r = some a → isX2 K' R a (hE a))) 17 6542 (Ab bs) := by
  refine m_met (by decide) (Nat.le_of_ble_eq_true rfl) (fun p e s m below meth c ls E hr hlk hM hS hl => ?_)
  have E : Ev p s m _ c cX11_eveningAt 3 RX11 D cA Z bs := E
  have hl : lv_has ls 3 [(0, .ref (ad bs 0)), (1, .int a1)] := hl
  have hx := E.1.1
  have hb := E.1.2.1
  generalize hHe : s.heap = H at hM ⊢
  have hS : va_S (Ab bs) s.heap H [] := by rw [← hHe]; exact va_S.rf
  clear hHe
  have hw := w_houseAt_x hw
  refine lv_aload_n hx hb dX11_eveningAt_0 rfl (lv_at hl 0 rfl) ?_
  refine lv_iload_n hx hb dX11_eveningAt_1 rfl (lv_at hl 1 rfl) ?_
  refine m_co (m_runV E hM hS cs_X11_153 ho.1 (by decide) rfl rfl (c_X11_houseAt ho hw) rfl rfl ⟨Nat.le_of_ble_eq_true rfl, Nat.le_of_ble_eq_true rfl⟩ rfl hl.1 rfl (Nat.le_of_ble_eq_true rfl) dX11_eveningAt_2 ⟨Nat.le_of_ble_eq_true rfl, Nat.le_of_ble_eq_true rfl⟩) hS (fun r1 u H locs hp hM hS => ?_)
  obtain ⟨rfl, ⟨hw, hq9⟩, hqr1⟩ := hp
  rcases r1 with _ | q2
  · have hw := hw.1 rfl
    refine lv_astore_nN (lv' := [(2, .null), (0, .ref (ad bs 0)), (1, .int a1)]) hx hb dX11_eveningAt_5 rfl hl (by decide) rfl (fun ls hl => ?_)
    refine lv_aload_nN hx hb dX11_eveningAt_6 rfl (lv_at hl 0 rfl) ?_
    refine lv_ifnonnullN hx hb dX11_eveningAt_7 ?_
    refine lv_null hx hb dX11_eveningAt_10 ?_
    refine W.widen (k := 17) (n := 6542) (Nat.le_of_ble_eq_true rfl) (Nat.le_of_ble_eq_true rfl) ?_
    exact m_retox hx hb hr (Or.inl ⟨_, rfl⟩) hlk none rfl (EX_rf bs K R) hM hS ⟨_, _, rfl, hw, fun _ h => by cases h⟩ dX11_eveningAt_11
  · obtain ⟨e2, hv⟩ := hq9 _ rfl
    subst e2
    have hq2 := hqr1 _ rfl
    obtain ⟨_, hw⟩ := hw.2 _ rfl
    have h65 : R 65 a1.toNatClampNeg = some (94 + 17 * a1.toNatClampNeg) := (ho.2.2.2.2.1.2.2 _ (vp_in_lt hv)).1
    refine lv_astore_n (lv' := [(2, .ref (ad bs (5 + 19 * a1.toNatClampNeg))), (0, .ref (ad bs 0)), (1, .int a1)]) hx hb dX11_eveningAt_5 rfl hl (by decide) rfl (fun ls hl => ?_)
    refine lv_aload_n hx hb dX11_eveningAt_6 rfl (lv_at hl 0 rfl) ?_
    refine lv_ifnonnull (tgt := 12) hx hb dX11_eveningAt_7 (by decide) ?_
    refine lv_aload_n hx hb dX11_eveningAt_12 rfl (lv_at hl 1 rfl) ?_
    refine m_getr E hM fs_X11_35 ho.1 ho.2.2.2.2.1.1 dX11_eveningAt_13 ?_
    refine lv_iload_n hx hb dX11_eveningAt_16 rfl (lv_at hl 2 rfl) ?_
    rcases (ho.2.2.2.2.1.2.2 _ (vp_in_lt hv)).2 with hs | hH
    · have hlv : (K (94 + 17 * a1.toNatClampNeg)).1 ≠ 99 := by rw [hs.1.1]; decide
      refine m_aaldE E hM ho.2.2.2.2.1.2.1 hv h65 hlv dX11_eveningAt_17 ?_
      refine lv_ifnonnull (tgt := 35) hx hb dX11_eveningAt_18 (by decide) ?_
      refine W.widen (k := 17) (n := 6542) (Nat.le_of_ble_eq_true rfl) (Nat.le_of_ble_eq_true rfl) ?_
      exact s_X11_eveningAt_35 E hr hlk (EX_rf bs K R) ho hs hv hw hM hS (lv_sub hl [1, 2] rfl)
    · have l65 : (K 65).1 = 17 := by rw [ho.2.2.2.2.1.2.1]
      have hh : bs.2.2 (94 + 17 * a1.toNatClampNeg) = true := (hM.2.2.2.2.1 65 _ _ (by show (K 65).1 ≠ 99; rw [l65]; decide) (Or.inr (by show 17 ≤ (K 65).1; rw [l65]; decide)) h65).elim (fun q => absurd hH.1 q) (fun q => q.2.2.2)
      refine m_aaldH E hM ho.2.2.2.2.1.2.1 hv h65 hh dX11_eveningAt_17 ?_
      refine lv_ifnonnullN hx hb dX11_eveningAt_18 ?_
      refine lv_aload_n hx hb dX11_eveningAt_21 rfl (lv_at hl 1 rfl) ?_
      refine m_getr E hM fs_X11_35 ho.1 ho.2.2.2.2.1.1 dX11_eveningAt_22 ?_
      refine lv_iload_n hx hb dX11_eveningAt_25 rfl (lv_at hl 2 rfl) ?_
      have hn : 128 ≤ n := (hM.2.2.2.2.2.1 _ hh).1.2.2
      have hj := vp_in_lt hv
      refine m_new E hM hS nw_X11_33 (Nat.le_of_ble_eq_true rfl) (Nat.le_of_ble_eq_true rfl) dX11_eveningAt_26 (fun K1 R1 I1 L1 H1 ea hM1 hS => ?_)
      have k1 : (K1 n).1 = 2 := by rw [ea.1, up1_s]
      have k3 : (K1 (5 + 19 * a1.toNatClampNeg)).1 = 3 := by rw [ea.1, up1_n _ _ (by omega)]; exact hq2.1
      have k65 : K1 65 = (17, 2) := by rw [ea.1, up1_n _ _ (by omega)]; exact ho.2.2.2.2.1.2.1
      refine lv_dup hx hb dX11_eveningAt_29 rfl ?_
      refine lv_aload_n hx hb dX11_eveningAt_30 rfl (lv_at hl 0 rfl) ?_
      have hwi : w_X2_init (n + 1) K1 R1 I1 L1 n (5 + 19 * a1.toNatClampNeg) (fun K2 R2 I2 L2 => (∀ q ∈ fX2, (R2 n q.1 = some (n + q.2.1) ∧ K2 (n + q.2.1) = q.2.2) ∧ I2 (n + q.2.1) = i0 ∧ L2 (n + q.2.1) = l0) ∧ R2 n 0 = some (5 + 19 * a1.toNatClampNeg) ∧ (K2 n = K1 n ∧ I2 n = I1 n ∧ L2 n = L1 n) ∧ Bel n K1 K2 R1 R2 I1 I2 L1 L2) := w_i2 k1 k3 (by omega) (fun K2 R2 I2 L2 q1 q2 q3 q4 => ⟨q1, q2, q3, q4⟩)
      refine m_cv (m_runI E hM1 hS cs_X11_453 (c_X2_init k1 hwi) rfl rfl ⟨Nat.le_of_ble_eq_true rfl, Nat.le_of_ble_eq_true rfl⟩ rfl hl.1 rfl (Nat.le_of_ble_eq_true rfl) dX11_eveningAt_31 ⟨Nat.le_of_ble_eq_true rfl, Nat.le_of_ble_eq_true rfl⟩) hS (fun u H2 locs hp hM2 hS => ?_)
      obtain ⟨K2, R2, I2, L2, rfl, q1, q2, q3, q4⟩ := hp
      refine m_aast E hM2 hS (ci := 2) (t0 := 4) (by rw [(q4 65 (by omega)).1]; exact k65) (by decide) (by decide) (by rw [q3.1]; exact k1) (by decide) rfl rfl hv dX11_eveningAt_34 (fun R3 H3 locs e3 hM3 hS => ?_)
      obtain ⟨hM9, hx1⟩ := even_made hM hj ho hH hh ea q1 q2 q3 q4 e3 hM3
      have e0 := hx1.2.1 0 (by unfold lve; rw [ho.1]; decide)
      have ho9 := hx1.2.2.2 ho
      have hs9 : isX2 (KR K (94 + 17 * a1.toNatClampNeg)) R (94 + 17 * a1.toNatClampNeg) (5 + 19 * a1.toNatClampNeg) := (ho9.2.2.2.2.1.2.2 _ hj).2.resolve_right (fun q => by
        have := KR_in (K := K) (e := 94 + 17 * a1.toNatClampNeg) (i := 0) (by decide)
        rw [Nat.add_zero] at this
        have q1 := q.1
        rw [this] at q1; exact absurd q1 (by decide))
      have hl : lv_has ls 3 [(0, .ref (ad (bsR bs n (94 + 17 * a1.toNatClampNeg)) 0)), (1, .int a1)] := by rw [e0]; exact lv_sub hl [1, 2] rfl
      refine W.widen (k := 17) (n := 6542) (Nat.le_of_ble_eq_true rfl) (Nat.le_of_ble_eq_true rfl) ?_
      exact s_X11_eveningAt_35 (EX_E hx1 E) hr hlk hx1 ho9 hs9 hv hw hM9 (by rw [Ab_e hx1.1]; exact hS) hl
theorem dX11_person_0 : decode cX11_person 0 = .ok (.aload_n 0, 1) := by decide +kernel
theorem dX11_person_1 : decode cX11_person 1 = .ok (.iload_n 1, 1) := by decide +kernel
theorem dX11_person_2 : decode cX11_person 2 = .ok (.invokevirtual 199, 3) := by decide +kernel
theorem dX11_person_5 : decode cX11_person 5 = .ok (.astore 4, 2) := by decide +kernel
theorem dX11_person_7 : decode cX11_person 7 = .ok (.aload 4, 2) := by decide +kernel
theorem dX11_person_9 : decode cX11_person 9 = .ok (.ifnull 15, 3) := by decide +kernel
theorem dX11_person_12 : decode cX11_person 12 = .ok (.aload 4, 2) := by decide +kernel
theorem dX11_person_14 : decode cX11_person 14 = .ok (.getfield 203, 3) := by decide +kernel
theorem dX11_person_17 : decode cX11_person 17 = .ok (.iload_n 2, 1) := by decide +kernel
theorem dX11_person_18 : decode cX11_person 18 = .ok (.invokevirtual 204, 3) := by decide +kernel
theorem dX11_person_21 : decode cX11_person 21 = .ok (.ifCond .ne 6, 3) := by decide +kernel
theorem dX11_person_24 : decode cX11_person 24 = .ok (.bipush (-2), 2) := by decide +kernel
theorem dX11_person_26 : decode cX11_person 26 = .ok (.ireturn, 1) := by decide +kernel
theorem dX11_person_27 : decode cX11_person 27 = .ok (.aload 4, 2) := by decide +kernel
theorem dX11_person_29 : decode cX11_person 29 = .ok (.getfield 203, 3) := by decide +kernel
theorem dX11_person_32 : decode cX11_person 32 = .ok (.astore 5, 2) := by decide +kernel
theorem dX11_person_34 : decode cX11_person 34 = .ok (.iload_n 3, 1) := by decide +kernel
theorem dX11_person_35 : decode cX11_person 35 = .ok (.bipush 100, 2) := by decide +kernel
theorem dX11_person_37 : decode cX11_person 37 = .ok (.if_icmp .lt 26, 3) := by decide +kernel
theorem dX11_person_40 : decode cX11_person 40 = .ok (.iload_n 3, 1) := by decide +kernel
theorem dX11_person_41 : decode cX11_person 41 = .ok (.sipush 200, 3) := by decide +kernel
theorem dX11_person_44 : decode cX11_person 44 = .ok (.if_icmp .ge 16, 3) := by decide +kernel
theorem dX11_person_47 : decode cX11_person 47 = .ok (.aload 5, 2) := by decide +kernel
theorem dX11_person_49 : decode cX11_person 49 = .ok (.iload_n 2, 1) := by decide +kernel
theorem dX11_person_50 : decode cX11_person 50 = .ok (.iload_n 3, 1) := by decide +kernel
theorem dX11_person_51 : decode cX11_person 51 = .ok (.bipush 100, 2) := by decide +kernel
theorem dX11_person_53 : decode cX11_person 53 = .ok (.isub, 1) := by decide +kernel
theorem dX11_person_54 : decode cX11_person 54 = .ok (.invokevirtual 208, 3) := by decide +kernel
theorem dX11_person_57 : decode cX11_person 57 = .ok (.goto 5, 3) := by decide +kernel
theorem dX11_person_60 : decode cX11_person 60 = .ok (.bipush (-2), 2) := by decide +kernel
theorem dX11_person_62 : decode cX11_person 62 = .ok (.ireturn, 1) := by decide +kernel
theorem dX11_person_63 : decode cX11_person 63 = .ok (.iload_n 3, 1) := by decide +kernel
theorem dX11_person_64 : decode cX11_person 64 = .ok (.bipush 10, 2) := by decide +kernel
theorem dX11_person_66 : decode cX11_person 66 = .ok (.if_icmp .lt 33, 3) := by decide +kernel
theorem dX11_person_69 : decode cX11_person 69 = .ok (.iload_n 3, 1) := by decide +kernel
theorem dX11_person_70 : decode cX11_person 70 = .ok (.bipush 10, 2) := by decide +kernel
theorem dX11_person_72 : decode cX11_person 72 = .ok (.isub, 1) := by decide +kernel
theorem dX11_person_73 : decode cX11_person 73 = .ok (.aload 5, 2) := by decide +kernel
theorem dX11_person_75 : decode cX11_person 75 = .ok (.getfield 211, 3) := by decide +kernel
theorem dX11_person_78 : decode cX11_person 78 = .ok (.iload_n 2, 1) := by decide +kernel
theorem dX11_person_79 : decode cX11_person 79 = .ok (.iaload, 1) := by decide +kernel
theorem dX11_person_80 : decode cX11_person 80 = .ok (.if_icmp .ge 16, 3) := by decide +kernel
theorem dX11_person_83 : decode cX11_person 83 = .ok (.aload 5, 2) := by decide +kernel
theorem dX11_person_85 : decode cX11_person 85 = .ok (.iload_n 2, 1) := by decide +kernel
theorem dX11_person_86 : decode cX11_person 86 = .ok (.iload_n 3, 1) := by decide +kernel
theorem dX11_person_87 : decode cX11_person 87 = .ok (.bipush 10, 2) := by decide +kernel
theorem dX11_person_89 : decode cX11_person 89 = .ok (.isub, 1) := by decide +kernel
theorem dX11_person_90 : decode cX11_person 90 = .ok (.invokevirtual 214, 3) := by decide +kernel
theorem dX11_person_93 : decode cX11_person 93 = .ok (.goto 5, 3) := by decide +kernel
theorem dX11_person_96 : decode cX11_person 96 = .ok (.bipush (-2), 2) := by decide +kernel
theorem dX11_person_98 : decode cX11_person 98 = .ok (.ireturn, 1) := by decide +kernel
theorem dX11_person_99 : decode cX11_person 99 = .ok (.iload_n 3, 1) := by decide +kernel
theorem dX11_person_100 : decode cX11_person 100 = .ok (.tableswitch 113 0 7 #[48, 56, 64, 72, 80, 88, 96, 104], 48) := by decide +kernel
theorem dX11_person_148 : decode cX11_person 148 = .ok (.aload 5, 2) := by decide +kernel
theorem dX11_person_150 : decode cX11_person 150 = .ok (.getfield 217, 3) := by decide +kernel
theorem dX11_person_153 : decode cX11_person 153 = .ok (.iload_n 2, 1) := by decide +kernel
theorem dX11_person_154 : decode cX11_person 154 = .ok (.iaload, 1) := by decide +kernel
theorem dX11_person_155 : decode cX11_person 155 = .ok (.ireturn, 1) := by decide +kernel
theorem dX11_person_156 : decode cX11_person 156 = .ok (.aload 5, 2) := by decide +kernel
theorem dX11_person_158 : decode cX11_person 158 = .ok (.getfield 220, 3) := by decide +kernel
theorem dX11_person_161 : decode cX11_person 161 = .ok (.iload_n 2, 1) := by decide +kernel
theorem dX11_person_162 : decode cX11_person 162 = .ok (.iaload, 1) := by decide +kernel
theorem dX11_person_163 : decode cX11_person 163 = .ok (.ireturn, 1) := by decide +kernel
theorem dX11_person_164 : decode cX11_person 164 = .ok (.aload 5, 2) := by decide +kernel
theorem dX11_person_166 : decode cX11_person 166 = .ok (.getfield 223, 3) := by decide +kernel
theorem dX11_person_169 : decode cX11_person 169 = .ok (.iload_n 2, 1) := by decide +kernel
theorem dX11_person_170 : decode cX11_person 170 = .ok (.iaload, 1) := by decide +kernel
theorem dX11_person_171 : decode cX11_person 171 = .ok (.ireturn, 1) := by decide +kernel
theorem dX11_person_172 : decode cX11_person 172 = .ok (.aload 5, 2) := by decide +kernel
theorem dX11_person_174 : decode cX11_person 174 = .ok (.getfield 226, 3) := by decide +kernel
theorem dX11_person_177 : decode cX11_person 177 = .ok (.iload_n 2, 1) := by decide +kernel
theorem dX11_person_178 : decode cX11_person 178 = .ok (.iaload, 1) := by decide +kernel
theorem dX11_person_179 : decode cX11_person 179 = .ok (.ireturn, 1) := by decide +kernel
theorem dX11_person_180 : decode cX11_person 180 = .ok (.aload 5, 2) := by decide +kernel
theorem dX11_person_182 : decode cX11_person 182 = .ok (.getfield 229, 3) := by decide +kernel
theorem dX11_person_185 : decode cX11_person 185 = .ok (.iload_n 2, 1) := by decide +kernel
theorem dX11_person_186 : decode cX11_person 186 = .ok (.iaload, 1) := by decide +kernel
theorem dX11_person_187 : decode cX11_person 187 = .ok (.ireturn, 1) := by decide +kernel
theorem dX11_person_188 : decode cX11_person 188 = .ok (.aload 5, 2) := by decide +kernel
theorem dX11_person_190 : decode cX11_person 190 = .ok (.getfield 211, 3) := by decide +kernel
theorem dX11_person_193 : decode cX11_person 193 = .ok (.iload_n 2, 1) := by decide +kernel
theorem dX11_person_194 : decode cX11_person 194 = .ok (.iaload, 1) := by decide +kernel
theorem dX11_person_195 : decode cX11_person 195 = .ok (.ireturn, 1) := by decide +kernel
theorem dX11_person_196 : decode cX11_person 196 = .ok (.aload 4, 2) := by decide +kernel
theorem dX11_person_198 : decode cX11_person 198 = .ok (.getfield 232, 3) := by decide +kernel
theorem dX11_person_201 : decode cX11_person 201 = .ok (.iload_n 2, 1) := by decide +kernel
theorem dX11_person_202 : decode cX11_person 202 = .ok (.iaload, 1) := by decide +kernel
theorem dX11_person_203 : decode cX11_person 203 = .ok (.ireturn, 1) := by decide +kernel
theorem dX11_person_204 : decode cX11_person 204 = .ok (.aload 4, 2) := by decide +kernel
theorem dX11_person_206 : decode cX11_person 206 = .ok (.iload_n 2, 1) := by decide +kernel
theorem dX11_person_207 : decode cX11_person 207 = .ok (.bipush 99, 2) := by decide +kernel
theorem dX11_person_209 : decode cX11_person 209 = .ok (.invokevirtual 235, 3) := by decide +kernel
theorem dX11_person_212 : decode cX11_person 212 = .ok (.ireturn, 1) := by decide +kernel
theorem dX11_person_213 : decode cX11_person 213 = .ok (.bipush (-2), 2) := by decide +kernel
theorem dX11_person_215 : decode cX11_person 215 = .ok (.ireturn, 1) := by decide +kernel
def w_X11_person (I : mI) (a1 : Int32) (a2 : Int32) (a3 : Int32) (post : Int32 → mI → Prop) : Prop := w_X11_eveningAt I a1 (fun r1 I2 => (r1 = none → post (-2) I2) ∧ (∀ q3 : Nat, r1 = some q3 → w_X3_hasPerson I2 (hE q3) a2 (fun b4 => (b4 = true → (a3 < 100 → (a3 < 10 → (a3 = 0 → vp_in a2 6 ∧ post (I2 ((hE q3) + 4) a2.toNatClampNeg) I2) ∧ (a3 = 1 → vp_in a2 6 ∧ post (I2 ((hE q3) + 5) a2.toNatClampNeg) I2) ∧ (a3 = 2 → vp_in a2 6 ∧ post (I2 ((hE q3) + 6) a2.toNatClampNeg) I2) ∧ (a3 = 3 → vp_in a2 6 ∧ post (I2 ((hE q3) + 7) a2.toNatClampNeg) I2) ∧ (a3 = 4 → vp_in a2 6 ∧ post (I2 ((hE q3) + 8) a2.toNatClampNeg) I2) ∧ (a3 = 5 → vp_in a2 6 ∧ post (I2 ((hE q3) + 9) a2.toNatClampNeg) I2) ∧ (a3 = 6 → vp_in a2 6 ∧ post (I2 (q3 + 10) a2.toNatClampNeg) I2) ∧ (a3 = 7 → w_X2_spotAt I2 q3 (hE q3) a2 99 (fun r5 => post r5 I2)) ∧ (¬ a3 = 0 → ¬ a3 = 1 → ¬ a3 = 2 → ¬ a3 = 3 → ¬ a3 = 4 → ¬ a3 = 5 → ¬ a3 = 6 → ¬ a3 = 7 → post (-2) I2)) ∧ (¬ a3 < 10 → vp_in a2 6 ∧ ((I2 ((hE q3) + 9) a2.toNatClampNeg) ≤ (a3 - 10) → post (-2) I2) ∧ (¬ (I2 ((hE q3) + 9) a2.toNatClampNeg) ≤ (a3 - 10) → w_X3_goalOf I2 (hE q3) a2 (a3 - 10) (fun r6 => post r6 I2)))) ∧ (¬ a3 < 100 → (200 ≤ a3 → post (-2) I2) ∧ (¬ 200 ≤ a3 → w_X3_shoeAt I2 (hE q3) a2 (a3 - 100) (fun r7 => post r7 I2)))) ∧ (b4 = false → post (-2) I2))))
set_option maxRecDepth 100000 in
set_option maxHeartbeats 4000000 in
theorem c_X11_person {l : Launch} {D : va_G} {cA : Nat → ClassId} {Z : mZ} {bs : Ad} {n : Nat} {K : mK} {R : mR} {I : mI} {L : mL} {a1 : Int32} {a2 : Int32} {a3 : Int32} {post : Int32 → mI → Prop} (ho : isX11 K R ) (hw : w_X11_person I a1 a2 a3 post) : Met l yX11_person (.code yX11_person cX11_person 6 (some .int) :: gw) ({ frames := 5, cells := 17, slots := 6542, locals := 132 } : Room) (PreM D cA Z bs (n, K, R, I, L) [.ref (ad bs 0), .int a1, .int a2, .int a3]) (QIX D cA bs K R (fun r u => ∃ K' I', u = (n, K', R, I', L) ∧ post r I')) 17 6542 (Ab bs) := by
  refine m_met (by decide) (Nat.le_of_ble_eq_true rfl) (fun p e s m below meth c ls E hr hlk hM hS hl => ?_)
  have E : Ev p s m _ c cX11_person 6 RX11 D cA Z bs := E
  have hl : lv_has ls 6 [(0, .ref (ad bs 0)), (1, .int a1), (2, .int a2), (3, .int a3)] := hl
  have hx := E.1.1
  have hb := E.1.2.1
  generalize hHe : s.heap = H at hM ⊢
  have hS : va_S (Ab bs) s.heap H [] := by rw [← hHe]; exact va_S.rf
  clear hHe
  have hx0 := EX_rf bs K R
  refine lv_aload_n hx hb dX11_person_0 rfl (lv_at hl 0 rfl) ?_
  refine lv_iload_n hx hb dX11_person_1 rfl (lv_at hl 1 rfl) ?_
  refine m_cox (m_runV E hM hS cs_X11_199 ho.1 (by decide) rfl rfl (c_X11_eveningAt ho hw) rfl rfl ⟨Nat.le_of_ble_eq_true rfl, Nat.le_of_ble_eq_true rfl⟩ rfl hl.1 rfl (Nat.le_of_ble_eq_true rfl) dX11_person_2 ⟨Nat.le_of_ble_eq_true rfl, Nat.le_of_ble_eq_true rfl⟩) hS (fun r1 bs u H locs hx1 hp hM hS => ?_)
  obtain ⟨K, I2, rfl, hw, hqr1⟩ := hp
  have hx1 : EX _ _ R bs K := hx1
  have e0 := hx1.2.1 0 (by unfold lve; rw [ho.1]; decide)
  have E := EX_E hx1 E
  have hl : lv_has ls 6 [(2, .int a2), (3, .int a3)] := by exact lv_sub hl [2, 3] rfl
  have ho := hx1.2.2.2 ho
  have hx0 := EX_tr hx0 hx1
  clear e0 hx1
  rcases r1 with _ | q3
  · have hw := hw.1 rfl
    refine lv_astoreN (lv' := [(4, .null), (2, .int a2), (3, .int a3)]) hx hb dX11_person_5 hl (by decide) rfl (fun ls hl => ?_)
    refine lv_aloadN hx hb dX11_person_7 (lv_at hl 0 rfl) ?_
    refine lv_ifnullN (tgt := 24) hx hb dX11_person_9 (by decide) ?_
    refine lv_bipush (v := (-2)) hx hb dX11_person_24 (by decide) ?_
    refine W.widen (k := 17) (n := 6542) (Nat.le_of_ble_eq_true rfl) (Nat.le_of_ble_eq_true rfl) ?_
    exact m_retix hx hb hr hlk hx0 hM hS ⟨_, _, rfl, hw⟩ dX11_person_26
  · have hq3 := hqr1 _ rfl
    have hw := hw.2 q3 rfl
    refine lv_astore (lv' := [(4, .ref (ad bs q3)), (2, .int a2), (3, .int a3)]) hx hb dX11_person_5 hl (by decide) rfl (fun ls hl => ?_)
    refine lv_aload hx hb dX11_person_7 (lv_at hl 0 rfl) ?_
    refine lv_ifnull hx hb dX11_person_9 ?_
    refine lv_aload hx hb dX11_person_12 (lv_at hl 0 rfl) ?_
    refine m_getr E hM fs_X11_203 hq3.1.1 hq3.2.1 dX11_person_14 ?_
    refine lv_iload_n hx hb dX11_person_17 rfl (lv_at hl 1 rfl) ?_
    refine m_ci (m_runV E hM hS cs_X11_204 hq3.2.2.1 (by decide) rfl rfl (c_X3_hasPerson hq3.2.2 hw) rfl rfl ⟨Nat.le_of_ble_eq_true rfl, Nat.le_of_ble_eq_true rfl⟩ rfl hl.1 rfl (Nat.le_of_ble_eq_true rfl) dX11_person_18 ⟨Nat.le_of_ble_eq_true rfl, Nat.le_of_ble_eq_true rfl⟩) hS (fun r9 u H locs hp hM hS => ?_)
    obtain ⟨b4, rfl, rfl, hw⟩ := hp
    refine lv_if_ne (tgt := 27) hx hb dX11_person_21 (by decide) (fun cq => ?_) (fun cq => ?_)
    · have hw := hw.1 (bI_t cq)
      refine lv_aload hx hb dX11_person_27 (lv_at hl 0 rfl) ?_
      refine m_getr E hM fs_X11_203 hq3.1.1 hq3.2.1 dX11_person_29 ?_
      refine lv_astore (lv' := [(5, .ref (ad bs (hE q3))), (4, .ref (ad bs q3)), (2, .int a2), (3, .int a3)]) hx hb dX11_person_32 hl (by decide) rfl (fun ls hl => ?_)
      refine lv_iload_n hx hb dX11_person_34 rfl (lv_at hl 3 rfl) ?_
      refine lv_bipush (v := 100) hx hb dX11_person_35 (by decide) ?_
      refine lv_icmp_lt (tgt := 63) hx hb dX11_person_37 (by decide) (fun cq => ?_) (fun cq => ?_)
      · have hw := hw.1 cq
        refine lv_iload_n hx hb dX11_person_63 rfl (lv_at hl 3 rfl) ?_
        refine lv_bipush (v := 10) hx hb dX11_person_64 (by decide) ?_
        refine lv_icmp_lt (tgt := 99) hx hb dX11_person_66 (by decide) (fun cq => ?_) (fun cq => ?_)
        · have hw := hw.1 cq
          refine lv_iload_n hx hb dX11_person_99 rfl (lv_at hl 3 rfl) ?_
          by_cases cq0 : a3 = 0
          · have hw := hw.1 cq0
            refine lv_tableIn (tgt := 148) hx hb dX11_person_100 (by rw [cq0]; decide) (by rw [cq0]; decide) (by rw [cq0]; rfl) (by decide) ?_
            refine lv_aload hx hb dX11_person_148 (lv_at hl 0 rfl) ?_
            refine m_getr E hM fs_X11_217 hq3.2.2.1 (isO_at hq3.2.2 3 rfl).1 dX11_person_150 ?_
            refine lv_iload_n hx hb dX11_person_153 rfl (lv_at hl 2 rfl) ?_
            obtain ⟨hv, hw⟩ := hw
            refine m_iald E hM (isO_at hq3.2.2 3 rfl).2 hv dX11_person_154 ?_
            refine W.widen (k := 17) (n := 6542) (Nat.le_of_ble_eq_true rfl) (Nat.le_of_ble_eq_true rfl) ?_
            exact m_retix hx hb hr hlk hx0 hM hS ⟨_, _, rfl, hw⟩ dX11_person_155
          by_cases cq1 : a3 = 1
          · have hw := hw.2.1 cq1
            refine lv_tableIn (tgt := 156) hx hb dX11_person_100 (by rw [cq1]; decide) (by rw [cq1]; decide) (by rw [cq1]; rfl) (by decide) ?_
            refine lv_aload hx hb dX11_person_156 (lv_at hl 0 rfl) ?_
            refine m_getr E hM fs_X11_220 hq3.2.2.1 (isO_at hq3.2.2 4 rfl).1 dX11_person_158 ?_
            refine lv_iload_n hx hb dX11_person_161 rfl (lv_at hl 2 rfl) ?_
            obtain ⟨hv, hw⟩ := hw
            refine m_iald E hM (isO_at hq3.2.2 4 rfl).2 hv dX11_person_162 ?_
            refine W.widen (k := 17) (n := 6542) (Nat.le_of_ble_eq_true rfl) (Nat.le_of_ble_eq_true rfl) ?_
            exact m_retix hx hb hr hlk hx0 hM hS ⟨_, _, rfl, hw⟩ dX11_person_163
          by_cases cq2 : a3 = 2
          · have hw := hw.2.2.1 cq2
            refine lv_tableIn (tgt := 164) hx hb dX11_person_100 (by rw [cq2]; decide) (by rw [cq2]; decide) (by rw [cq2]; rfl) (by decide) ?_
            refine lv_aload hx hb dX11_person_164 (lv_at hl 0 rfl) ?_
            refine m_getr E hM fs_X11_223 hq3.2.2.1 (isO_at hq3.2.2 5 rfl).1 dX11_person_166 ?_
            refine lv_iload_n hx hb dX11_person_169 rfl (lv_at hl 2 rfl) ?_
            obtain ⟨hv, hw⟩ := hw
            refine m_iald E hM (isO_at hq3.2.2 5 rfl).2 hv dX11_person_170 ?_
            refine W.widen (k := 17) (n := 6542) (Nat.le_of_ble_eq_true rfl) (Nat.le_of_ble_eq_true rfl) ?_
            exact m_retix hx hb hr hlk hx0 hM hS ⟨_, _, rfl, hw⟩ dX11_person_171
          by_cases cq3 : a3 = 3
          · have hw := hw.2.2.2.1 cq3
            refine lv_tableIn (tgt := 172) hx hb dX11_person_100 (by rw [cq3]; decide) (by rw [cq3]; decide) (by rw [cq3]; rfl) (by decide) ?_
            refine lv_aload hx hb dX11_person_172 (lv_at hl 0 rfl) ?_
            refine m_getr E hM fs_X11_226 hq3.2.2.1 (isO_at hq3.2.2 6 rfl).1 dX11_person_174 ?_
            refine lv_iload_n hx hb dX11_person_177 rfl (lv_at hl 2 rfl) ?_
            obtain ⟨hv, hw⟩ := hw
            refine m_iald E hM (isO_at hq3.2.2 6 rfl).2 hv dX11_person_178 ?_
            refine W.widen (k := 17) (n := 6542) (Nat.le_of_ble_eq_true rfl) (Nat.le_of_ble_eq_true rfl) ?_
            exact m_retix hx hb hr hlk hx0 hM hS ⟨_, _, rfl, hw⟩ dX11_person_179
          by_cases cq4 : a3 = 4
          · have hw := hw.2.2.2.2.1 cq4
            refine lv_tableIn (tgt := 180) hx hb dX11_person_100 (by rw [cq4]; decide) (by rw [cq4]; decide) (by rw [cq4]; rfl) (by decide) ?_
            refine lv_aload hx hb dX11_person_180 (lv_at hl 0 rfl) ?_
            refine m_getr E hM fs_X11_229 hq3.2.2.1 (isO_at hq3.2.2 7 rfl).1 dX11_person_182 ?_
            refine lv_iload_n hx hb dX11_person_185 rfl (lv_at hl 2 rfl) ?_
            obtain ⟨hv, hw⟩ := hw
            refine m_iald E hM (isO_at hq3.2.2 7 rfl).2 hv dX11_person_186 ?_
            refine W.widen (k := 17) (n := 6542) (Nat.le_of_ble_eq_true rfl) (Nat.le_of_ble_eq_true rfl) ?_
            exact m_retix hx hb hr hlk hx0 hM hS ⟨_, _, rfl, hw⟩ dX11_person_187
          by_cases cq5 : a3 = 5
          · have hw := hw.2.2.2.2.2.1 cq5
            refine lv_tableIn (tgt := 188) hx hb dX11_person_100 (by rw [cq5]; decide) (by rw [cq5]; decide) (by rw [cq5]; rfl) (by decide) ?_
            refine lv_aload hx hb dX11_person_188 (lv_at hl 0 rfl) ?_
            refine m_getr E hM fs_X11_211 hq3.2.2.1 (isO_at hq3.2.2 8 rfl).1 dX11_person_190 ?_
            refine lv_iload_n hx hb dX11_person_193 rfl (lv_at hl 2 rfl) ?_
            obtain ⟨hv, hw⟩ := hw
            refine m_iald E hM (isO_at hq3.2.2 8 rfl).2 hv dX11_person_194 ?_
            refine W.widen (k := 17) (n := 6542) (Nat.le_of_ble_eq_true rfl) (Nat.le_of_ble_eq_true rfl) ?_
            exact m_retix hx hb hr hlk hx0 hM hS ⟨_, _, rfl, hw⟩ dX11_person_195
          by_cases cq6 : a3 = 6
          · have hw := hw.2.2.2.2.2.2.1 cq6
            refine lv_tableIn (tgt := 196) hx hb dX11_person_100 (by rw [cq6]; decide) (by rw [cq6]; decide) (by rw [cq6]; rfl) (by decide) ?_
            refine lv_aload hx hb dX11_person_196 (lv_at hl 1 rfl) ?_
            refine m_getr E hM fs_X11_232 hq3.1.1 (isO_at hq3.1 9 rfl).1 dX11_person_198 ?_
            refine lv_iload_n hx hb dX11_person_201 rfl (lv_at hl 2 rfl) ?_
            obtain ⟨hv, hw⟩ := hw
            refine m_iald E hM (isO_at hq3.1 9 rfl).2 hv dX11_person_202 ?_
            refine W.widen (k := 17) (n := 6542) (Nat.le_of_ble_eq_true rfl) (Nat.le_of_ble_eq_true rfl) ?_
            exact m_retix hx hb hr hlk hx0 hM hS ⟨_, _, rfl, hw⟩ dX11_person_203
          by_cases cq7 : a3 = 7
          · have hw := hw.2.2.2.2.2.2.2.1 cq7
            refine lv_tableIn (tgt := 204) hx hb dX11_person_100 (by rw [cq7]; decide) (by rw [cq7]; decide) (by rw [cq7]; rfl) (by decide) ?_
            refine lv_aload hx hb dX11_person_204 (lv_at hl 1 rfl) ?_
            refine lv_iload_n hx hb dX11_person_206 rfl (lv_at hl 2 rfl) ?_
            refine lv_bipush (v := 99) hx hb dX11_person_207 (by decide) ?_
            refine m_ci (m_runV E hM hS cs_X11_235 hq3.1.1 (by decide) rfl rfl (c_X2_spotAt hq3 hw) rfl rfl ⟨Nat.le_of_ble_eq_true rfl, Nat.le_of_ble_eq_true rfl⟩ rfl hl.1 rfl (Nat.le_of_ble_eq_true rfl) dX11_person_209 ⟨Nat.le_of_ble_eq_true rfl, Nat.le_of_ble_eq_true rfl⟩) hS (fun r5 u H locs hp hM hS => ?_)
            obtain ⟨rfl, hw⟩ := hp
            refine W.widen (k := 17) (n := 6542) (Nat.le_of_ble_eq_true rfl) (Nat.le_of_ble_eq_true rfl) ?_
            exact m_retix hx hb hr hlk hx0 hM hS ⟨_, _, rfl, hw⟩ dX11_person_212
          have hw := hw.2.2.2.2.2.2.2.2 cq0 cq1 cq2 cq3 cq4 cq5 cq6 cq7
          refine lv_tableOut (tgt := 213) hx hb dX11_person_100 (by have hn0 := lv_neT cq0 (a := 0) (by decide); have hn1 := lv_neT cq1 (a := 1) (by decide); have hn2 := lv_neT cq2 (a := 2) (by decide); have hn3 := lv_neT cq3 (a := 3) (by decide); have hn4 := lv_neT cq4 (a := 4) (by decide); have hn5 := lv_neT cq5 (a := 5) (by decide); have hn6 := lv_neT cq6 (a := 6) (by decide); have hn7 := lv_neT cq7 (a := 7) (by decide); omega) (by decide) ?_
          refine lv_bipush (v := (-2)) hx hb dX11_person_213 (by decide) ?_
          refine W.widen (k := 17) (n := 6542) (Nat.le_of_ble_eq_true rfl) (Nat.le_of_ble_eq_true rfl) ?_
          exact m_retix hx hb hr hlk hx0 hM hS ⟨_, _, rfl, hw⟩ dX11_person_215
        · have hw := hw.2 cq
          refine lv_iload_n hx hb dX11_person_69 rfl (lv_at hl 3 rfl) ?_
          refine lv_bipush (v := 10) hx hb dX11_person_70 (by decide) ?_
          refine lv_isub hx hb dX11_person_72 ?_
          refine lv_aload hx hb dX11_person_73 (lv_at hl 0 rfl) ?_
          refine m_getr E hM fs_X11_211 hq3.2.2.1 (isO_at hq3.2.2 8 rfl).1 dX11_person_75 ?_
          refine lv_iload_n hx hb dX11_person_78 rfl (lv_at hl 2 rfl) ?_
          obtain ⟨hv, hw⟩ := hw
          refine m_iald E hM (isO_at hq3.2.2 8 rfl).2 hv dX11_person_79 ?_
          refine lv_icmp_ge (tgt := 96) hx hb dX11_person_80 (by decide) (fun cq => ?_) (fun cq => ?_)
          · have hw := hw.1 cq
            refine lv_bipush (v := (-2)) hx hb dX11_person_96 (by decide) ?_
            refine W.widen (k := 17) (n := 6542) (Nat.le_of_ble_eq_true rfl) (Nat.le_of_ble_eq_true rfl) ?_
            exact m_retix hx hb hr hlk hx0 hM hS ⟨_, _, rfl, hw⟩ dX11_person_98
          · have hw := hw.2 cq
            refine lv_aload hx hb dX11_person_83 (lv_at hl 0 rfl) ?_
            refine lv_iload_n hx hb dX11_person_85 rfl (lv_at hl 2 rfl) ?_
            refine lv_iload_n hx hb dX11_person_86 rfl (lv_at hl 3 rfl) ?_
            refine lv_bipush (v := 10) hx hb dX11_person_87 (by decide) ?_
            refine lv_isub hx hb dX11_person_89 ?_
            refine m_ci (m_runV E hM hS cs_X11_214 hq3.2.2.1 (by decide) rfl rfl (c_X3_goalOf hq3.2.2 hw) rfl rfl ⟨Nat.le_of_ble_eq_true rfl, Nat.le_of_ble_eq_true rfl⟩ rfl hl.1 rfl (Nat.le_of_ble_eq_true rfl) dX11_person_90 ⟨Nat.le_of_ble_eq_true rfl, Nat.le_of_ble_eq_true rfl⟩) hS (fun r6 u H locs hp hM hS => ?_)
            obtain ⟨rfl, hw⟩ := hp
            refine lv_goto (tgt := 98) hx hb dX11_person_93 (by decide) ?_
            refine W.widen (k := 17) (n := 6542) (Nat.le_of_ble_eq_true rfl) (Nat.le_of_ble_eq_true rfl) ?_
            exact m_retix hx hb hr hlk hx0 hM hS ⟨_, _, rfl, hw⟩ dX11_person_98
      · have hw := hw.2 cq
        refine lv_iload_n hx hb dX11_person_40 rfl (lv_at hl 3 rfl) ?_
        refine lv_sipush (v := 200) hx hb dX11_person_41 (by decide) ?_
        refine lv_icmp_ge (tgt := 60) hx hb dX11_person_44 (by decide) (fun cq => ?_) (fun cq => ?_)
        · have hw := hw.1 cq
          refine lv_bipush (v := (-2)) hx hb dX11_person_60 (by decide) ?_
          refine W.widen (k := 17) (n := 6542) (Nat.le_of_ble_eq_true rfl) (Nat.le_of_ble_eq_true rfl) ?_
          exact m_retix hx hb hr hlk hx0 hM hS ⟨_, _, rfl, hw⟩ dX11_person_62
        · have hw := hw.2 cq
          refine lv_aload hx hb dX11_person_47 (lv_at hl 0 rfl) ?_
          refine lv_iload_n hx hb dX11_person_49 rfl (lv_at hl 2 rfl) ?_
          refine lv_iload_n hx hb dX11_person_50 rfl (lv_at hl 3 rfl) ?_
          refine lv_bipush (v := 100) hx hb dX11_person_51 (by decide) ?_
          refine lv_isub hx hb dX11_person_53 ?_
          refine m_ci (m_runV E hM hS cs_X11_208 hq3.2.2.1 (by decide) rfl rfl (c_X3_shoeAt hq3.2.2 hw) rfl rfl ⟨Nat.le_of_ble_eq_true rfl, Nat.le_of_ble_eq_true rfl⟩ rfl hl.1 rfl (Nat.le_of_ble_eq_true rfl) dX11_person_54 ⟨Nat.le_of_ble_eq_true rfl, Nat.le_of_ble_eq_true rfl⟩) hS (fun r7 u H locs hp hM hS => ?_)
          obtain ⟨rfl, hw⟩ := hp
          refine lv_goto (tgt := 62) hx hb dX11_person_57 (by decide) ?_
          refine W.widen (k := 17) (n := 6542) (Nat.le_of_ble_eq_true rfl) (Nat.le_of_ble_eq_true rfl) ?_
          exact m_retix hx hb hr hlk hx0 hM hS ⟨_, _, rfl, hw⟩ dX11_person_62
    · have hw := hw.2 (bI_f cq)
      refine lv_bipush (v := (-2)) hx hb dX11_person_24 (by decide) ?_
      refine W.widen (k := 17) (n := 6542) (Nat.le_of_ble_eq_true rfl) (Nat.le_of_ble_eq_true rfl) ?_
      exact m_retix hx hb hr hlk hx0 hM hS ⟨_, _, rfl, hw⟩ dX11_person_26
theorem dX11_tread_0 : decode cX11_tread 0 = .ok (.aload_n 0, 1) := by decide +kernel
theorem dX11_tread_1 : decode cX11_tread 1 = .ok (.iload_n 1, 1) := by decide +kernel
theorem dX11_tread_2 : decode cX11_tread 2 = .ok (.invokevirtual 199, 3) := by decide +kernel
theorem dX11_tread_5 : decode cX11_tread 5 = .ok (.astore 4, 2) := by decide +kernel
theorem dX11_tread_7 : decode cX11_tread 7 = .ok (.aload 4, 2) := by decide +kernel
theorem dX11_tread_9 : decode cX11_tread 9 = .ok (.ifnonnull 6, 3) := by decide +kernel
theorem dX11_tread_12 : decode cX11_tread 12 = .ok (.bipush (-2), 2) := by decide +kernel
theorem dX11_tread_14 : decode cX11_tread 14 = .ok (.ireturn, 1) := by decide +kernel
theorem dX11_tread_15 : decode cX11_tread 15 = .ok (.iload_n 2, 1) := by decide +kernel
theorem dX11_tread_16 : decode cX11_tread 16 = .ok (.iconst (-1), 1) := by decide +kernel
theorem dX11_tread_17 : decode cX11_tread 17 = .ok (.if_icmp .ne 18, 3) := by decide +kernel
theorem dX11_tread_20 : decode cX11_tread 20 = .ok (.iload_n 3, 1) := by decide +kernel
theorem dX11_tread_21 : decode cX11_tread 21 = .ok (.ifCond .ne 11, 3) := by decide +kernel
theorem dX11_tread_24 : decode cX11_tread 24 = .ok (.aload 4, 2) := by decide +kernel
theorem dX11_tread_26 : decode cX11_tread 26 = .ok (.getfield 238, 3) := by decide +kernel
theorem dX11_tread_29 : decode cX11_tread 29 = .ok (.goto 5, 3) := by decide +kernel
theorem dX11_tread_32 : decode cX11_tread 32 = .ok (.bipush (-2), 2) := by decide +kernel
theorem dX11_tread_34 : decode cX11_tread 34 = .ok (.ireturn, 1) := by decide +kernel
theorem dX11_tread_35 : decode cX11_tread 35 = .ok (.iload_n 3, 1) := by decide +kernel
theorem dX11_tread_36 : decode cX11_tread 36 = .ok (.tableswitch 184 0 7 #[48, 65, 82, 99, 116, 133, 150, 167], 48) := by decide +kernel
theorem dX11_tread_84 : decode cX11_tread 84 = .ok (.aload 4, 2) := by decide +kernel
theorem dX11_tread_86 : decode cX11_tread 86 = .ok (.getfield 241, 3) := by decide +kernel
theorem dX11_tread_89 : decode cX11_tread 89 = .ok (.iload_n 2, 1) := by decide +kernel
theorem dX11_tread_90 : decode cX11_tread 90 = .ok (.aload 4, 2) := by decide +kernel
theorem dX11_tread_92 : decode cX11_tread 92 = .ok (.getfield 238, 3) := by decide +kernel
theorem dX11_tread_95 : decode cX11_tread 95 = .ok (.bipush (-2), 2) := by decide +kernel
theorem dX11_tread_97 : decode cX11_tread 97 = .ok (.invokestatic 164, 3) := by decide +kernel
theorem dX11_tread_100 : decode cX11_tread 100 = .ok (.ireturn, 1) := by decide +kernel
theorem dX11_tread_101 : decode cX11_tread 101 = .ok (.aload 4, 2) := by decide +kernel
theorem dX11_tread_103 : decode cX11_tread 103 = .ok (.getfield 244, 3) := by decide +kernel
theorem dX11_tread_106 : decode cX11_tread 106 = .ok (.iload_n 2, 1) := by decide +kernel
theorem dX11_tread_107 : decode cX11_tread 107 = .ok (.aload 4, 2) := by decide +kernel
theorem dX11_tread_109 : decode cX11_tread 109 = .ok (.getfield 238, 3) := by decide +kernel
theorem dX11_tread_112 : decode cX11_tread 112 = .ok (.bipush (-2), 2) := by decide +kernel
theorem dX11_tread_114 : decode cX11_tread 114 = .ok (.invokestatic 164, 3) := by decide +kernel
theorem dX11_tread_117 : decode cX11_tread 117 = .ok (.ireturn, 1) := by decide +kernel
theorem dX11_tread_118 : decode cX11_tread 118 = .ok (.aload 4, 2) := by decide +kernel
theorem dX11_tread_120 : decode cX11_tread 120 = .ok (.getfield 247, 3) := by decide +kernel
theorem dX11_tread_123 : decode cX11_tread 123 = .ok (.iload_n 2, 1) := by decide +kernel
theorem dX11_tread_124 : decode cX11_tread 124 = .ok (.aload 4, 2) := by decide +kernel
theorem dX11_tread_126 : decode cX11_tread 126 = .ok (.getfield 238, 3) := by decide +kernel
theorem dX11_tread_129 : decode cX11_tread 129 = .ok (.bipush (-2), 2) := by decide +kernel
theorem dX11_tread_131 : decode cX11_tread 131 = .ok (.invokestatic 164, 3) := by decide +kernel
theorem dX11_tread_134 : decode cX11_tread 134 = .ok (.ireturn, 1) := by decide +kernel
theorem dX11_tread_135 : decode cX11_tread 135 = .ok (.aload 4, 2) := by decide +kernel
theorem dX11_tread_137 : decode cX11_tread 137 = .ok (.getfield 250, 3) := by decide +kernel
theorem dX11_tread_140 : decode cX11_tread 140 = .ok (.iload_n 2, 1) := by decide +kernel
theorem dX11_tread_141 : decode cX11_tread 141 = .ok (.aload 4, 2) := by decide +kernel
theorem dX11_tread_143 : decode cX11_tread 143 = .ok (.getfield 238, 3) := by decide +kernel
theorem dX11_tread_146 : decode cX11_tread 146 = .ok (.bipush (-2), 2) := by decide +kernel
theorem dX11_tread_148 : decode cX11_tread 148 = .ok (.invokestatic 164, 3) := by decide +kernel
theorem dX11_tread_151 : decode cX11_tread 151 = .ok (.ireturn, 1) := by decide +kernel
theorem dX11_tread_152 : decode cX11_tread 152 = .ok (.aload 4, 2) := by decide +kernel
theorem dX11_tread_154 : decode cX11_tread 154 = .ok (.getfield 251, 3) := by decide +kernel
theorem dX11_tread_157 : decode cX11_tread 157 = .ok (.iload_n 2, 1) := by decide +kernel
theorem dX11_tread_158 : decode cX11_tread 158 = .ok (.aload 4, 2) := by decide +kernel
theorem dX11_tread_160 : decode cX11_tread 160 = .ok (.getfield 238, 3) := by decide +kernel
theorem dX11_tread_163 : decode cX11_tread 163 = .ok (.bipush (-2), 2) := by decide +kernel
theorem dX11_tread_165 : decode cX11_tread 165 = .ok (.invokestatic 164, 3) := by decide +kernel
theorem dX11_tread_168 : decode cX11_tread 168 = .ok (.ireturn, 1) := by decide +kernel
theorem dX11_tread_169 : decode cX11_tread 169 = .ok (.aload 4, 2) := by decide +kernel
theorem dX11_tread_171 : decode cX11_tread 171 = .ok (.getfield 254, 3) := by decide +kernel
theorem dX11_tread_174 : decode cX11_tread 174 = .ok (.iload_n 2, 1) := by decide +kernel
theorem dX11_tread_175 : decode cX11_tread 175 = .ok (.aload 4, 2) := by decide +kernel
theorem dX11_tread_177 : decode cX11_tread 177 = .ok (.getfield 238, 3) := by decide +kernel
theorem dX11_tread_180 : decode cX11_tread 180 = .ok (.bipush (-2), 2) := by decide +kernel
theorem dX11_tread_182 : decode cX11_tread 182 = .ok (.invokestatic 164, 3) := by decide +kernel
theorem dX11_tread_185 : decode cX11_tread 185 = .ok (.ireturn, 1) := by decide +kernel
theorem dX11_tread_186 : decode cX11_tread 186 = .ok (.aload 4, 2) := by decide +kernel
theorem dX11_tread_188 : decode cX11_tread 188 = .ok (.getfield 257, 3) := by decide +kernel
theorem dX11_tread_191 : decode cX11_tread 191 = .ok (.iload_n 2, 1) := by decide +kernel
theorem dX11_tread_192 : decode cX11_tread 192 = .ok (.aload 4, 2) := by decide +kernel
theorem dX11_tread_194 : decode cX11_tread 194 = .ok (.getfield 238, 3) := by decide +kernel
theorem dX11_tread_197 : decode cX11_tread 197 = .ok (.bipush (-2), 2) := by decide +kernel
theorem dX11_tread_199 : decode cX11_tread 199 = .ok (.invokestatic 164, 3) := by decide +kernel
theorem dX11_tread_202 : decode cX11_tread 202 = .ok (.ireturn, 1) := by decide +kernel
theorem dX11_tread_203 : decode cX11_tread 203 = .ok (.aload 4, 2) := by decide +kernel
theorem dX11_tread_205 : decode cX11_tread 205 = .ok (.getfield 260, 3) := by decide +kernel
theorem dX11_tread_208 : decode cX11_tread 208 = .ok (.iload_n 2, 1) := by decide +kernel
theorem dX11_tread_209 : decode cX11_tread 209 = .ok (.aload 4, 2) := by decide +kernel
theorem dX11_tread_211 : decode cX11_tread 211 = .ok (.getfield 238, 3) := by decide +kernel
theorem dX11_tread_214 : decode cX11_tread 214 = .ok (.bipush (-2), 2) := by decide +kernel
theorem dX11_tread_216 : decode cX11_tread 216 = .ok (.invokestatic 164, 3) := by decide +kernel
theorem dX11_tread_219 : decode cX11_tread 219 = .ok (.ireturn, 1) := by decide +kernel
theorem dX11_tread_220 : decode cX11_tread 220 = .ok (.bipush (-2), 2) := by decide +kernel
theorem dX11_tread_222 : decode cX11_tread 222 = .ok (.ireturn, 1) := by decide +kernel
def w_X11_tread (I : mI) (a1 : Int32) (a2 : Int32) (a3 : Int32) (post : Int32 → mI → Prop) : Prop := w_X11_eveningAt I a1 (fun r1 I2 => (r1 = none → post (-2) I2) ∧ (∀ q3 : Nat, r1 = some q3 → (¬ a2 = (-1) → (a3 = 0 → w_X11_pick I2 (q3 + 1) 600 a2 (I2 q3 2) (-2) (fun r4 => post r4 I2)) ∧ (a3 = 1 → w_X11_pick I2 (q3 + 2) 600 a2 (I2 q3 2) (-2) (fun r5 => post r5 I2)) ∧ (a3 = 2 → w_X11_pick I2 (q3 + 3) 600 a2 (I2 q3 2) (-2) (fun r6 => post r6 I2)) ∧ (a3 = 3 → w_X11_pick I2 (q3 + 4) 600 a2 (I2 q3 2) (-2) (fun r7 => post r7 I2)) ∧ (a3 = 4 → w_X11_pick I2 (q3 + 5) 600 a2 (I2 q3 2) (-2) (fun r8 => post r8 I2)) ∧ (a3 = 5 → w_X11_pick I2 (q3 + 6) 600 a2 (I2 q3 2) (-2) (fun r9 => post r9 I2)) ∧ (a3 = 6 → w_X11_pick I2 (q3 + 7) 600 a2 (I2 q3 2) (-2) (fun r10 => post r10 I2)) ∧ (a3 = 7 → w_X11_pick I2 (q3 + 8) 600 a2 (I2 q3 2) (-2) (fun r11 => post r11 I2)) ∧ (¬ a3 = 0 → ¬ a3 = 1 → ¬ a3 = 2 → ¬ a3 = 3 → ¬ a3 = 4 → ¬ a3 = 5 → ¬ a3 = 6 → ¬ a3 = 7 → post (-2) I2)) ∧ (a2 = (-1) → (¬ a3 = 0 → post (-2) I2) ∧ (a3 = 0 → post (I2 q3 2) I2))))
set_option maxRecDepth 100000 in
set_option maxHeartbeats 4000000 in
theorem c_X11_tread {l : Launch} {D : va_G} {cA : Nat → ClassId} {Z : mZ} {bs : Ad} {n : Nat} {K : mK} {R : mR} {I : mI} {L : mL} {a1 : Int32} {a2 : Int32} {a3 : Int32} {post : Int32 → mI → Prop} (ho : isX11 K R ) (hw : w_X11_tread I a1 a2 a3 post) : Met l yX11_tread (.code yX11_tread cX11_tread 5 (some .int) :: gw) ({ frames := 5, cells := 17, slots := 6542, locals := 132 } : Room) (PreM D cA Z bs (n, K, R, I, L) [.ref (ad bs 0), .int a1, .int a2, .int a3]) (QIX D cA bs K R (fun r u => ∃ K' I', u = (n, K', R, I', L) ∧ post r I')) 17 6542 (Ab bs) := by
  refine m_met (by decide) (Nat.le_of_ble_eq_true rfl) (fun p e s m below meth c ls E hr hlk hM hS hl => ?_)
  have E : Ev p s m _ c cX11_tread 5 RX11 D cA Z bs := E
  have hl : lv_has ls 5 [(0, .ref (ad bs 0)), (1, .int a1), (2, .int a2), (3, .int a3)] := hl
  have hx := E.1.1
  have hb := E.1.2.1
  generalize hHe : s.heap = H at hM ⊢
  have hS : va_S (Ab bs) s.heap H [] := by rw [← hHe]; exact va_S.rf
  clear hHe
  have hx0 := EX_rf bs K R
  refine lv_aload_n hx hb dX11_tread_0 rfl (lv_at hl 0 rfl) ?_
  refine lv_iload_n hx hb dX11_tread_1 rfl (lv_at hl 1 rfl) ?_
  refine m_cox (m_runV E hM hS cs_X11_199 ho.1 (by decide) rfl rfl (c_X11_eveningAt ho hw) rfl rfl ⟨Nat.le_of_ble_eq_true rfl, Nat.le_of_ble_eq_true rfl⟩ rfl hl.1 rfl (Nat.le_of_ble_eq_true rfl) dX11_tread_2 ⟨Nat.le_of_ble_eq_true rfl, Nat.le_of_ble_eq_true rfl⟩) hS (fun r1 bs u H locs hx1 hp hM hS => ?_)
  obtain ⟨K, I2, rfl, hw, hqr1⟩ := hp
  have hx1 : EX _ _ R bs K := hx1
  have e0 := hx1.2.1 0 (by unfold lve; rw [ho.1]; decide)
  have E := EX_E hx1 E
  have hl : lv_has ls 5 [(2, .int a2), (3, .int a3)] := by exact lv_sub hl [2, 3] rfl
  have ho := hx1.2.2.2 ho
  have hx0 := EX_tr hx0 hx1
  clear e0 hx1
  rcases r1 with _ | q3
  · have hw := hw.1 rfl
    refine lv_astoreN (lv' := [(4, .null), (2, .int a2), (3, .int a3)]) hx hb dX11_tread_5 hl (by decide) rfl (fun ls hl => ?_)
    refine lv_aloadN hx hb dX11_tread_7 (lv_at hl 0 rfl) ?_
    refine lv_ifnonnullN hx hb dX11_tread_9 ?_
    refine lv_bipush (v := (-2)) hx hb dX11_tread_12 (by decide) ?_
    refine W.widen (k := 17) (n := 6542) (Nat.le_of_ble_eq_true rfl) (Nat.le_of_ble_eq_true rfl) ?_
    exact m_retix hx hb hr hlk hx0 hM hS ⟨_, _, rfl, hw⟩ dX11_tread_14
  · have hq3 := hqr1 _ rfl
    have hw := hw.2 q3 rfl
    refine lv_astore (lv' := [(4, .ref (ad bs q3)), (2, .int a2), (3, .int a3)]) hx hb dX11_tread_5 hl (by decide) rfl (fun ls hl => ?_)
    refine lv_aload hx hb dX11_tread_7 (lv_at hl 0 rfl) ?_
    refine lv_ifnonnull (tgt := 15) hx hb dX11_tread_9 (by decide) ?_
    refine lv_iload_n hx hb dX11_tread_15 rfl (lv_at hl 1 rfl) ?_
    refine lv_iconst (v := (-1)) hx hb dX11_tread_16 (by decide) ?_
    refine lv_icmp_ne (tgt := 35) hx hb dX11_tread_17 (by decide) (fun cq => ?_) (fun cq => ?_)
    · have hw := hw.1 cq
      refine lv_iload_n hx hb dX11_tread_35 rfl (lv_at hl 2 rfl) ?_
      by_cases cq0 : a3 = 0
      · have hw := hw.1 cq0
        refine lv_tableIn (tgt := 84) hx hb dX11_tread_36 (by rw [cq0]; decide) (by rw [cq0]; decide) (by rw [cq0]; rfl) (by decide) ?_
        refine lv_aload hx hb dX11_tread_84 (lv_at hl 0 rfl) ?_
        refine m_getr E hM fs_X11_241 hq3.1.1 (isO_at hq3.1 0 rfl).1 dX11_tread_86 ?_
        refine lv_iload_n hx hb dX11_tread_89 rfl (lv_at hl 1 rfl) ?_
        refine lv_aload hx hb dX11_tread_90 (lv_at hl 0 rfl) ?_
        refine m_geti E hM fs_X11_238 hq3.1.1 dX11_tread_92 ?_
        refine lv_bipush (v := (-2)) hx hb dX11_tread_95 (by decide) ?_
        refine m_ci (m_runS E hM hS cs_X11_164 (c_X11_pick ((isO_at hq3.1 0 rfl).2) hw) rfl rfl ⟨Nat.le_of_ble_eq_true rfl, Nat.le_of_ble_eq_true rfl⟩ rfl hl.1 rfl (Nat.le_of_ble_eq_true rfl) dX11_tread_97 ⟨Nat.le_of_ble_eq_true rfl, Nat.le_of_ble_eq_true rfl⟩) hS (fun r4 u H locs hp hM hS => ?_)
        obtain ⟨rfl, hw⟩ := hp
        refine W.widen (k := 17) (n := 6542) (Nat.le_of_ble_eq_true rfl) (Nat.le_of_ble_eq_true rfl) ?_
        exact m_retix hx hb hr hlk hx0 hM hS ⟨_, _, rfl, hw⟩ dX11_tread_100
      by_cases cq1 : a3 = 1
      · have hw := hw.2.1 cq1
        refine lv_tableIn (tgt := 101) hx hb dX11_tread_36 (by rw [cq1]; decide) (by rw [cq1]; decide) (by rw [cq1]; rfl) (by decide) ?_
        refine lv_aload hx hb dX11_tread_101 (lv_at hl 0 rfl) ?_
        refine m_getr E hM fs_X11_244 hq3.1.1 (isO_at hq3.1 1 rfl).1 dX11_tread_103 ?_
        refine lv_iload_n hx hb dX11_tread_106 rfl (lv_at hl 1 rfl) ?_
        refine lv_aload hx hb dX11_tread_107 (lv_at hl 0 rfl) ?_
        refine m_geti E hM fs_X11_238 hq3.1.1 dX11_tread_109 ?_
        refine lv_bipush (v := (-2)) hx hb dX11_tread_112 (by decide) ?_
        refine m_ci (m_runS E hM hS cs_X11_164 (c_X11_pick ((isO_at hq3.1 1 rfl).2) hw) rfl rfl ⟨Nat.le_of_ble_eq_true rfl, Nat.le_of_ble_eq_true rfl⟩ rfl hl.1 rfl (Nat.le_of_ble_eq_true rfl) dX11_tread_114 ⟨Nat.le_of_ble_eq_true rfl, Nat.le_of_ble_eq_true rfl⟩) hS (fun r5 u H locs hp hM hS => ?_)
        obtain ⟨rfl, hw⟩ := hp
        refine W.widen (k := 17) (n := 6542) (Nat.le_of_ble_eq_true rfl) (Nat.le_of_ble_eq_true rfl) ?_
        exact m_retix hx hb hr hlk hx0 hM hS ⟨_, _, rfl, hw⟩ dX11_tread_117
      by_cases cq2 : a3 = 2
      · have hw := hw.2.2.1 cq2
        refine lv_tableIn (tgt := 118) hx hb dX11_tread_36 (by rw [cq2]; decide) (by rw [cq2]; decide) (by rw [cq2]; rfl) (by decide) ?_
        refine lv_aload hx hb dX11_tread_118 (lv_at hl 0 rfl) ?_
        refine m_getr E hM fs_X11_247 hq3.1.1 (isO_at hq3.1 2 rfl).1 dX11_tread_120 ?_
        refine lv_iload_n hx hb dX11_tread_123 rfl (lv_at hl 1 rfl) ?_
        refine lv_aload hx hb dX11_tread_124 (lv_at hl 0 rfl) ?_
        refine m_geti E hM fs_X11_238 hq3.1.1 dX11_tread_126 ?_
        refine lv_bipush (v := (-2)) hx hb dX11_tread_129 (by decide) ?_
        refine m_ci (m_runS E hM hS cs_X11_164 (c_X11_pick ((isO_at hq3.1 2 rfl).2) hw) rfl rfl ⟨Nat.le_of_ble_eq_true rfl, Nat.le_of_ble_eq_true rfl⟩ rfl hl.1 rfl (Nat.le_of_ble_eq_true rfl) dX11_tread_131 ⟨Nat.le_of_ble_eq_true rfl, Nat.le_of_ble_eq_true rfl⟩) hS (fun r6 u H locs hp hM hS => ?_)
        obtain ⟨rfl, hw⟩ := hp
        refine W.widen (k := 17) (n := 6542) (Nat.le_of_ble_eq_true rfl) (Nat.le_of_ble_eq_true rfl) ?_
        exact m_retix hx hb hr hlk hx0 hM hS ⟨_, _, rfl, hw⟩ dX11_tread_134
      by_cases cq3 : a3 = 3
      · have hw := hw.2.2.2.1 cq3
        refine lv_tableIn (tgt := 135) hx hb dX11_tread_36 (by rw [cq3]; decide) (by rw [cq3]; decide) (by rw [cq3]; rfl) (by decide) ?_
        refine lv_aload hx hb dX11_tread_135 (lv_at hl 0 rfl) ?_
        refine m_getr E hM fs_X11_250 hq3.1.1 (isO_at hq3.1 3 rfl).1 dX11_tread_137 ?_
        refine lv_iload_n hx hb dX11_tread_140 rfl (lv_at hl 1 rfl) ?_
        refine lv_aload hx hb dX11_tread_141 (lv_at hl 0 rfl) ?_
        refine m_geti E hM fs_X11_238 hq3.1.1 dX11_tread_143 ?_
        refine lv_bipush (v := (-2)) hx hb dX11_tread_146 (by decide) ?_
        refine m_ci (m_runS E hM hS cs_X11_164 (c_X11_pick ((isO_at hq3.1 3 rfl).2) hw) rfl rfl ⟨Nat.le_of_ble_eq_true rfl, Nat.le_of_ble_eq_true rfl⟩ rfl hl.1 rfl (Nat.le_of_ble_eq_true rfl) dX11_tread_148 ⟨Nat.le_of_ble_eq_true rfl, Nat.le_of_ble_eq_true rfl⟩) hS (fun r7 u H locs hp hM hS => ?_)
        obtain ⟨rfl, hw⟩ := hp
        refine W.widen (k := 17) (n := 6542) (Nat.le_of_ble_eq_true rfl) (Nat.le_of_ble_eq_true rfl) ?_
        exact m_retix hx hb hr hlk hx0 hM hS ⟨_, _, rfl, hw⟩ dX11_tread_151
      by_cases cq4 : a3 = 4
      · have hw := hw.2.2.2.2.1 cq4
        refine lv_tableIn (tgt := 152) hx hb dX11_tread_36 (by rw [cq4]; decide) (by rw [cq4]; decide) (by rw [cq4]; rfl) (by decide) ?_
        refine lv_aload hx hb dX11_tread_152 (lv_at hl 0 rfl) ?_
        refine m_getr E hM fs_X11_251 hq3.1.1 (isO_at hq3.1 4 rfl).1 dX11_tread_154 ?_
        refine lv_iload_n hx hb dX11_tread_157 rfl (lv_at hl 1 rfl) ?_
        refine lv_aload hx hb dX11_tread_158 (lv_at hl 0 rfl) ?_
        refine m_geti E hM fs_X11_238 hq3.1.1 dX11_tread_160 ?_
        refine lv_bipush (v := (-2)) hx hb dX11_tread_163 (by decide) ?_
        refine m_ci (m_runS E hM hS cs_X11_164 (c_X11_pick ((isO_at hq3.1 4 rfl).2) hw) rfl rfl ⟨Nat.le_of_ble_eq_true rfl, Nat.le_of_ble_eq_true rfl⟩ rfl hl.1 rfl (Nat.le_of_ble_eq_true rfl) dX11_tread_165 ⟨Nat.le_of_ble_eq_true rfl, Nat.le_of_ble_eq_true rfl⟩) hS (fun r8 u H locs hp hM hS => ?_)
        obtain ⟨rfl, hw⟩ := hp
        refine W.widen (k := 17) (n := 6542) (Nat.le_of_ble_eq_true rfl) (Nat.le_of_ble_eq_true rfl) ?_
        exact m_retix hx hb hr hlk hx0 hM hS ⟨_, _, rfl, hw⟩ dX11_tread_168
      by_cases cq5 : a3 = 5
      · have hw := hw.2.2.2.2.2.1 cq5
        refine lv_tableIn (tgt := 169) hx hb dX11_tread_36 (by rw [cq5]; decide) (by rw [cq5]; decide) (by rw [cq5]; rfl) (by decide) ?_
        refine lv_aload hx hb dX11_tread_169 (lv_at hl 0 rfl) ?_
        refine m_getr E hM fs_X11_254 hq3.1.1 (isO_at hq3.1 5 rfl).1 dX11_tread_171 ?_
        refine lv_iload_n hx hb dX11_tread_174 rfl (lv_at hl 1 rfl) ?_
        refine lv_aload hx hb dX11_tread_175 (lv_at hl 0 rfl) ?_
        refine m_geti E hM fs_X11_238 hq3.1.1 dX11_tread_177 ?_
        refine lv_bipush (v := (-2)) hx hb dX11_tread_180 (by decide) ?_
        refine m_ci (m_runS E hM hS cs_X11_164 (c_X11_pick ((isO_at hq3.1 5 rfl).2) hw) rfl rfl ⟨Nat.le_of_ble_eq_true rfl, Nat.le_of_ble_eq_true rfl⟩ rfl hl.1 rfl (Nat.le_of_ble_eq_true rfl) dX11_tread_182 ⟨Nat.le_of_ble_eq_true rfl, Nat.le_of_ble_eq_true rfl⟩) hS (fun r9 u H locs hp hM hS => ?_)
        obtain ⟨rfl, hw⟩ := hp
        refine W.widen (k := 17) (n := 6542) (Nat.le_of_ble_eq_true rfl) (Nat.le_of_ble_eq_true rfl) ?_
        exact m_retix hx hb hr hlk hx0 hM hS ⟨_, _, rfl, hw⟩ dX11_tread_185
      by_cases cq6 : a3 = 6
      · have hw := hw.2.2.2.2.2.2.1 cq6
        refine lv_tableIn (tgt := 186) hx hb dX11_tread_36 (by rw [cq6]; decide) (by rw [cq6]; decide) (by rw [cq6]; rfl) (by decide) ?_
        refine lv_aload hx hb dX11_tread_186 (lv_at hl 0 rfl) ?_
        refine m_getr E hM fs_X11_257 hq3.1.1 (isO_at hq3.1 6 rfl).1 dX11_tread_188 ?_
        refine lv_iload_n hx hb dX11_tread_191 rfl (lv_at hl 1 rfl) ?_
        refine lv_aload hx hb dX11_tread_192 (lv_at hl 0 rfl) ?_
        refine m_geti E hM fs_X11_238 hq3.1.1 dX11_tread_194 ?_
        refine lv_bipush (v := (-2)) hx hb dX11_tread_197 (by decide) ?_
        refine m_ci (m_runS E hM hS cs_X11_164 (c_X11_pick ((isO_at hq3.1 6 rfl).2) hw) rfl rfl ⟨Nat.le_of_ble_eq_true rfl, Nat.le_of_ble_eq_true rfl⟩ rfl hl.1 rfl (Nat.le_of_ble_eq_true rfl) dX11_tread_199 ⟨Nat.le_of_ble_eq_true rfl, Nat.le_of_ble_eq_true rfl⟩) hS (fun r10 u H locs hp hM hS => ?_)
        obtain ⟨rfl, hw⟩ := hp
        refine W.widen (k := 17) (n := 6542) (Nat.le_of_ble_eq_true rfl) (Nat.le_of_ble_eq_true rfl) ?_
        exact m_retix hx hb hr hlk hx0 hM hS ⟨_, _, rfl, hw⟩ dX11_tread_202
      by_cases cq7 : a3 = 7
      · have hw := hw.2.2.2.2.2.2.2.1 cq7
        refine lv_tableIn (tgt := 203) hx hb dX11_tread_36 (by rw [cq7]; decide) (by rw [cq7]; decide) (by rw [cq7]; rfl) (by decide) ?_
        refine lv_aload hx hb dX11_tread_203 (lv_at hl 0 rfl) ?_
        refine m_getr E hM fs_X11_260 hq3.1.1 (isO_at hq3.1 7 rfl).1 dX11_tread_205 ?_
        refine lv_iload_n hx hb dX11_tread_208 rfl (lv_at hl 1 rfl) ?_
        refine lv_aload hx hb dX11_tread_209 (lv_at hl 0 rfl) ?_
        refine m_geti E hM fs_X11_238 hq3.1.1 dX11_tread_211 ?_
        refine lv_bipush (v := (-2)) hx hb dX11_tread_214 (by decide) ?_
        refine m_ci (m_runS E hM hS cs_X11_164 (c_X11_pick ((isO_at hq3.1 7 rfl).2) hw) rfl rfl ⟨Nat.le_of_ble_eq_true rfl, Nat.le_of_ble_eq_true rfl⟩ rfl hl.1 rfl (Nat.le_of_ble_eq_true rfl) dX11_tread_216 ⟨Nat.le_of_ble_eq_true rfl, Nat.le_of_ble_eq_true rfl⟩) hS (fun r11 u H locs hp hM hS => ?_)
        obtain ⟨rfl, hw⟩ := hp
        refine W.widen (k := 17) (n := 6542) (Nat.le_of_ble_eq_true rfl) (Nat.le_of_ble_eq_true rfl) ?_
        exact m_retix hx hb hr hlk hx0 hM hS ⟨_, _, rfl, hw⟩ dX11_tread_219
      have hw := hw.2.2.2.2.2.2.2.2 cq0 cq1 cq2 cq3 cq4 cq5 cq6 cq7
      refine lv_tableOut (tgt := 220) hx hb dX11_tread_36 (by have hn0 := lv_neT cq0 (a := 0) (by decide); have hn1 := lv_neT cq1 (a := 1) (by decide); have hn2 := lv_neT cq2 (a := 2) (by decide); have hn3 := lv_neT cq3 (a := 3) (by decide); have hn4 := lv_neT cq4 (a := 4) (by decide); have hn5 := lv_neT cq5 (a := 5) (by decide); have hn6 := lv_neT cq6 (a := 6) (by decide); have hn7 := lv_neT cq7 (a := 7) (by decide); omega) (by decide) ?_
      refine lv_bipush (v := (-2)) hx hb dX11_tread_220 (by decide) ?_
      refine W.widen (k := 17) (n := 6542) (Nat.le_of_ble_eq_true rfl) (Nat.le_of_ble_eq_true rfl) ?_
      exact m_retix hx hb hr hlk hx0 hM hS ⟨_, _, rfl, hw⟩ dX11_tread_222
    · have hw := hw.2 cq
      refine lv_iload_n hx hb dX11_tread_20 rfl (lv_at hl 2 rfl) ?_
      refine lv_if_ne (tgt := 32) hx hb dX11_tread_21 (by decide) (fun cq => ?_) (fun cq => ?_)
      · have hw := hw.1 cq
        refine lv_bipush (v := (-2)) hx hb dX11_tread_32 (by decide) ?_
        refine W.widen (k := 17) (n := 6542) (Nat.le_of_ble_eq_true rfl) (Nat.le_of_ble_eq_true rfl) ?_
        exact m_retix hx hb hr hlk hx0 hM hS ⟨_, _, rfl, hw⟩ dX11_tread_34
      · have hw := hw.2 cq
        refine lv_aload hx hb dX11_tread_24 (lv_at hl 0 rfl) ?_
        refine m_geti E hM fs_X11_238 hq3.1.1 dX11_tread_26 ?_
        refine lv_goto (tgt := 34) hx hb dX11_tread_29 (by decide) ?_
        refine W.widen (k := 17) (n := 6542) (Nat.le_of_ble_eq_true rfl) (Nat.le_of_ble_eq_true rfl) ?_
        exact m_retix hx hb hr hlk hx0 hM hS ⟨_, _, rfl, hw⟩ dX11_tread_34
theorem dX11_where_0 : decode cX11_where 0 = .ok (.aload_n 0, 1) := by decide +kernel
theorem dX11_where_1 : decode cX11_where 1 = .ok (.iload_n 1, 1) := by decide +kernel
theorem dX11_where_2 : decode cX11_where 2 = .ok (.invokevirtual 199, 3) := by decide +kernel
theorem dX11_where_5 : decode cX11_where 5 = .ok (.astore 4, 2) := by decide +kernel
theorem dX11_where_7 : decode cX11_where 7 = .ok (.aload 4, 2) := by decide +kernel
theorem dX11_where_9 : decode cX11_where 9 = .ok (.ifnull 25, 3) := by decide +kernel
theorem dX11_where_12 : decode cX11_where 12 = .ok (.aload 4, 2) := by decide +kernel
theorem dX11_where_14 : decode cX11_where 14 = .ok (.getfield 203, 3) := by decide +kernel
theorem dX11_where_17 : decode cX11_where 17 = .ok (.iload_n 2, 1) := by decide +kernel
theorem dX11_where_18 : decode cX11_where 18 = .ok (.invokevirtual 204, 3) := by decide +kernel
theorem dX11_where_21 : decode cX11_where 21 = .ok (.ifCond .eq 13, 3) := by decide +kernel
theorem dX11_where_24 : decode cX11_where 24 = .ok (.iload_n 3, 1) := by decide +kernel
theorem dX11_where_25 : decode cX11_where 25 = .ok (.ifCond .lt 9, 3) := by decide +kernel
theorem dX11_where_28 : decode cX11_where 28 = .ok (.iload_n 3, 1) := by decide +kernel
theorem dX11_where_29 : decode cX11_where 29 = .ok (.bipush 100, 2) := by decide +kernel
theorem dX11_where_31 : decode cX11_where 31 = .ok (.if_icmp .lt 6, 3) := by decide +kernel
theorem dX11_where_34 : decode cX11_where 34 = .ok (.bipush (-2), 2) := by decide +kernel
theorem dX11_where_36 : decode cX11_where 36 = .ok (.ireturn, 1) := by decide +kernel
theorem dX11_where_37 : decode cX11_where 37 = .ok (.aload 4, 2) := by decide +kernel
theorem dX11_where_39 : decode cX11_where 39 = .ok (.iload_n 2, 1) := by decide +kernel
theorem dX11_where_40 : decode cX11_where 40 = .ok (.iload_n 3, 1) := by decide +kernel
theorem dX11_where_41 : decode cX11_where 41 = .ok (.invokevirtual 235, 3) := by decide +kernel
theorem dX11_where_44 : decode cX11_where 44 = .ok (.ireturn, 1) := by decide +kernel
def w_X11_where (I : mI) (a1 : Int32) (a2 : Int32) (a3 : Int32) (post : Int32 → mI → Prop) : Prop := w_X11_eveningAt I a1 (fun r1 I2 => (r1 = none → post (-2) I2) ∧ (∀ q3 : Nat, r1 = some q3 → w_X3_hasPerson I2 (hE q3) a2 (fun b4 => (b4 = false → post (-2) I2) ∧ (b4 = true → (a3 < 0 → post (-2) I2) ∧ (¬ a3 < 0 → (a3 < 100 → w_X2_spotAt I2 q3 (hE q3) a2 a3 (fun r5 => post r5 I2)) ∧ (¬ a3 < 100 → post (-2) I2))))))
set_option maxRecDepth 100000 in
set_option maxHeartbeats 4000000 in
theorem c_X11_where {l : Launch} {D : va_G} {cA : Nat → ClassId} {Z : mZ} {bs : Ad} {n : Nat} {K : mK} {R : mR} {I : mI} {L : mL} {a1 : Int32} {a2 : Int32} {a3 : Int32} {post : Int32 → mI → Prop} (ho : isX11 K R ) (hw : w_X11_where I a1 a2 a3 post) : Met l yX11_where (.code yX11_where cX11_where 5 (some .int) :: gw) ({ frames := 5, cells := 17, slots := 6542, locals := 132 } : Room) (PreM D cA Z bs (n, K, R, I, L) [.ref (ad bs 0), .int a1, .int a2, .int a3]) (QIX D cA bs K R (fun r u => ∃ K' I', u = (n, K', R, I', L) ∧ post r I')) 17 6542 (Ab bs) := by
  refine m_met (by decide) (Nat.le_of_ble_eq_true rfl) (fun p e s m below meth c ls E hr hlk hM hS hl => ?_)
  have E : Ev p s m _ c cX11_where 5 RX11 D cA Z bs := E
  have hl : lv_has ls 5 [(0, .ref (ad bs 0)), (1, .int a1), (2, .int a2), (3, .int a3)] := hl
  have hx := E.1.1
  have hb := E.1.2.1
  generalize hHe : s.heap = H at hM ⊢
  have hS : va_S (Ab bs) s.heap H [] := by rw [← hHe]; exact va_S.rf
  clear hHe
  have hx0 := EX_rf bs K R
  refine lv_aload_n hx hb dX11_where_0 rfl (lv_at hl 0 rfl) ?_
  refine lv_iload_n hx hb dX11_where_1 rfl (lv_at hl 1 rfl) ?_
  refine m_cox (m_runV E hM hS cs_X11_199 ho.1 (by decide) rfl rfl (c_X11_eveningAt ho hw) rfl rfl ⟨Nat.le_of_ble_eq_true rfl, Nat.le_of_ble_eq_true rfl⟩ rfl hl.1 rfl (Nat.le_of_ble_eq_true rfl) dX11_where_2 ⟨Nat.le_of_ble_eq_true rfl, Nat.le_of_ble_eq_true rfl⟩) hS (fun r1 bs u H locs hx1 hp hM hS => ?_)
  obtain ⟨K, I2, rfl, hw, hqr1⟩ := hp
  have hx1 : EX _ _ R bs K := hx1
  have e0 := hx1.2.1 0 (by unfold lve; rw [ho.1]; decide)
  have E := EX_E hx1 E
  have hl : lv_has ls 5 [(2, .int a2), (3, .int a3)] := by exact lv_sub hl [2, 3] rfl
  have ho := hx1.2.2.2 ho
  have hx0 := EX_tr hx0 hx1
  clear e0 hx1
  rcases r1 with _ | q3
  · have hw := hw.1 rfl
    refine lv_astoreN (lv' := [(4, .null), (2, .int a2), (3, .int a3)]) hx hb dX11_where_5 hl (by decide) rfl (fun ls hl => ?_)
    refine lv_aloadN hx hb dX11_where_7 (lv_at hl 0 rfl) ?_
    refine lv_ifnullN (tgt := 34) hx hb dX11_where_9 (by decide) ?_
    refine lv_bipush (v := (-2)) hx hb dX11_where_34 (by decide) ?_
    refine W.widen (k := 17) (n := 6542) (Nat.le_of_ble_eq_true rfl) (Nat.le_of_ble_eq_true rfl) ?_
    exact m_retix hx hb hr hlk hx0 hM hS ⟨_, _, rfl, hw⟩ dX11_where_36
  · have hq3 := hqr1 _ rfl
    have hw := hw.2 q3 rfl
    refine lv_astore (lv' := [(4, .ref (ad bs q3)), (2, .int a2), (3, .int a3)]) hx hb dX11_where_5 hl (by decide) rfl (fun ls hl => ?_)
    refine lv_aload hx hb dX11_where_7 (lv_at hl 0 rfl) ?_
    refine lv_ifnull hx hb dX11_where_9 ?_
    refine lv_aload hx hb dX11_where_12 (lv_at hl 0 rfl) ?_
    refine m_getr E hM fs_X11_203 hq3.1.1 hq3.2.1 dX11_where_14 ?_
    refine lv_iload_n hx hb dX11_where_17 rfl (lv_at hl 1 rfl) ?_
    refine m_ci (m_runV E hM hS cs_X11_204 hq3.2.2.1 (by decide) rfl rfl (c_X3_hasPerson hq3.2.2 hw) rfl rfl ⟨Nat.le_of_ble_eq_true rfl, Nat.le_of_ble_eq_true rfl⟩ rfl hl.1 rfl (Nat.le_of_ble_eq_true rfl) dX11_where_18 ⟨Nat.le_of_ble_eq_true rfl, Nat.le_of_ble_eq_true rfl⟩) hS (fun r9 u H locs hp hM hS => ?_)
    obtain ⟨b4, rfl, rfl, hw⟩ := hp
    refine lv_if_eq (tgt := 34) hx hb dX11_where_21 (by decide) (fun cq => ?_) (fun cq => ?_)
    · have hw := hw.1 (bI_f cq)
      refine lv_bipush (v := (-2)) hx hb dX11_where_34 (by decide) ?_
      refine W.widen (k := 17) (n := 6542) (Nat.le_of_ble_eq_true rfl) (Nat.le_of_ble_eq_true rfl) ?_
      exact m_retix hx hb hr hlk hx0 hM hS ⟨_, _, rfl, hw⟩ dX11_where_36
    · have hw := hw.2 (bI_t cq)
      refine lv_iload_n hx hb dX11_where_24 rfl (lv_at hl 2 rfl) ?_
      refine lv_if_lt (tgt := 34) hx hb dX11_where_25 (by decide) (fun cq => ?_) (fun cq => ?_)
      · have hw := hw.1 cq
        refine lv_bipush (v := (-2)) hx hb dX11_where_34 (by decide) ?_
        refine W.widen (k := 17) (n := 6542) (Nat.le_of_ble_eq_true rfl) (Nat.le_of_ble_eq_true rfl) ?_
        exact m_retix hx hb hr hlk hx0 hM hS ⟨_, _, rfl, hw⟩ dX11_where_36
      · have hw := hw.2 cq
        refine lv_iload_n hx hb dX11_where_28 rfl (lv_at hl 2 rfl) ?_
        refine lv_bipush (v := 100) hx hb dX11_where_29 (by decide) ?_
        refine lv_icmp_lt (tgt := 37) hx hb dX11_where_31 (by decide) (fun cq => ?_) (fun cq => ?_)
        · have hw := hw.1 cq
          refine lv_aload hx hb dX11_where_37 (lv_at hl 0 rfl) ?_
          refine lv_iload_n hx hb dX11_where_39 rfl (lv_at hl 1 rfl) ?_
          refine lv_iload_n hx hb dX11_where_40 rfl (lv_at hl 2 rfl) ?_
          refine m_ci (m_runV E hM hS cs_X11_235 hq3.1.1 (by decide) rfl rfl (c_X2_spotAt hq3 hw) rfl rfl ⟨Nat.le_of_ble_eq_true rfl, Nat.le_of_ble_eq_true rfl⟩ rfl hl.1 rfl (Nat.le_of_ble_eq_true rfl) dX11_where_41 ⟨Nat.le_of_ble_eq_true rfl, Nat.le_of_ble_eq_true rfl⟩) hS (fun r5 u H locs hp hM hS => ?_)
          obtain ⟨rfl, hw⟩ := hp
          refine W.widen (k := 17) (n := 6542) (Nat.le_of_ble_eq_true rfl) (Nat.le_of_ble_eq_true rfl) ?_
          exact m_retix hx hb hr hlk hx0 hM hS ⟨_, _, rfl, hw⟩ dX11_where_44
        · have hw := hw.2 cq
          refine lv_bipush (v := (-2)) hx hb dX11_where_34 (by decide) ?_
          refine W.widen (k := 17) (n := 6542) (Nat.le_of_ble_eq_true rfl) (Nat.le_of_ble_eq_true rfl) ?_
          exact m_retix hx hb hr hlk hx0 hM hS ⟨_, _, rfl, hw⟩ dX11_where_36
theorem dX11_note_0 : decode cX11_note 0 = .ok (.aload_n 0, 1) := by decide +kernel
theorem dX11_note_1 : decode cX11_note 1 = .ok (.iload_n 1, 1) := by decide +kernel
theorem dX11_note_2 : decode cX11_note 2 = .ok (.invokevirtual 199, 3) := by decide +kernel
theorem dX11_note_5 : decode cX11_note 5 = .ok (.astore 5, 2) := by decide +kernel
theorem dX11_note_7 : decode cX11_note 7 = .ok (.aload 5, 2) := by decide +kernel
theorem dX11_note_9 : decode cX11_note 9 = .ok (.ifnull 15, 3) := by decide +kernel
theorem dX11_note_12 : decode cX11_note 12 = .ok (.aload 5, 2) := by decide +kernel
theorem dX11_note_14 : decode cX11_note 14 = .ok (.getfield 203, 3) := by decide +kernel
theorem dX11_note_17 : decode cX11_note 17 = .ok (.iload_n 2, 1) := by decide +kernel
theorem dX11_note_18 : decode cX11_note 18 = .ok (.invokevirtual 263, 3) := by decide +kernel
theorem dX11_note_21 : decode cX11_note 21 = .ok (.ifCond .ne 6, 3) := by decide +kernel
theorem dX11_note_24 : decode cX11_note 24 = .ok (.bipush (-2), 2) := by decide +kernel
theorem dX11_note_26 : decode cX11_note 26 = .ok (.ireturn, 1) := by decide +kernel
theorem dX11_note_27 : decode cX11_note 27 = .ok (.iload_n 3, 1) := by decide +kernel
theorem dX11_note_28 : decode cX11_note 28 = .ok (.iconst (-1), 1) := by decide +kernel
theorem dX11_note_29 : decode cX11_note 29 = .ok (.if_icmp .ne 33, 3) := by decide +kernel
theorem dX11_note_32 : decode cX11_note 32 = .ok (.iload 4, 2) := by decide +kernel
theorem dX11_note_34 : decode cX11_note 34 = .ok (.ifCond .ne 10, 3) := by decide +kernel
theorem dX11_note_37 : decode cX11_note 37 = .ok (.aload 5, 2) := by decide +kernel
theorem dX11_note_39 : decode cX11_note 39 = .ok (.iload_n 2, 1) := by decide +kernel
theorem dX11_note_40 : decode cX11_note 40 = .ok (.invokevirtual 266, 3) := by decide +kernel
theorem dX11_note_43 : decode cX11_note 43 = .ok (.ireturn, 1) := by decide +kernel
theorem dX11_note_44 : decode cX11_note 44 = .ok (.iload 4, 2) := by decide +kernel
theorem dX11_note_46 : decode cX11_note 46 = .ok (.iconst 1, 1) := by decide +kernel
theorem dX11_note_47 : decode cX11_note 47 = .ok (.if_icmp .ne 12, 3) := by decide +kernel
theorem dX11_note_50 : decode cX11_note 50 = .ok (.aload 5, 2) := by decide +kernel
theorem dX11_note_52 : decode cX11_note 52 = .ok (.iload_n 2, 1) := by decide +kernel
theorem dX11_note_53 : decode cX11_note 53 = .ok (.invokevirtual 269, 3) := by decide +kernel
theorem dX11_note_56 : decode cX11_note 56 = .ok (.goto 5, 3) := by decide +kernel
theorem dX11_note_59 : decode cX11_note 59 = .ok (.bipush (-2), 2) := by decide +kernel
theorem dX11_note_61 : decode cX11_note 61 = .ok (.ireturn, 1) := by decide +kernel
theorem dX11_note_62 : decode cX11_note 62 = .ok (.aload 5, 2) := by decide +kernel
theorem dX11_note_64 : decode cX11_note 64 = .ok (.iload_n 2, 1) := by decide +kernel
theorem dX11_note_65 : decode cX11_note 65 = .ok (.iload_n 3, 1) := by decide +kernel
theorem dX11_note_66 : decode cX11_note 66 = .ok (.invokevirtual 272, 3) := by decide +kernel
theorem dX11_note_69 : decode cX11_note 69 = .ok (.istore 6, 2) := by decide +kernel
theorem dX11_note_71 : decode cX11_note 71 = .ok (.iload 6, 2) := by decide +kernel
theorem dX11_note_73 : decode cX11_note 73 = .ok (.iconst (-1), 1) := by decide +kernel
theorem dX11_note_74 : decode cX11_note 74 = .ok (.if_icmp .ne 6, 3) := by decide +kernel
theorem dX11_note_77 : decode cX11_note 77 = .ok (.bipush (-2), 2) := by decide +kernel
theorem dX11_note_79 : decode cX11_note 79 = .ok (.ireturn, 1) := by decide +kernel
theorem dX11_note_80 : decode cX11_note 80 = .ok (.iload 4, 2) := by decide +kernel
theorem dX11_note_82 : decode cX11_note 82 = .ok (.tableswitch 87 0 3 #[30, 33, 61, 70], 30) := by decide +kernel
theorem dX11_note_112 : decode cX11_note 112 = .ok (.iload 6, 2) := by decide +kernel
theorem dX11_note_114 : decode cX11_note 114 = .ok (.ireturn, 1) := by decide +kernel
theorem dX11_note_115 : decode cX11_note 115 = .ok (.aload 5, 2) := by decide +kernel
theorem dX11_note_117 : decode cX11_note 117 = .ok (.getfield 257, 3) := by decide +kernel
theorem dX11_note_120 : decode cX11_note 120 = .ok (.iload 6, 2) := by decide +kernel
theorem dX11_note_122 : decode cX11_note 122 = .ok (.iaload, 1) := by decide +kernel
theorem dX11_note_123 : decode cX11_note 123 = .ok (.iload_n 2, 1) := by decide +kernel
theorem dX11_note_124 : decode cX11_note 124 = .ok (.invokestatic 275, 3) := by decide +kernel
theorem dX11_note_127 : decode cX11_note 127 = .ok (.ifCond .eq 14, 3) := by decide +kernel
theorem dX11_note_130 : decode cX11_note 130 = .ok (.aload 5, 2) := by decide +kernel
theorem dX11_note_132 : decode cX11_note 132 = .ok (.getfield 250, 3) := by decide +kernel
theorem dX11_note_135 : decode cX11_note 135 = .ok (.iload 6, 2) := by decide +kernel
theorem dX11_note_137 : decode cX11_note 137 = .ok (.iaload, 1) := by decide +kernel
theorem dX11_note_138 : decode cX11_note 138 = .ok (.goto 4, 3) := by decide +kernel
theorem dX11_note_141 : decode cX11_note 141 = .ok (.iconst (-1), 1) := by decide +kernel
theorem dX11_note_142 : decode cX11_note 142 = .ok (.ireturn, 1) := by decide +kernel
theorem dX11_note_143 : decode cX11_note 143 = .ok (.aload 5, 2) := by decide +kernel
theorem dX11_note_145 : decode cX11_note 145 = .ok (.iload 6, 2) := by decide +kernel
theorem dX11_note_147 : decode cX11_note 147 = .ok (.iload_n 2, 1) := by decide +kernel
theorem dX11_note_148 : decode cX11_note 148 = .ok (.invokevirtual 279, 3) := by decide +kernel
theorem dX11_note_151 : decode cX11_note 151 = .ok (.ireturn, 1) := by decide +kernel
theorem dX11_note_152 : decode cX11_note 152 = .ok (.aload 5, 2) := by decide +kernel
theorem dX11_note_154 : decode cX11_note 154 = .ok (.iload 6, 2) := by decide +kernel
theorem dX11_note_156 : decode cX11_note 156 = .ok (.iload_n 2, 1) := by decide +kernel
theorem dX11_note_157 : decode cX11_note 157 = .ok (.invokevirtual 282, 3) := by decide +kernel
theorem dX11_note_160 : decode cX11_note 160 = .ok (.ifCond .eq 7, 3) := by decide +kernel
theorem dX11_note_163 : decode cX11_note 163 = .ok (.iconst 1, 1) := by decide +kernel
theorem dX11_note_164 : decode cX11_note 164 = .ok (.goto 4, 3) := by decide +kernel
theorem dX11_note_167 : decode cX11_note 167 = .ok (.iconst 0, 1) := by decide +kernel
theorem dX11_note_168 : decode cX11_note 168 = .ok (.ireturn, 1) := by decide +kernel
theorem dX11_note_169 : decode cX11_note 169 = .ok (.bipush (-2), 2) := by decide +kernel
theorem dX11_note_171 : decode cX11_note 171 = .ok (.ireturn, 1) := by decide +kernel
def w_X11_note (I : mI) (a1 : Int32) (a2 : Int32) (a3 : Int32) (a4 : Int32) (post : Int32 → mI → Prop) : Prop := w_X11_eveningAt I a1 (fun r1 I2 => (r1 = none → post (-2) I2) ∧ (∀ q3 : Nat, r1 = some q3 → w_X3_hasFlat I2 (hE q3) a2 (fun b4 => (b4 = true → (¬ a3 = (-1) → w_X2_noteNumber I2 q3 (hE q3) a2 a3 (fun r5 => (¬ r5 = (-1) → (a4 = 0 → post r5 I2) ∧ (a4 = 1 → vp_in r5 600 ∧ w_X11_has (I2 (q3 + 7) r5.toNatClampNeg) a2 (fun b6 => (b6 = false → post (-1) I2) ∧ (b6 = true → vp_in r5 600 ∧ post (I2 (q3 + 4) r5.toNatClampNeg) I2))) ∧ (a4 = 2 → w_X2_echoShoe I2 q3 (hE q3) r5 a2 (fun r7 => post r7 I2)) ∧ (a4 = 3 → w_X2_isGhost I2 q3 (hE q3) r5 a2 (fun b8 => (b8 = false → post 0 I2) ∧ (b8 = true → post 1 I2))) ∧ (¬ a4 = 0 → ¬ a4 = 1 → ¬ a4 = 2 → ¬ a4 = 3 → post (-2) I2)) ∧ (r5 = (-1) → post (-2) I2))) ∧ (a3 = (-1) → (¬ a4 = 0 → (¬ a4 = 1 → post (-2) I2) ∧ (a4 = 1 → w_X2_ghostCount I2 q3 (hE q3) a2 (fun r9 => post r9 I2))) ∧ (a4 = 0 → w_X2_noteCount I2 q3 (hE q3) a2 (fun r10 => post r10 I2)))) ∧ (b4 = false → post (-2) I2))))
set_option maxRecDepth 100000 in
set_option maxHeartbeats 4000000 in
theorem c_X11_note {l : Launch} {D : va_G} {cA : Nat → ClassId} {Z : mZ} {bs : Ad} {n : Nat} {K : mK} {R : mR} {I : mI} {L : mL} {a1 : Int32} {a2 : Int32} {a3 : Int32} {a4 : Int32} {post : Int32 → mI → Prop} (ho : isX11 K R ) (hw : w_X11_note I a1 a2 a3 a4 post) : Met l yX11_note (.code yX11_note cX11_note 7 (some .int) :: gw) ({ frames := 5, cells := 17, slots := 6542, locals := 132 } : Room) (PreM D cA Z bs (n, K, R, I, L) [.ref (ad bs 0), .int a1, .int a2, .int a3, .int a4]) (QIX D cA bs K R (fun r u => ∃ K' I', u = (n, K', R, I', L) ∧ post r I')) 17 6542 (Ab bs) := by
  refine m_met (by decide) (Nat.le_of_ble_eq_true rfl) (fun p e s m below meth c ls E hr hlk hM hS hl => ?_)
  have E : Ev p s m _ c cX11_note 7 RX11 D cA Z bs := E
  have hl : lv_has ls 7 [(0, .ref (ad bs 0)), (1, .int a1), (2, .int a2), (3, .int a3), (4, .int a4)] := hl
  have hx := E.1.1
  have hb := E.1.2.1
  generalize hHe : s.heap = H at hM ⊢
  have hS : va_S (Ab bs) s.heap H [] := by rw [← hHe]; exact va_S.rf
  clear hHe
  have hx0 := EX_rf bs K R
  refine lv_aload_n hx hb dX11_note_0 rfl (lv_at hl 0 rfl) ?_
  refine lv_iload_n hx hb dX11_note_1 rfl (lv_at hl 1 rfl) ?_
  refine m_cox (m_runV E hM hS cs_X11_199 ho.1 (by decide) rfl rfl (c_X11_eveningAt ho hw) rfl rfl ⟨Nat.le_of_ble_eq_true rfl, Nat.le_of_ble_eq_true rfl⟩ rfl hl.1 rfl (Nat.le_of_ble_eq_true rfl) dX11_note_2 ⟨Nat.le_of_ble_eq_true rfl, Nat.le_of_ble_eq_true rfl⟩) hS (fun r1 bs u H locs hx1 hp hM hS => ?_)
  obtain ⟨K, I2, rfl, hw, hqr1⟩ := hp
  have hx1 : EX _ _ R bs K := hx1
  have e0 := hx1.2.1 0 (by unfold lve; rw [ho.1]; decide)
  have E := EX_E hx1 E
  have hl : lv_has ls 7 [(2, .int a2), (3, .int a3), (4, .int a4)] := by exact lv_sub hl [2, 3, 4] rfl
  have ho := hx1.2.2.2 ho
  have hx0 := EX_tr hx0 hx1
  clear e0 hx1
  rcases r1 with _ | q3
  · have hw := hw.1 rfl
    refine lv_astoreN (lv' := [(5, .null), (2, .int a2), (3, .int a3), (4, .int a4)]) hx hb dX11_note_5 hl (by decide) rfl (fun ls hl => ?_)
    refine lv_aloadN hx hb dX11_note_7 (lv_at hl 0 rfl) ?_
    refine lv_ifnullN (tgt := 24) hx hb dX11_note_9 (by decide) ?_
    refine lv_bipush (v := (-2)) hx hb dX11_note_24 (by decide) ?_
    refine W.widen (k := 17) (n := 6542) (Nat.le_of_ble_eq_true rfl) (Nat.le_of_ble_eq_true rfl) ?_
    exact m_retix hx hb hr hlk hx0 hM hS ⟨_, _, rfl, hw⟩ dX11_note_26
  · have hq3 := hqr1 _ rfl
    have hw := hw.2 q3 rfl
    refine lv_astore (lv' := [(5, .ref (ad bs q3)), (2, .int a2), (3, .int a3), (4, .int a4)]) hx hb dX11_note_5 hl (by decide) rfl (fun ls hl => ?_)
    refine lv_aload hx hb dX11_note_7 (lv_at hl 0 rfl) ?_
    refine lv_ifnull hx hb dX11_note_9 ?_
    refine lv_aload hx hb dX11_note_12 (lv_at hl 0 rfl) ?_
    refine m_getr E hM fs_X11_203 hq3.1.1 hq3.2.1 dX11_note_14 ?_
    refine lv_iload_n hx hb dX11_note_17 rfl (lv_at hl 1 rfl) ?_
    refine m_ci (m_runV E hM hS cs_X11_263 hq3.2.2.1 (by decide) rfl rfl (c_X3_hasFlat hq3.2.2 hw) rfl rfl ⟨Nat.le_of_ble_eq_true rfl, Nat.le_of_ble_eq_true rfl⟩ rfl hl.1 rfl (Nat.le_of_ble_eq_true rfl) dX11_note_18 ⟨Nat.le_of_ble_eq_true rfl, Nat.le_of_ble_eq_true rfl⟩) hS (fun r9 u H locs hp hM hS => ?_)
    obtain ⟨b4, rfl, rfl, hw⟩ := hp
    refine lv_if_ne (tgt := 27) hx hb dX11_note_21 (by decide) (fun cq => ?_) (fun cq => ?_)
    · have hw := hw.1 (bI_t cq)
      refine lv_iload_n hx hb dX11_note_27 rfl (lv_at hl 2 rfl) ?_
      refine lv_iconst (v := (-1)) hx hb dX11_note_28 (by decide) ?_
      refine lv_icmp_ne (tgt := 62) hx hb dX11_note_29 (by decide) (fun cq => ?_) (fun cq => ?_)
      · have hw := hw.1 cq
        refine lv_aload hx hb dX11_note_62 (lv_at hl 0 rfl) ?_
        refine lv_iload_n hx hb dX11_note_64 rfl (lv_at hl 1 rfl) ?_
        refine lv_iload_n hx hb dX11_note_65 rfl (lv_at hl 2 rfl) ?_
        refine m_ci (m_runV E hM hS cs_X11_272 hq3.1.1 (by decide) rfl rfl (c_X2_noteNumber hq3 hw) rfl rfl ⟨Nat.le_of_ble_eq_true rfl, Nat.le_of_ble_eq_true rfl⟩ rfl hl.1 rfl (Nat.le_of_ble_eq_true rfl) dX11_note_66 ⟨Nat.le_of_ble_eq_true rfl, Nat.le_of_ble_eq_true rfl⟩) hS (fun r5 u H locs hp hM hS => ?_)
        obtain ⟨rfl, hw⟩ := hp
        refine lv_istore (lv' := [(6, .int r5), (5, .ref (ad bs q3)), (2, .int a2), (3, .int a3), (4, .int a4)]) hx hb dX11_note_69 hl (by decide) rfl (fun ls hl => ?_)
        refine lv_iload hx hb dX11_note_71 (lv_at hl 0 rfl) ?_
        refine lv_iconst (v := (-1)) hx hb dX11_note_73 (by decide) ?_
        refine lv_icmp_ne (tgt := 80) hx hb dX11_note_74 (by decide) (fun cq => ?_) (fun cq => ?_)
        · have hw := hw.1 cq
          refine lv_iload hx hb dX11_note_80 (lv_at hl 4 rfl) ?_
          by_cases cq0 : a4 = 0
          · have hw := hw.1 cq0
            refine lv_tableIn (tgt := 112) hx hb dX11_note_82 (by rw [cq0]; decide) (by rw [cq0]; decide) (by rw [cq0]; rfl) (by decide) ?_
            refine lv_iload hx hb dX11_note_112 (lv_at hl 0 rfl) ?_
            refine W.widen (k := 17) (n := 6542) (Nat.le_of_ble_eq_true rfl) (Nat.le_of_ble_eq_true rfl) ?_
            exact m_retix hx hb hr hlk hx0 hM hS ⟨_, _, rfl, hw⟩ dX11_note_114
          by_cases cq1 : a4 = 1
          · have hw := hw.2.1 cq1
            refine lv_tableIn (tgt := 115) hx hb dX11_note_82 (by rw [cq1]; decide) (by rw [cq1]; decide) (by rw [cq1]; rfl) (by decide) ?_
            refine lv_aload hx hb dX11_note_115 (lv_at hl 1 rfl) ?_
            refine m_getr E hM fs_X11_257 hq3.1.1 (isO_at hq3.1 6 rfl).1 dX11_note_117 ?_
            refine lv_iload hx hb dX11_note_120 (lv_at hl 0 rfl) ?_
            obtain ⟨hv, hw⟩ := hw
            refine m_iald E hM (isO_at hq3.1 6 rfl).2 hv dX11_note_122 ?_
            refine lv_iload_n hx hb dX11_note_123 rfl (lv_at hl 2 rfl) ?_
            refine m_ci (m_runS E hM hS cs_X11_275 (c_X11_has  hw) rfl rfl ⟨Nat.le_of_ble_eq_true rfl, Nat.le_of_ble_eq_true rfl⟩ rfl hl.1 rfl (Nat.le_of_ble_eq_true rfl) dX11_note_124 ⟨Nat.le_of_ble_eq_true rfl, Nat.le_of_ble_eq_true rfl⟩) hS (fun r9 u H locs hp hM hS => ?_)
            obtain ⟨b6, rfl, rfl, hw⟩ := hp
            refine lv_if_eq (tgt := 141) hx hb dX11_note_127 (by decide) (fun cq => ?_) (fun cq => ?_)
            · have hw := hw.1 (bI_f cq)
              refine lv_iconst (v := (-1)) hx hb dX11_note_141 (by decide) ?_
              refine W.widen (k := 17) (n := 6542) (Nat.le_of_ble_eq_true rfl) (Nat.le_of_ble_eq_true rfl) ?_
              exact m_retix hx hb hr hlk hx0 hM hS ⟨_, _, rfl, hw⟩ dX11_note_142
            · have hw := hw.2 (bI_t cq)
              refine lv_aload hx hb dX11_note_130 (lv_at hl 1 rfl) ?_
              refine m_getr E hM fs_X11_250 hq3.1.1 (isO_at hq3.1 3 rfl).1 dX11_note_132 ?_
              refine lv_iload hx hb dX11_note_135 (lv_at hl 0 rfl) ?_
              obtain ⟨hv, hw⟩ := hw
              refine m_iald E hM (isO_at hq3.1 3 rfl).2 hv dX11_note_137 ?_
              refine lv_goto (tgt := 142) hx hb dX11_note_138 (by decide) ?_
              refine W.widen (k := 17) (n := 6542) (Nat.le_of_ble_eq_true rfl) (Nat.le_of_ble_eq_true rfl) ?_
              exact m_retix hx hb hr hlk hx0 hM hS ⟨_, _, rfl, hw⟩ dX11_note_142
          by_cases cq2 : a4 = 2
          · have hw := hw.2.2.1 cq2
            refine lv_tableIn (tgt := 143) hx hb dX11_note_82 (by rw [cq2]; decide) (by rw [cq2]; decide) (by rw [cq2]; rfl) (by decide) ?_
            refine lv_aload hx hb dX11_note_143 (lv_at hl 1 rfl) ?_
            refine lv_iload hx hb dX11_note_145 (lv_at hl 0 rfl) ?_
            refine lv_iload_n hx hb dX11_note_147 rfl (lv_at hl 2 rfl) ?_
            refine m_ci (m_runV E hM hS cs_X11_279 hq3.1.1 (by decide) rfl rfl (c_X2_echoShoe hq3 hw) rfl rfl ⟨Nat.le_of_ble_eq_true rfl, Nat.le_of_ble_eq_true rfl⟩ rfl hl.1 rfl (Nat.le_of_ble_eq_true rfl) dX11_note_148 ⟨Nat.le_of_ble_eq_true rfl, Nat.le_of_ble_eq_true rfl⟩) hS (fun r7 u H locs hp hM hS => ?_)
            obtain ⟨rfl, hw⟩ := hp
            refine W.widen (k := 17) (n := 6542) (Nat.le_of_ble_eq_true rfl) (Nat.le_of_ble_eq_true rfl) ?_
            exact m_retix hx hb hr hlk hx0 hM hS ⟨_, _, rfl, hw⟩ dX11_note_151
          by_cases cq3 : a4 = 3
          · have hw := hw.2.2.2.1 cq3
            refine lv_tableIn (tgt := 152) hx hb dX11_note_82 (by rw [cq3]; decide) (by rw [cq3]; decide) (by rw [cq3]; rfl) (by decide) ?_
            refine lv_aload hx hb dX11_note_152 (lv_at hl 1 rfl) ?_
            refine lv_iload hx hb dX11_note_154 (lv_at hl 0 rfl) ?_
            refine lv_iload_n hx hb dX11_note_156 rfl (lv_at hl 2 rfl) ?_
            refine m_ci (m_runV E hM hS cs_X11_282 hq3.1.1 (by decide) rfl rfl (c_X2_isGhost hq3 hw) rfl rfl ⟨Nat.le_of_ble_eq_true rfl, Nat.le_of_ble_eq_true rfl⟩ rfl hl.1 rfl (Nat.le_of_ble_eq_true rfl) dX11_note_157 ⟨Nat.le_of_ble_eq_true rfl, Nat.le_of_ble_eq_true rfl⟩) hS (fun r9 u H locs hp hM hS => ?_)
            obtain ⟨b8, rfl, rfl, hw⟩ := hp
            refine lv_if_eq (tgt := 167) hx hb dX11_note_160 (by decide) (fun cq => ?_) (fun cq => ?_)
            · have hw := hw.1 (bI_f cq)
              refine lv_iconst (v := 0) hx hb dX11_note_167 (by decide) ?_
              refine W.widen (k := 17) (n := 6542) (Nat.le_of_ble_eq_true rfl) (Nat.le_of_ble_eq_true rfl) ?_
              exact m_retix hx hb hr hlk hx0 hM hS ⟨_, _, rfl, hw⟩ dX11_note_168
            · have hw := hw.2 (bI_t cq)
              refine lv_iconst (v := 1) hx hb dX11_note_163 (by decide) ?_
              refine lv_goto (tgt := 168) hx hb dX11_note_164 (by decide) ?_
              refine W.widen (k := 17) (n := 6542) (Nat.le_of_ble_eq_true rfl) (Nat.le_of_ble_eq_true rfl) ?_
              exact m_retix hx hb hr hlk hx0 hM hS ⟨_, _, rfl, hw⟩ dX11_note_168
          have hw := hw.2.2.2.2 cq0 cq1 cq2 cq3
          refine lv_tableOut (tgt := 169) hx hb dX11_note_82 (by have hn0 := lv_neT cq0 (a := 0) (by decide); have hn1 := lv_neT cq1 (a := 1) (by decide); have hn2 := lv_neT cq2 (a := 2) (by decide); have hn3 := lv_neT cq3 (a := 3) (by decide); omega) (by decide) ?_
          refine lv_bipush (v := (-2)) hx hb dX11_note_169 (by decide) ?_
          refine W.widen (k := 17) (n := 6542) (Nat.le_of_ble_eq_true rfl) (Nat.le_of_ble_eq_true rfl) ?_
          exact m_retix hx hb hr hlk hx0 hM hS ⟨_, _, rfl, hw⟩ dX11_note_171
        · have hw := hw.2 cq
          refine lv_bipush (v := (-2)) hx hb dX11_note_77 (by decide) ?_
          refine W.widen (k := 17) (n := 6542) (Nat.le_of_ble_eq_true rfl) (Nat.le_of_ble_eq_true rfl) ?_
          exact m_retix hx hb hr hlk hx0 hM hS ⟨_, _, rfl, hw⟩ dX11_note_79
      · have hw := hw.2 cq
        refine lv_iload hx hb dX11_note_32 (lv_at hl 3 rfl) ?_
        refine lv_if_ne (tgt := 44) hx hb dX11_note_34 (by decide) (fun cq => ?_) (fun cq => ?_)
        · have hw := hw.1 cq
          refine lv_iload hx hb dX11_note_44 (lv_at hl 3 rfl) ?_
          refine lv_iconst (v := 1) hx hb dX11_note_46 (by decide) ?_
          refine lv_icmp_ne (tgt := 59) hx hb dX11_note_47 (by decide) (fun cq => ?_) (fun cq => ?_)
          · have hw := hw.1 cq
            refine lv_bipush (v := (-2)) hx hb dX11_note_59 (by decide) ?_
            refine W.widen (k := 17) (n := 6542) (Nat.le_of_ble_eq_true rfl) (Nat.le_of_ble_eq_true rfl) ?_
            exact m_retix hx hb hr hlk hx0 hM hS ⟨_, _, rfl, hw⟩ dX11_note_61
          · have hw := hw.2 cq
            refine lv_aload hx hb dX11_note_50 (lv_at hl 0 rfl) ?_
            refine lv_iload_n hx hb dX11_note_52 rfl (lv_at hl 1 rfl) ?_
            refine m_ci (m_runV E hM hS cs_X11_269 hq3.1.1 (by decide) rfl rfl (c_X2_ghostCount hq3 hw) rfl rfl ⟨Nat.le_of_ble_eq_true rfl, Nat.le_of_ble_eq_true rfl⟩ rfl hl.1 rfl (Nat.le_of_ble_eq_true rfl) dX11_note_53 ⟨Nat.le_of_ble_eq_true rfl, Nat.le_of_ble_eq_true rfl⟩) hS (fun r9 u H locs hp hM hS => ?_)
            obtain ⟨rfl, hw⟩ := hp
            refine lv_goto (tgt := 61) hx hb dX11_note_56 (by decide) ?_
            refine W.widen (k := 17) (n := 6542) (Nat.le_of_ble_eq_true rfl) (Nat.le_of_ble_eq_true rfl) ?_
            exact m_retix hx hb hr hlk hx0 hM hS ⟨_, _, rfl, hw⟩ dX11_note_61
        · have hw := hw.2 cq
          refine lv_aload hx hb dX11_note_37 (lv_at hl 0 rfl) ?_
          refine lv_iload_n hx hb dX11_note_39 rfl (lv_at hl 1 rfl) ?_
          refine m_ci (m_runV E hM hS cs_X11_266 hq3.1.1 (by decide) rfl rfl (c_X2_noteCount hq3 hw) rfl rfl ⟨Nat.le_of_ble_eq_true rfl, Nat.le_of_ble_eq_true rfl⟩ rfl hl.1 rfl (Nat.le_of_ble_eq_true rfl) dX11_note_40 ⟨Nat.le_of_ble_eq_true rfl, Nat.le_of_ble_eq_true rfl⟩) hS (fun r10 u H locs hp hM hS => ?_)
          obtain ⟨rfl, hw⟩ := hp
          refine W.widen (k := 17) (n := 6542) (Nat.le_of_ble_eq_true rfl) (Nat.le_of_ble_eq_true rfl) ?_
          exact m_retix hx hb hr hlk hx0 hM hS ⟨_, _, rfl, hw⟩ dX11_note_43
    · have hw := hw.2 (bI_f cq)
      refine lv_bipush (v := (-2)) hx hb dX11_note_24 (by decide) ?_
      refine W.widen (k := 17) (n := 6542) (Nat.le_of_ble_eq_true rfl) (Nat.le_of_ble_eq_true rfl) ?_
      exact m_retix hx hb hr hlk hx0 hM hS ⟨_, _, rfl, hw⟩ dX11_note_26
theorem dX11_ends_0 : decode cX11_ends 0 = .ok (.aload_n 0, 1) := by decide +kernel
theorem dX11_ends_1 : decode cX11_ends 1 = .ok (.iload_n 1, 1) := by decide +kernel
theorem dX11_ends_2 : decode cX11_ends 2 = .ok (.invokevirtual 199, 3) := by decide +kernel
theorem dX11_ends_5 : decode cX11_ends 5 = .ok (.astore_n 3, 1) := by decide +kernel
theorem dX11_ends_6 : decode cX11_ends 6 = .ok (.aload_n 3, 1) := by decide +kernel
theorem dX11_ends_7 : decode cX11_ends 7 = .ok (.ifnull 12, 3) := by decide +kernel
theorem dX11_ends_10 : decode cX11_ends 10 = .ok (.iload_n 2, 1) := by decide +kernel
theorem dX11_ends_11 : decode cX11_ends 11 = .ok (.ifCond .lt 8, 3) := by decide +kernel
theorem dX11_ends_14 : decode cX11_ends 14 = .ok (.iload_n 2, 1) := by decide +kernel
theorem dX11_ends_15 : decode cX11_ends 15 = .ok (.iconst 2, 1) := by decide +kernel
theorem dX11_ends_16 : decode cX11_ends 16 = .ok (.if_icmp .le 5, 3) := by decide +kernel
theorem dX11_ends_19 : decode cX11_ends 19 = .ok (.iconst (-1), 1) := by decide +kernel
theorem dX11_ends_20 : decode cX11_ends 20 = .ok (.ireturn, 1) := by decide +kernel
theorem dX11_ends_21 : decode cX11_ends 21 = .ok (.iload_n 2, 1) := by decide +kernel
theorem dX11_ends_22 : decode cX11_ends 22 = .ok (.iconst 2, 1) := by decide +kernel
theorem dX11_ends_23 : decode cX11_ends 23 = .ok (.if_icmp .ne 8, 3) := by decide +kernel
theorem dX11_ends_26 : decode cX11_ends 26 = .ok (.aload_n 3, 1) := by decide +kernel
theorem dX11_ends_27 : decode cX11_ends 27 = .ok (.invokevirtual 285, 3) := by decide +kernel
theorem dX11_ends_30 : decode cX11_ends 30 = .ok (.ireturn, 1) := by decide +kernel
theorem dX11_ends_31 : decode cX11_ends 31 = .ok (.iconst 0, 1) := by decide +kernel
theorem dX11_ends_32 : decode cX11_ends 32 = .ok (.istore 4, 2) := by decide +kernel
theorem dX11_ends_34 : decode cX11_ends 34 = .ok (.iconst 0, 1) := by decide +kernel
theorem dX11_ends_35 : decode cX11_ends 35 = .ok (.istore 5, 2) := by decide +kernel
theorem dX11_ends_37 : decode cX11_ends 37 = .ok (.iload 5, 2) := by decide +kernel
theorem dX11_ends_39 : decode cX11_ends 39 = .ok (.aload_n 3, 1) := by decide +kernel
theorem dX11_ends_40 : decode cX11_ends 40 = .ok (.getfield 203, 3) := by decide +kernel
theorem dX11_ends_43 : decode cX11_ends 43 = .ok (.getfield 196, 3) := by decide +kernel
theorem dX11_ends_46 : decode cX11_ends 46 = .ok (.if_icmp .ge 61, 3) := by decide +kernel
theorem dX11_ends_49 : decode cX11_ends 49 = .ok (.aload_n 3, 1) := by decide +kernel
theorem dX11_ends_50 : decode cX11_ends 50 = .ok (.getfield 203, 3) := by decide +kernel
theorem dX11_ends_53 : decode cX11_ends 53 = .ok (.getfield 229, 3) := by decide +kernel
theorem dX11_ends_56 : decode cX11_ends 56 = .ok (.iload 5, 2) := by decide +kernel
theorem dX11_ends_58 : decode cX11_ends 58 = .ok (.iaload, 1) := by decide +kernel
theorem dX11_ends_59 : decode cX11_ends 59 = .ok (.istore 6, 2) := by decide +kernel
theorem dX11_ends_61 : decode cX11_ends 61 = .ok (.aload_n 3, 1) := by decide +kernel
theorem dX11_ends_62 : decode cX11_ends 62 = .ok (.iload 5, 2) := by decide +kernel
theorem dX11_ends_64 : decode cX11_ends 64 = .ok (.bipush 99, 2) := by decide +kernel
theorem dX11_ends_66 : decode cX11_ends 66 = .ok (.invokevirtual 235, 3) := by decide +kernel
theorem dX11_ends_69 : decode cX11_ends 69 = .ok (.istore 7, 2) := by decide +kernel
theorem dX11_ends_71 : decode cX11_ends 71 = .ok (.iload_n 2, 1) := by decide +kernel
theorem dX11_ends_72 : decode cX11_ends 72 = .ok (.ifCond .ne 13, 3) := by decide +kernel
theorem dX11_ends_75 : decode cX11_ends 75 = .ok (.iload 7, 2) := by decide +kernel
theorem dX11_ends_77 : decode cX11_ends 77 = .ok (.iload 6, 2) := by decide +kernel
theorem dX11_ends_79 : decode cX11_ends 79 = .ok (.if_icmp .le 22, 3) := by decide +kernel
theorem dX11_ends_82 : decode cX11_ends 82 = .ok (.goto 10, 3) := by decide +kernel
theorem dX11_ends_85 : decode cX11_ends 85 = .ok (.iload 7, 2) := by decide +kernel
theorem dX11_ends_87 : decode cX11_ends 87 = .ok (.iload 6, 2) := by decide +kernel
theorem dX11_ends_89 : decode cX11_ends 89 = .ok (.if_icmp .ge 12, 3) := by decide +kernel
theorem dX11_ends_92 : decode cX11_ends 92 = .ok (.iload 4, 2) := by decide +kernel
theorem dX11_ends_94 : decode cX11_ends 94 = .ok (.iconst 1, 1) := by decide +kernel
theorem dX11_ends_95 : decode cX11_ends 95 = .ok (.iload 5, 2) := by decide +kernel
theorem dX11_ends_97 : decode cX11_ends 97 = .ok (.ishl, 1) := by decide +kernel
theorem dX11_ends_98 : decode cX11_ends 98 = .ok (.ior, 1) := by decide +kernel
theorem dX11_ends_99 : decode cX11_ends 99 = .ok (.istore 4, 2) := by decide +kernel
theorem dX11_ends_101 : decode cX11_ends 101 = .ok (.iinc 5 1, 3) := by decide +kernel
theorem dX11_ends_104 : decode cX11_ends 104 = .ok (.goto (-67), 3) := by decide +kernel
theorem dX11_ends_107 : decode cX11_ends 107 = .ok (.iload 4, 2) := by decide +kernel
theorem dX11_ends_109 : decode cX11_ends 109 = .ok (.ireturn, 1) := by decide +kernel
def w_X11_ends_92 (a1 : Int32) (a2 : Int32) (post : Int32 → mI → Prop) (k37 : mI → Nat → Int32 → Int32 → Prop) (I : mI) (q3 : Nat) (v4 : Int32) (v5 : Int32) : Prop := ∀ x9, x9 = (v4 ||| (1 <<< (v5 &&& 31))) → ∀ x10, x10 = v5 + 1 → k37 I q3 x9 x10
set_option maxRecDepth 100000 in
set_option maxHeartbeats 4000000 in
theorem s_X11_ends_92 {p : Program} {l : Launch} {e : Env} {s : State} {m : MethodId} {args : Array Value} {below : List Frame} {meth : Method} {c : Code} {D : va_G} {cA : Nat → ClassId} {Z : mZ} {bs : Ad} {n : Nat} {K : mK} {R : mR} {L : mL} {bs0 : Ad} {K0 : mK} (E : Ev p s m args c cX11_ends 8 RX11 D cA Z bs) (hr : meth.sig.returnType = (some .int)) (hlk : meth.locks = false) (hx0 : EX bs0 K0 R bs K) {a1 : Int32} {a2 : Int32} (ho : isX11 K R ) {post : Int32 → mI → Prop} {k37 : mI → Nat → Int32 → Int32 → Prop} (hk37 : ∀ (I : mI) (q3 : Nat) (v4 : Int32) (v5 : Int32) (H : Heap) (locs : List Loc) (ls : Array Slot) (hq3 : isX2 K R q3 (hE q3)), k37 I q3 v4 v5 → mm D cA bs (n, K, R, I, L) H → va_S (Ab bs) s.heap H locs → lv_has ls 8 [(2, .int a2), (3, .ref (ad bs q3)), (4, .int v4), (5, .int v5)] → W p l e ({ frames := 5, cells := 17, slots := 6542, locals := 132 } : Room) s m args below meth c H locs 17 6542 (MQ below (QIX D cA bs0 K0 R (fun r u => ∃ K' I', u = (n, K', R, I', L) ∧ post r I')) args s 17 6542 (Ab bs0)) (F0 m 37 ls [])) {I : mI} {q3 : Nat} {v4 : Int32} {v5 : Int32} {H : Heap} {locs : List Loc} {ls : Array Slot} (hq3 : isX2 K R q3 (hE q3)) (hw : w_X11_ends_92 a1 a2 post k37 I q3 v4 v5) (hM : mm D cA bs (n, K, R, I, L) H) (hS : va_S (Ab bs) s.heap H locs) (hl : lv_has ls 8 [(2, .int a2), (3, .ref (ad bs q3)), (4, .int v4), (5, .int v5)]) : W p l e ({ frames := 5, cells := 17, slots := 6542, locals := 132 } : Room) s m args below meth c H locs 17 6542 (MQ below (QIX D cA bs0 K0 R (fun r u => ∃ K' I', u = (n, K', R, I', L) ∧ post r I')) args s 17 6542 (Ab bs0)) (F0 m 92 ls []) := by
  have hx := E.1.1
  have hb := E.1.2.1
  refine lv_iload hx hb dX11_ends_92 (lv_at hl 2 rfl) ?_
  refine lv_iconst (v := 1) hx hb dX11_ends_94 (by decide) ?_
  refine lv_iload hx hb dX11_ends_95 (lv_at hl 3 rfl) ?_
  refine lv_ishl hx hb dX11_ends_97 ?_
  refine lv_ior hx hb dX11_ends_98 ?_
  refine lv_topi (fun x9 ex9 => ?_)
  have hw := hw x9 ex9
  refine lv_istore (lv' := [(4, .int x9), (2, .int a2), (3, .ref (ad bs q3)), (5, .int v5)]) hx hb dX11_ends_99 hl (by decide) rfl (fun ls hl => ?_)
  obtain ⟨x10, ex10⟩ : ∃ y : Int32, y = v5 + 1 := ⟨_, rfl⟩
  have hw := hw x10 ex10
  refine lv_iinc (v := x10) (lv' := [(5, .int x10), (4, .int x9), (2, .int a2), (3, .ref (ad bs q3))]) hx hb dX11_ends_101 hl (k := 3) rfl (by rw [ex10]; rfl) (by decide) rfl (fun ls hl => ?_)
  refine lv_goto (tgt := 37) hx hb dX11_ends_104 (by decide) ?_
  refine W.widen (k := 17) (n := 6542) (Nat.le_of_ble_eq_true rfl) (Nat.le_of_ble_eq_true rfl) ?_
  exact hk37 _ _ _ _ H locs ls hq3 hw hM hS (lv_sub hl [2, 3, 1, 0] rfl)
def w_X11_ends_37 (a1 : Int32) (a2 : Int32) (post : Int32 → mI → Prop) (I : mI) (q3 : Nat) (v4 : Int32) (v5 : Int32) : Prop := ∀ ZZ : (mI → Nat → Int32 → Int32 → Prop), (∀ (I : mI) (q3 : Nat) (v4 : Int32) (v5 : Int32), (((I (hE q3) 3) ≤ v5 → post v4 I) ∧ (¬ (I (hE q3) 3) ≤ v5 → vp_in v5 6 ∧ ∀ x5, x5 = (I ((hE q3) + 8) v5.toNatClampNeg) → w_X2_spotAt I q3 (hE q3) v5 99 (fun r6 => (¬ a2 = 0 → (x5 ≤ r6 → ∀ x7, x7 = v5 + 1 → ZZ I q3 v4 x7) ∧ (¬ x5 ≤ r6 → (w_X11_ends_92 a1 a2 post ZZ) I q3 v4 v5)) ∧ (a2 = 0 → (r6 ≤ x5 → ∀ x8, x8 = v5 + 1 → ZZ I q3 v4 x8) ∧ (¬ r6 ≤ x5 → (w_X11_ends_92 a1 a2 post ZZ) I q3 v4 v5))))) → ZZ I q3 v4 v5) → ZZ I q3 v4 v5
set_option maxRecDepth 100000 in
set_option maxHeartbeats 4000000 in
theorem s_X11_ends_37 {p : Program} {l : Launch} {e : Env} {s : State} {m : MethodId} {args : Array Value} {below : List Frame} {meth : Method} {c : Code} {D : va_G} {cA : Nat → ClassId} {Z : mZ} {bs : Ad} {n : Nat} {K : mK} {R : mR} {L : mL} {bs0 : Ad} {K0 : mK} (E : Ev p s m args c cX11_ends 8 RX11 D cA Z bs) (hr : meth.sig.returnType = (some .int)) (hlk : meth.locks = false) (hx0 : EX bs0 K0 R bs K) {a1 : Int32} {a2 : Int32} (ho : isX11 K R ) {post : Int32 → mI → Prop} {I : mI} {q3 : Nat} {v4 : Int32} {v5 : Int32} {H : Heap} {locs : List Loc} {ls : Array Slot} (hq3 : isX2 K R q3 (hE q3)) (hw : w_X11_ends_37 a1 a2 post I q3 v4 v5) (hM : mm D cA bs (n, K, R, I, L) H) (hS : va_S (Ab bs) s.heap H locs) (hl : lv_has ls 8 [(2, .int a2), (3, .ref (ad bs q3)), (4, .int v4), (5, .int v5)]) : W p l e ({ frames := 5, cells := 17, slots := 6542, locals := 132 } : Room) s m args below meth c H locs 17 6542 (MQ below (QIX D cA bs0 K0 R (fun r u => ∃ K' I', u = (n, K', R, I', L) ∧ post r I')) args s 17 6542 (Ab bs0)) (F0 m 37 ls []) := by
  have hx := E.1.1
  have hb := E.1.2.1
  refine hw (fun I q3 v4 v5 => ∀ (H : Heap) (locs : List Loc) (ls : Array Slot) (hq3 : isX2 K R q3 (hE q3)), mm D cA bs (n, K, R, I, L) H → va_S (Ab bs) s.heap H locs → lv_has ls 8 [(2, .int a2), (3, .ref (ad bs q3)), (4, .int v4), (5, .int v5)] → W p l e ({ frames := 5, cells := 17, slots := 6542, locals := 132 } : Room) s m args below meth c H locs 17 6542 (MQ below (QIX D cA bs0 K0 R (fun r u => ∃ K' I', u = (n, K', R, I', L) ∧ post r I')) args s 17 6542 (Ab bs0)) (F0 m 37 ls [])) ?_ H locs ls hq3 hM hS hl
  clear hw hM hS hl
  intro I q3 v4 v5 hw H locs ls hq3 hM hS hl
  refine lv_iload hx hb dX11_ends_37 (lv_at hl 3 rfl) ?_
  refine lv_aload_n hx hb dX11_ends_39 rfl (lv_at hl 1 rfl) ?_
  refine m_getr E hM fs_X11_203 hq3.1.1 hq3.2.1 dX11_ends_40 ?_
  refine m_geti E hM fs_X11_196 hq3.2.2.1 dX11_ends_43 ?_
  refine lv_icmp_ge (tgt := 107) hx hb dX11_ends_46 (by decide) (fun cq => ?_) (fun cq => ?_)
  · have hw := hw.1 cq
    refine lv_iload hx hb dX11_ends_107 (lv_at hl 2 rfl) ?_
    refine W.widen (k := 17) (n := 6542) (Nat.le_of_ble_eq_true rfl) (Nat.le_of_ble_eq_true rfl) ?_
    exact m_retix hx hb hr hlk hx0 hM hS ⟨_, _, rfl, hw⟩ dX11_ends_109
  · have hw := hw.2 cq
    refine lv_aload_n hx hb dX11_ends_49 rfl (lv_at hl 1 rfl) ?_
    refine m_getr E hM fs_X11_203 hq3.1.1 hq3.2.1 dX11_ends_50 ?_
    refine m_getr E hM fs_X11_229 hq3.2.2.1 (isO_at hq3.2.2 7 rfl).1 dX11_ends_53 ?_
    refine lv_iload hx hb dX11_ends_56 (lv_at hl 3 rfl) ?_
    obtain ⟨hv, hw⟩ := hw
    refine m_iald E hM (isO_at hq3.2.2 7 rfl).2 hv dX11_ends_58 ?_
    refine lv_topi (fun x5 ex5 => ?_)
    have hw := hw x5 ex5
    refine lv_istore (lv' := [(6, .int x5), (2, .int a2), (3, .ref (ad bs q3)), (4, .int v4), (5, .int v5)]) hx hb dX11_ends_59 hl (by decide) rfl (fun ls hl => ?_)
    refine lv_aload_n hx hb dX11_ends_61 rfl (lv_at hl 2 rfl) ?_
    refine lv_iload hx hb dX11_ends_62 (lv_at hl 4 rfl) ?_
    refine lv_bipush (v := 99) hx hb dX11_ends_64 (by decide) ?_
    refine m_ci (m_runV E hM hS cs_X11_235 hq3.1.1 (by decide) rfl rfl (c_X2_spotAt hq3 hw) rfl rfl ⟨Nat.le_of_ble_eq_true rfl, Nat.le_of_ble_eq_true rfl⟩ rfl hl.1 rfl (Nat.le_of_ble_eq_true rfl) dX11_ends_66 ⟨Nat.le_of_ble_eq_true rfl, Nat.le_of_ble_eq_true rfl⟩) hS (fun r6 u H locs hp hM hS => ?_)
    obtain ⟨rfl, hw⟩ := hp
    refine lv_istore (lv' := [(7, .int r6), (6, .int x5), (2, .int a2), (3, .ref (ad bs q3)), (4, .int v4), (5, .int v5)]) hx hb dX11_ends_69 hl (by decide) rfl (fun ls hl => ?_)
    refine lv_iload_n hx hb dX11_ends_71 rfl (lv_at hl 2 rfl) ?_
    refine lv_if_ne (tgt := 85) hx hb dX11_ends_72 (by decide) (fun cq => ?_) (fun cq => ?_)
    · have hw := hw.1 cq
      refine lv_iload hx hb dX11_ends_85 (lv_at hl 0 rfl) ?_
      refine lv_iload hx hb dX11_ends_87 (lv_at hl 1 rfl) ?_
      refine lv_icmp_ge (tgt := 101) hx hb dX11_ends_89 (by decide) (fun cq => ?_) (fun cq => ?_)
      · have hw := hw.1 cq
        obtain ⟨x7, ex7⟩ : ∃ y : Int32, y = v5 + 1 := ⟨_, rfl⟩
        have hw := hw x7 ex7
        refine lv_iinc (v := x7) (lv' := [(5, .int x7), (7, .int r6), (6, .int x5), (2, .int a2), (3, .ref (ad bs q3)), (4, .int v4)]) hx hb dX11_ends_101 hl (k := 5) rfl (by rw [ex7]; rfl) (by decide) rfl (fun ls hl => ?_)
        refine lv_goto (tgt := 37) hx hb dX11_ends_104 (by decide) ?_
        refine W.widen (k := 17) (n := 6542) (Nat.le_of_ble_eq_true rfl) (Nat.le_of_ble_eq_true rfl) ?_
        exact hw H locs ls hq3 hM hS (lv_sub hl [3, 4, 5, 0] rfl)
      · have hw := hw.2 cq
        refine W.widen (k := 17) (n := 6542) (Nat.le_of_ble_eq_true rfl) (Nat.le_of_ble_eq_true rfl) ?_
        exact s_X11_ends_92 E hr hlk hx0 ho (fun I q3 v4 v5 H locs ls hq3 hw hM hS hl => hw H locs ls hq3 hM hS hl) hq3 hw hM hS (lv_sub hl [2, 3, 4, 5] rfl)
    · have hw := hw.2 cq
      refine lv_iload hx hb dX11_ends_75 (lv_at hl 0 rfl) ?_
      refine lv_iload hx hb dX11_ends_77 (lv_at hl 1 rfl) ?_
      refine lv_icmp_le (tgt := 101) hx hb dX11_ends_79 (by decide) (fun cq => ?_) (fun cq => ?_)
      · have hw := hw.1 cq
        obtain ⟨x8, ex8⟩ : ∃ y : Int32, y = v5 + 1 := ⟨_, rfl⟩
        have hw := hw x8 ex8
        refine lv_iinc (v := x8) (lv' := [(5, .int x8), (7, .int r6), (6, .int x5), (2, .int a2), (3, .ref (ad bs q3)), (4, .int v4)]) hx hb dX11_ends_101 hl (k := 5) rfl (by rw [ex8]; rfl) (by decide) rfl (fun ls hl => ?_)
        refine lv_goto (tgt := 37) hx hb dX11_ends_104 (by decide) ?_
        refine W.widen (k := 17) (n := 6542) (Nat.le_of_ble_eq_true rfl) (Nat.le_of_ble_eq_true rfl) ?_
        exact hw H locs ls hq3 hM hS (lv_sub hl [3, 4, 5, 0] rfl)
      · have hw := hw.2 cq
        refine lv_goto (tgt := 92) hx hb dX11_ends_82 (by decide) ?_
        refine W.widen (k := 17) (n := 6542) (Nat.le_of_ble_eq_true rfl) (Nat.le_of_ble_eq_true rfl) ?_
        exact s_X11_ends_92 E hr hlk hx0 ho (fun I q3 v4 v5 H locs ls hq3 hw hM hS hl => hw H locs ls hq3 hM hS hl) hq3 hw hM hS (lv_sub hl [2, 3, 4, 5] rfl)
def w_X11_ends (I : mI) (a1 : Int32) (a2 : Int32) (post : Int32 → mI → Prop) : Prop := w_X11_eveningAt I a1 (fun r1 I2 => (r1 = none → post (-1) I2) ∧ (∀ q3 : Nat, r1 = some q3 → (a2 < 0 → post (-1) I2) ∧ (¬ a2 < 0 → (a2 ≤ 2 → (¬ a2 = 2 → (w_X11_ends_37 a1 a2 post) I2 q3 0 0) ∧ (a2 = 2 → w_X2_unheardPeople I2 q3 (hE q3) (fun r4 => post r4 I2))) ∧ (¬ a2 ≤ 2 → post (-1) I2))))
set_option maxRecDepth 100000 in
set_option maxHeartbeats 4000000 in
theorem c_X11_ends {l : Launch} {D : va_G} {cA : Nat → ClassId} {Z : mZ} {bs : Ad} {n : Nat} {K : mK} {R : mR} {I : mI} {L : mL} {a1 : Int32} {a2 : Int32} {post : Int32 → mI → Prop} (ho : isX11 K R ) (hw : w_X11_ends I a1 a2 post) : Met l yX11_ends (.code yX11_ends cX11_ends 8 (some .int) :: gw) ({ frames := 5, cells := 17, slots := 6542, locals := 132 } : Room) (PreM D cA Z bs (n, K, R, I, L) [.ref (ad bs 0), .int a1, .int a2]) (QIX D cA bs K R (fun r u => ∃ K' I', u = (n, K', R, I', L) ∧ post r I')) 17 6542 (Ab bs) := by
  refine m_met (by decide) (Nat.le_of_ble_eq_true rfl) (fun p e s m below meth c ls E hr hlk hM hS hl => ?_)
  have E : Ev p s m _ c cX11_ends 8 RX11 D cA Z bs := E
  have hl : lv_has ls 8 [(0, .ref (ad bs 0)), (1, .int a1), (2, .int a2)] := hl
  have hx := E.1.1
  have hb := E.1.2.1
  generalize hHe : s.heap = H at hM ⊢
  have hS : va_S (Ab bs) s.heap H [] := by rw [← hHe]; exact va_S.rf
  clear hHe
  have hx0 := EX_rf bs K R
  refine lv_aload_n hx hb dX11_ends_0 rfl (lv_at hl 0 rfl) ?_
  refine lv_iload_n hx hb dX11_ends_1 rfl (lv_at hl 1 rfl) ?_
  refine m_cox (m_runV E hM hS cs_X11_199 ho.1 (by decide) rfl rfl (c_X11_eveningAt ho hw) rfl rfl ⟨Nat.le_of_ble_eq_true rfl, Nat.le_of_ble_eq_true rfl⟩ rfl hl.1 rfl (Nat.le_of_ble_eq_true rfl) dX11_ends_2 ⟨Nat.le_of_ble_eq_true rfl, Nat.le_of_ble_eq_true rfl⟩) hS (fun r1 bs u H locs hx1 hp hM hS => ?_)
  obtain ⟨K, I2, rfl, hw, hqr1⟩ := hp
  have hx1 : EX _ _ R bs K := hx1
  have e0 := hx1.2.1 0 (by unfold lve; rw [ho.1]; decide)
  have E := EX_E hx1 E
  have hl : lv_has ls 8 [(2, .int a2)] := by exact lv_sub hl [2] rfl
  have ho := hx1.2.2.2 ho
  have hx0 := EX_tr hx0 hx1
  clear e0 hx1
  rcases r1 with _ | q3
  · have hw := hw.1 rfl
    refine lv_astore_nN (lv' := [(3, .null), (2, .int a2)]) hx hb dX11_ends_5 rfl hl (by decide) rfl (fun ls hl => ?_)
    refine lv_aload_nN hx hb dX11_ends_6 rfl (lv_at hl 0 rfl) ?_
    refine lv_ifnullN (tgt := 19) hx hb dX11_ends_7 (by decide) ?_
    refine lv_iconst (v := (-1)) hx hb dX11_ends_19 (by decide) ?_
    refine W.widen (k := 17) (n := 6542) (Nat.le_of_ble_eq_true rfl) (Nat.le_of_ble_eq_true rfl) ?_
    exact m_retix hx hb hr hlk hx0 hM hS ⟨_, _, rfl, hw⟩ dX11_ends_20
  · have hq3 := hqr1 _ rfl
    have hw := hw.2 q3 rfl
    refine lv_astore_n (lv' := [(3, .ref (ad bs q3)), (2, .int a2)]) hx hb dX11_ends_5 rfl hl (by decide) rfl (fun ls hl => ?_)
    refine lv_aload_n hx hb dX11_ends_6 rfl (lv_at hl 0 rfl) ?_
    refine lv_ifnull hx hb dX11_ends_7 ?_
    refine lv_iload_n hx hb dX11_ends_10 rfl (lv_at hl 1 rfl) ?_
    refine lv_if_lt (tgt := 19) hx hb dX11_ends_11 (by decide) (fun cq => ?_) (fun cq => ?_)
    · have hw := hw.1 cq
      refine lv_iconst (v := (-1)) hx hb dX11_ends_19 (by decide) ?_
      refine W.widen (k := 17) (n := 6542) (Nat.le_of_ble_eq_true rfl) (Nat.le_of_ble_eq_true rfl) ?_
      exact m_retix hx hb hr hlk hx0 hM hS ⟨_, _, rfl, hw⟩ dX11_ends_20
    · have hw := hw.2 cq
      refine lv_iload_n hx hb dX11_ends_14 rfl (lv_at hl 1 rfl) ?_
      refine lv_iconst (v := 2) hx hb dX11_ends_15 (by decide) ?_
      refine lv_icmp_le (tgt := 21) hx hb dX11_ends_16 (by decide) (fun cq => ?_) (fun cq => ?_)
      · have hw := hw.1 cq
        refine lv_iload_n hx hb dX11_ends_21 rfl (lv_at hl 1 rfl) ?_
        refine lv_iconst (v := 2) hx hb dX11_ends_22 (by decide) ?_
        refine lv_icmp_ne (tgt := 31) hx hb dX11_ends_23 (by decide) (fun cq => ?_) (fun cq => ?_)
        · have hw := hw.1 cq
          refine lv_iconst (v := 0) hx hb dX11_ends_31 (by decide) ?_
          refine lv_istore (lv' := [(4, .int 0), (3, .ref (ad bs q3)), (2, .int a2)]) hx hb dX11_ends_32 hl (by decide) rfl (fun ls hl => ?_)
          refine lv_iconst (v := 0) hx hb dX11_ends_34 (by decide) ?_
          refine lv_istore (lv' := [(5, .int 0), (4, .int 0), (3, .ref (ad bs q3)), (2, .int a2)]) hx hb dX11_ends_35 hl (by decide) rfl (fun ls hl => ?_)
          refine W.widen (k := 17) (n := 6542) (Nat.le_of_ble_eq_true rfl) (Nat.le_of_ble_eq_true rfl) ?_
          exact s_X11_ends_37 E hr hlk hx0 ho hq3 hw hM hS (lv_sub hl [3, 2, 1, 0] rfl)
        · have hw := hw.2 cq
          refine lv_aload_n hx hb dX11_ends_26 rfl (lv_at hl 0 rfl) ?_
          refine m_ci (m_runV E hM hS cs_X11_285 hq3.1.1 (by decide) rfl rfl (c_X2_unheardPeople hq3 hw) rfl rfl ⟨Nat.le_of_ble_eq_true rfl, Nat.le_of_ble_eq_true rfl⟩ rfl hl.1 rfl (Nat.le_of_ble_eq_true rfl) dX11_ends_27 ⟨Nat.le_of_ble_eq_true rfl, Nat.le_of_ble_eq_true rfl⟩) hS (fun r4 u H locs hp hM hS => ?_)
          obtain ⟨rfl, hw⟩ := hp
          refine W.widen (k := 17) (n := 6542) (Nat.le_of_ble_eq_true rfl) (Nat.le_of_ble_eq_true rfl) ?_
          exact m_retix hx hb hr hlk hx0 hM hS ⟨_, _, rfl, hw⟩ dX11_ends_30
      · have hw := hw.2 cq
        refine lv_iconst (v := (-1)) hx hb dX11_ends_19 (by decide) ?_
        refine W.widen (k := 17) (n := 6542) (Nat.le_of_ble_eq_true rfl) (Nat.le_of_ble_eq_true rfl) ?_
        exact m_retix hx hb hr hlk hx0 hM hS ⟨_, _, rfl, hw⟩ dX11_ends_20
theorem dX11_isErrand_0 : decode cX11_isErrand 0 = .ok (.aload_n 0, 1) := by decide +kernel
theorem dX11_isErrand_1 : decode cX11_isErrand 1 = .ok (.iload_n 1, 1) := by decide +kernel
theorem dX11_isErrand_2 : decode cX11_isErrand 2 = .ok (.invokevirtual 204, 3) := by decide +kernel
theorem dX11_isErrand_5 : decode cX11_isErrand 5 = .ok (.ifCond .eq 35, 3) := by decide +kernel
theorem dX11_isErrand_8 : decode cX11_isErrand 8 = .ok (.aload_n 0, 1) := by decide +kernel
theorem dX11_isErrand_9 : decode cX11_isErrand 9 = .ok (.iload_n 2, 1) := by decide +kernel
theorem dX11_isErrand_10 : decode cX11_isErrand 10 = .ok (.invokevirtual 320, 3) := by decide +kernel
theorem dX11_isErrand_13 : decode cX11_isErrand 13 = .ok (.ifCond .eq 27, 3) := by decide +kernel
theorem dX11_isErrand_16 : decode cX11_isErrand 16 = .ok (.aload_n 0, 1) := by decide +kernel
theorem dX11_isErrand_17 : decode cX11_isErrand 17 = .ok (.iload_n 3, 1) := by decide +kernel
theorem dX11_isErrand_18 : decode cX11_isErrand 18 = .ok (.invokevirtual 320, 3) := by decide +kernel
theorem dX11_isErrand_21 : decode cX11_isErrand 21 = .ok (.ifCond .eq 19, 3) := by decide +kernel
theorem dX11_isErrand_24 : decode cX11_isErrand 24 = .ok (.iload 4, 2) := by decide +kernel
theorem dX11_isErrand_26 : decode cX11_isErrand 26 = .ok (.ifCond .lt 14, 3) := by decide +kernel
theorem dX11_isErrand_29 : decode cX11_isErrand 29 = .ok (.iload 4, 2) := by decide +kernel
theorem dX11_isErrand_31 : decode cX11_isErrand 31 = .ok (.bipush 100, 2) := by decide +kernel
theorem dX11_isErrand_33 : decode cX11_isErrand 33 = .ok (.if_icmp .ge 7, 3) := by decide +kernel
theorem dX11_isErrand_36 : decode cX11_isErrand 36 = .ok (.iconst 1, 1) := by decide +kernel
theorem dX11_isErrand_37 : decode cX11_isErrand 37 = .ok (.goto 4, 3) := by decide +kernel
theorem dX11_isErrand_40 : decode cX11_isErrand 40 = .ok (.iconst 0, 1) := by decide +kernel
theorem dX11_isErrand_41 : decode cX11_isErrand 41 = .ok (.ireturn, 1) := by decide +kernel
def w_X11_isErrand (I : mI) (a1 : Nat) (a2 : Int32) (a3 : Int32) (a4 : Int32) (a5 : Int32) (post : Bool → Prop) : Prop := w_X3_hasPerson I a1 a2 (fun b1 => (b1 = false → post false) ∧ (b1 = true → w_X3_hasStep I a1 a3 (fun b2 => (b2 = false → post false) ∧ (b2 = true → w_X3_hasStep I a1 a4 (fun b3 => (b3 = false → post false) ∧ (b3 = true → (a5 < 0 → post false) ∧ (¬ a5 < 0 → (100 ≤ a5 → post false) ∧ (¬ 100 ≤ a5 → post true))))))))
set_option maxRecDepth 100000 in
set_option maxHeartbeats 4000000 in
theorem c_X11_isErrand {l : Launch} {D : va_G} {cA : Nat → ClassId} {Z : mZ} {bs : Ad} {n : Nat} {K : mK} {R : mR} {I : mI} {L : mL} {a1 : Nat} {a2 : Int32} {a3 : Int32} {a4 : Int32} {a5 : Int32} {post : Bool → Prop} (ha1 : isX3 K R a1) (hw : w_X11_isErrand I a1 a2 a3 a4 a5 post) : Met l yX11_isErrand (.code yX11_isErrand cX11_isErrand 5 (some .boolean) :: gw) ({ frames := 1, cells := 0, slots := 0, locals := 21 } : Room) (PreM D cA Z bs (n, K, R, I, L) [.ref (ad bs a1), .int a2, .int a3, .int a4, .int a5]) (QI D cA bs (fun r u => ∃ b, r = bI b ∧ u = (n, K, R, I, L) ∧ post b)) 0 0 (Ab bs) := by
  refine m_met (by decide) (Nat.le_of_ble_eq_true rfl) (fun p e s m below meth c ls E hr hlk hM hS hl => ?_)
  have E : Ev p s m _ c cX11_isErrand 5 RX11 D cA Z bs := E
  have hl : lv_has ls 5 [(0, .ref (ad bs a1)), (1, .int a2), (2, .int a3), (3, .int a4), (4, .int a5)] := hl
  have hx := E.1.1
  have hb := E.1.2.1
  generalize hHe : s.heap = H at hM ⊢
  have hS : va_S (Ab bs) s.heap H [] := by rw [← hHe]; exact va_S.rf
  clear hHe
  refine lv_aload_n hx hb dX11_isErrand_0 rfl (lv_at hl 0 rfl) ?_
  refine lv_iload_n hx hb dX11_isErrand_1 rfl (lv_at hl 1 rfl) ?_
  refine m_ci (m_runV E hM hS cs_X11_204 ha1.1 (by decide) rfl rfl (c_X3_hasPerson ha1 hw) rfl rfl ⟨Nat.le_of_ble_eq_true rfl, Nat.le_of_ble_eq_true rfl⟩ rfl hl.1 rfl (Nat.le_of_ble_eq_true rfl) dX11_isErrand_2 ⟨Nat.le_of_ble_eq_true rfl, Nat.le_of_ble_eq_true rfl⟩) hS (fun r9 u H locs hp hM hS => ?_)
  obtain ⟨b1, rfl, rfl, hw⟩ := hp
  refine lv_if_eq (tgt := 40) hx hb dX11_isErrand_5 (by decide) (fun cq => ?_) (fun cq => ?_)
  · have hw := hw.1 (bI_f cq)
    refine lv_iconst (v := 0) hx hb dX11_isErrand_40 (by decide) ?_
    exact m_retz hx hb hr hlk (Or.inl rfl) hM hS ⟨false, rfl, rfl, hw⟩ dX11_isErrand_41
  · have hw := hw.2 (bI_t cq)
    refine lv_aload_n hx hb dX11_isErrand_8 rfl (lv_at hl 0 rfl) ?_
    refine lv_iload_n hx hb dX11_isErrand_9 rfl (lv_at hl 2 rfl) ?_
    refine m_ci (m_runV E hM hS cs_X11_320 ha1.1 (by decide) rfl rfl (c_X3_hasStep ha1 hw) rfl rfl ⟨Nat.le_of_ble_eq_true rfl, Nat.le_of_ble_eq_true rfl⟩ rfl hl.1 rfl (Nat.le_of_ble_eq_true rfl) dX11_isErrand_10 ⟨Nat.le_of_ble_eq_true rfl, Nat.le_of_ble_eq_true rfl⟩) hS (fun r9 u H locs hp hM hS => ?_)
    obtain ⟨b2, rfl, rfl, hw⟩ := hp
    refine lv_if_eq (tgt := 40) hx hb dX11_isErrand_13 (by decide) (fun cq => ?_) (fun cq => ?_)
    · have hw := hw.1 (bI_f cq)
      refine lv_iconst (v := 0) hx hb dX11_isErrand_40 (by decide) ?_
      exact m_retz hx hb hr hlk (Or.inl rfl) hM hS ⟨false, rfl, rfl, hw⟩ dX11_isErrand_41
    · have hw := hw.2 (bI_t cq)
      refine lv_aload_n hx hb dX11_isErrand_16 rfl (lv_at hl 0 rfl) ?_
      refine lv_iload_n hx hb dX11_isErrand_17 rfl (lv_at hl 3 rfl) ?_
      refine m_ci (m_runV E hM hS cs_X11_320 ha1.1 (by decide) rfl rfl (c_X3_hasStep ha1 hw) rfl rfl ⟨Nat.le_of_ble_eq_true rfl, Nat.le_of_ble_eq_true rfl⟩ rfl hl.1 rfl (Nat.le_of_ble_eq_true rfl) dX11_isErrand_18 ⟨Nat.le_of_ble_eq_true rfl, Nat.le_of_ble_eq_true rfl⟩) hS (fun r9 u H locs hp hM hS => ?_)
      obtain ⟨b3, rfl, rfl, hw⟩ := hp
      refine lv_if_eq (tgt := 40) hx hb dX11_isErrand_21 (by decide) (fun cq => ?_) (fun cq => ?_)
      · have hw := hw.1 (bI_f cq)
        refine lv_iconst (v := 0) hx hb dX11_isErrand_40 (by decide) ?_
        exact m_retz hx hb hr hlk (Or.inl rfl) hM hS ⟨false, rfl, rfl, hw⟩ dX11_isErrand_41
      · have hw := hw.2 (bI_t cq)
        refine lv_iload hx hb dX11_isErrand_24 (lv_at hl 4 rfl) ?_
        refine lv_if_lt (tgt := 40) hx hb dX11_isErrand_26 (by decide) (fun cq => ?_) (fun cq => ?_)
        · have hw := hw.1 cq
          refine lv_iconst (v := 0) hx hb dX11_isErrand_40 (by decide) ?_
          exact m_retz hx hb hr hlk (Or.inl rfl) hM hS ⟨false, rfl, rfl, hw⟩ dX11_isErrand_41
        · have hw := hw.2 cq
          refine lv_iload hx hb dX11_isErrand_29 (lv_at hl 4 rfl) ?_
          refine lv_bipush (v := 100) hx hb dX11_isErrand_31 (by decide) ?_
          refine lv_icmp_ge (tgt := 40) hx hb dX11_isErrand_33 (by decide) (fun cq => ?_) (fun cq => ?_)
          · have hw := hw.1 cq
            refine lv_iconst (v := 0) hx hb dX11_isErrand_40 (by decide) ?_
            exact m_retz hx hb hr hlk (Or.inl rfl) hM hS ⟨false, rfl, rfl, hw⟩ dX11_isErrand_41
          · have hw := hw.2 cq
            refine lv_iconst (v := 1) hx hb dX11_isErrand_36 (by decide) ?_
            refine lv_goto (tgt := 41) hx hb dX11_isErrand_37 (by decide) ?_
            exact m_retz hx hb hr hlk (Or.inr rfl) hM hS ⟨true, rfl, rfl, hw⟩ dX11_isErrand_41
theorem dX11_hasRoute_0 : decode cX11_hasRoute 0 = .ok (.aload_n 0, 1) := by decide +kernel
theorem dX11_hasRoute_1 : decode cX11_hasRoute 1 = .ok (.iload_n 1, 1) := by decide +kernel
theorem dX11_hasRoute_2 : decode cX11_hasRoute 2 = .ok (.invokevirtual 199, 3) := by decide +kernel
theorem dX11_hasRoute_5 : decode cX11_hasRoute 5 = .ok (.astore 7, 2) := by decide +kernel
theorem dX11_hasRoute_7 : decode cX11_hasRoute 7 = .ok (.aload 7, 2) := by decide +kernel
theorem dX11_hasRoute_9 : decode cX11_hasRoute 9 = .ok (.ifnull 20, 3) := by decide +kernel
theorem dX11_hasRoute_12 : decode cX11_hasRoute 12 = .ok (.aload 7, 2) := by decide +kernel
theorem dX11_hasRoute_14 : decode cX11_hasRoute 14 = .ok (.getfield 203, 3) := by decide +kernel
theorem dX11_hasRoute_17 : decode cX11_hasRoute 17 = .ok (.iload_n 2, 1) := by decide +kernel
theorem dX11_hasRoute_18 : decode cX11_hasRoute 18 = .ok (.iload_n 3, 1) := by decide +kernel
theorem dX11_hasRoute_19 : decode cX11_hasRoute 19 = .ok (.iload 4, 2) := by decide +kernel
theorem dX11_hasRoute_21 : decode cX11_hasRoute 21 = .ok (.iload 5, 2) := by decide +kernel
theorem dX11_hasRoute_23 : decode cX11_hasRoute 23 = .ok (.invokestatic 305, 3) := by decide +kernel
theorem dX11_hasRoute_26 : decode cX11_hasRoute 26 = .ok (.ifCond .ne 5, 3) := by decide +kernel
theorem dX11_hasRoute_29 : decode cX11_hasRoute 29 = .ok (.iconst 0, 1) := by decide +kernel
theorem dX11_hasRoute_30 : decode cX11_hasRoute 30 = .ok (.ireturn, 1) := by decide +kernel
theorem dX11_hasRoute_31 : decode cX11_hasRoute 31 = .ok (.aload_n 0, 1) := by decide +kernel
theorem dX11_hasRoute_32 : decode cX11_hasRoute 32 = .ok (.getfield 49, 3) := by decide +kernel
theorem dX11_hasRoute_35 : decode cX11_hasRoute 35 = .ok (.iload_n 1, 1) := by decide +kernel
theorem dX11_hasRoute_36 : decode cX11_hasRoute 36 = .ok (.iload_n 2, 1) := by decide +kernel
theorem dX11_hasRoute_37 : decode cX11_hasRoute 37 = .ok (.iload_n 3, 1) := by decide +kernel
theorem dX11_hasRoute_38 : decode cX11_hasRoute 38 = .ok (.iload 4, 2) := by decide +kernel
theorem dX11_hasRoute_40 : decode cX11_hasRoute 40 = .ok (.iload 5, 2) := by decide +kernel
theorem dX11_hasRoute_42 : decode cX11_hasRoute 42 = .ok (.iload 6, 2) := by decide +kernel
theorem dX11_hasRoute_44 : decode cX11_hasRoute 44 = .ok (.invokevirtual 309, 3) := by decide +kernel
theorem dX11_hasRoute_47 : decode cX11_hasRoute 47 = .ok (.ifCond .eq 32, 3) := by decide +kernel
theorem dX11_hasRoute_50 : decode cX11_hasRoute 50 = .ok (.aload_n 0, 1) := by decide +kernel
theorem dX11_hasRoute_51 : decode cX11_hasRoute 51 = .ok (.getfield 42, 3) := by decide +kernel
theorem dX11_hasRoute_54 : decode cX11_hasRoute 54 = .ok (.aload 7, 2) := by decide +kernel
theorem dX11_hasRoute_56 : decode cX11_hasRoute 56 = .ok (.iload_n 2, 1) := by decide +kernel
theorem dX11_hasRoute_57 : decode cX11_hasRoute 57 = .ok (.iload 5, 2) := by decide +kernel
theorem dX11_hasRoute_59 : decode cX11_hasRoute 59 = .ok (.iconst 1, 1) := by decide +kernel
theorem dX11_hasRoute_60 : decode cX11_hasRoute 60 = .ok (.iadd, 1) := by decide +kernel
theorem dX11_hasRoute_61 : decode cX11_hasRoute 61 = .ok (.bipush 60, 2) := by decide +kernel
theorem dX11_hasRoute_63 : decode cX11_hasRoute 63 = .ok (.invokevirtual 312, 3) := by decide +kernel
theorem dX11_hasRoute_66 : decode cX11_hasRoute 66 = .ok (.aload_n 0, 1) := by decide +kernel
theorem dX11_hasRoute_67 : decode cX11_hasRoute 67 = .ok (.getfield 49, 3) := by decide +kernel
theorem dX11_hasRoute_70 : decode cX11_hasRoute 70 = .ok (.aload 7, 2) := by decide +kernel
theorem dX11_hasRoute_72 : decode cX11_hasRoute 72 = .ok (.aload_n 0, 1) := by decide +kernel
theorem dX11_hasRoute_73 : decode cX11_hasRoute 73 = .ok (.getfield 42, 3) := by decide +kernel
theorem dX11_hasRoute_76 : decode cX11_hasRoute 76 = .ok (.invokevirtual 316, 3) := by decide +kernel
theorem dX11_hasRoute_79 : decode cX11_hasRoute 79 = .ok (.aload_n 0, 1) := by decide +kernel
theorem dX11_hasRoute_80 : decode cX11_hasRoute 80 = .ok (.getfield 49, 3) := by decide +kernel
theorem dX11_hasRoute_83 : decode cX11_hasRoute 83 = .ok (.getfield 296, 3) := by decide +kernel
theorem dX11_hasRoute_86 : decode cX11_hasRoute 86 = .ok (.iconst (-1), 1) := by decide +kernel
theorem dX11_hasRoute_87 : decode cX11_hasRoute 87 = .ok (.if_icmp .eq 7, 3) := by decide +kernel
theorem dX11_hasRoute_90 : decode cX11_hasRoute 90 = .ok (.iconst 1, 1) := by decide +kernel
theorem dX11_hasRoute_91 : decode cX11_hasRoute 91 = .ok (.goto 4, 3) := by decide +kernel
theorem dX11_hasRoute_94 : decode cX11_hasRoute 94 = .ok (.iconst 0, 1) := by decide +kernel
theorem dX11_hasRoute_95 : decode cX11_hasRoute 95 = .ok (.ireturn, 1) := by decide +kernel
def w_X11_hasRoute_79 (a1 : Int32) (a2 : Int32) (a3 : Int32) (a4 : Int32) (a5 : Int32) (a6 : Int32) (post : Bool → mI → Prop) (I : mI) : Prop := ((I 70 1) = (-1) → post false I) ∧ (¬ (I 70 1) = (-1) → post true I)
set_option maxRecDepth 100000 in
set_option maxHeartbeats 4000000 in
theorem s_X11_hasRoute_79 {p : Program} {l : Launch} {e : Env} {s : State} {m : MethodId} {args : Array Value} {below : List Frame} {meth : Method} {c : Code} {D : va_G} {cA : Nat → ClassId} {Z : mZ} {bs : Ad} {n : Nat} {K : mK} {R : mR} {L : mL} {bs0 : Ad} {K0 : mK} (E : Ev p s m args c cX11_hasRoute 8 RX11 D cA Z bs) (hr : meth.sig.returnType = (some .boolean)) (hlk : meth.locks = false) (hx0 : EX bs0 K0 R bs K) {a1 : Int32} {a2 : Int32} {a3 : Int32} {a4 : Int32} {a5 : Int32} {a6 : Int32} (ho : isX11 K R ) {post : Bool → mI → Prop} {I : mI} {H : Heap} {locs : List Loc} {ls : Array Slot} (hw : w_X11_hasRoute_79 a1 a2 a3 a4 a5 a6 post I) (hM : mm D cA bs (n, K, R, I, L) H) (hS : va_S (Ab bs) s.heap H locs) (hl : lv_has ls 8 [(0, .ref (ad bs 0))]) : W p l e ({ frames := 5, cells := 17, slots := 6542, locals := 132 } : Room) s m args below meth c H locs 17 6542 (MQ below (QIX D cA bs0 K0 R (fun r u => ∃ b, r = bI b ∧ ∃ K' I', u = (n, K', R, I', L) ∧ post b I')) args s 17 6542 (Ab bs0)) (F0 m 79 ls []) := by
  have hx := E.1.1
  have hb := E.1.2.1
  refine lv_aload_n hx hb dX11_hasRoute_79 rfl (lv_at hl 0 rfl) ?_
  refine m_getr E hM fs_X11_49 ho.1 ho.2.2.2.2.2.2.1.1 dX11_hasRoute_80 ?_
  refine m_geti E hM fs_X11_296 ho.2.2.2.2.2.2.1.2.1 dX11_hasRoute_83 ?_
  refine lv_iconst (v := (-1)) hx hb dX11_hasRoute_86 (by decide) ?_
  refine lv_icmp_eq (tgt := 94) hx hb dX11_hasRoute_87 (by decide) (fun cq => ?_) (fun cq => ?_)
  · have hw := hw.1 cq
    refine lv_iconst (v := 0) hx hb dX11_hasRoute_94 (by decide) ?_
    refine W.widen (k := 17) (n := 6542) (Nat.le_of_ble_eq_true rfl) (Nat.le_of_ble_eq_true rfl) ?_
    exact m_retzx hx hb hr hlk (Or.inl rfl) hx0 hM hS ⟨false, rfl, _, _, rfl, hw⟩ dX11_hasRoute_95
  · have hw := hw.2 cq
    refine lv_iconst (v := 1) hx hb dX11_hasRoute_90 (by decide) ?_
    refine lv_goto (tgt := 95) hx hb dX11_hasRoute_91 (by decide) ?_
    refine W.widen (k := 17) (n := 6542) (Nat.le_of_ble_eq_true rfl) (Nat.le_of_ble_eq_true rfl) ?_
    exact m_retzx hx hb hr hlk (Or.inr rfl) hx0 hM hS ⟨true, rfl, _, _, rfl, hw⟩ dX11_hasRoute_95
def w_X11_hasRoute (I : mI) (a1 : Int32) (a2 : Int32) (a3 : Int32) (a4 : Int32) (a5 : Int32) (a6 : Int32) (post : Bool → mI → Prop) : Prop := w_X11_eveningAt I a1 (fun r1 I2 => (r1 = none → post false I2) ∧ (∀ q3 : Nat, r1 = some q3 → w_X11_isErrand I2 (hE q3) a2 a3 a4 a5 (fun b4 => (b4 = true → w_X7_isNew I2 70 a1 a2 a3 a4 a5 a6 (fun b5 I6 => (b5 = false → (w_X11_hasRoute_79 a1 a2 a3 a4 a5 a6 post) I6) ∧ (b5 = true → w_X4_watch I6 66 q3 (hE q3) a2 (a5 + 1) 60 (fun I7 => w_X7_plan I7 70 q3 (hE q3) 66 (fun I8 => (w_X11_hasRoute_79 a1 a2 a3 a4 a5 a6 post) I8))))) ∧ (b4 = false → post false I2))))
set_option maxRecDepth 100000 in
set_option maxHeartbeats 4000000 in
theorem c_X11_hasRoute {l : Launch} {D : va_G} {cA : Nat → ClassId} {Z : mZ} {bs : Ad} {n : Nat} {K : mK} {R : mR} {I : mI} {L : mL} {a1 : Int32} {a2 : Int32} {a3 : Int32} {a4 : Int32} {a5 : Int32} {a6 : Int32} {post : Bool → mI → Prop} (ho : isX11 K R ) (hw : w_X11_hasRoute I a1 a2 a3 a4 a5 a6 post) : Met l yX11_hasRoute (.code yX11_hasRoute cX11_hasRoute 8 (some .boolean) :: gw) ({ frames := 5, cells := 17, slots := 6542, locals := 132 } : Room) (PreM D cA Z bs (n, K, R, I, L) [.ref (ad bs 0), .int a1, .int a2, .int a3, .int a4, .int a5, .int a6]) (QIX D cA bs K R (fun r u => ∃ b, r = bI b ∧ ∃ K' I', u = (n, K', R, I', L) ∧ post b I')) 17 6542 (Ab bs) := by
  refine m_met (by decide) (Nat.le_of_ble_eq_true rfl) (fun p e s m below meth c ls E hr hlk hM hS hl => ?_)
  have E : Ev p s m _ c cX11_hasRoute 8 RX11 D cA Z bs := E
  have hl : lv_has ls 8 [(0, .ref (ad bs 0)), (1, .int a1), (2, .int a2), (3, .int a3), (4, .int a4), (5, .int a5), (6, .int a6)] := hl
  have hx := E.1.1
  have hb := E.1.2.1
  generalize hHe : s.heap = H at hM ⊢
  have hS : va_S (Ab bs) s.heap H [] := by rw [← hHe]; exact va_S.rf
  clear hHe
  have hx0 := EX_rf bs K R
  refine lv_aload_n hx hb dX11_hasRoute_0 rfl (lv_at hl 0 rfl) ?_
  refine lv_iload_n hx hb dX11_hasRoute_1 rfl (lv_at hl 1 rfl) ?_
  refine m_cox (m_runV E hM hS cs_X11_199 ho.1 (by decide) rfl rfl (c_X11_eveningAt ho hw) rfl rfl ⟨Nat.le_of_ble_eq_true rfl, Nat.le_of_ble_eq_true rfl⟩ rfl hl.1 rfl (Nat.le_of_ble_eq_true rfl) dX11_hasRoute_2 ⟨Nat.le_of_ble_eq_true rfl, Nat.le_of_ble_eq_true rfl⟩) hS (fun r1 bs u H locs hx1 hp hM hS => ?_)
  obtain ⟨K, I2, rfl, hw, hqr1⟩ := hp
  have hx1 : EX _ _ R bs K := hx1
  have e0 := hx1.2.1 0 (by unfold lve; rw [ho.1]; decide)
  have E := EX_E hx1 E
  have hl : lv_has ls 8 [(0, .ref (ad bs 0)), (1, .int a1), (2, .int a2), (3, .int a3), (4, .int a4), (5, .int a5), (6, .int a6)] := by rw [e0]; exact lv_sub hl [0, 1, 2, 3, 4, 5, 6] rfl
  have ho := hx1.2.2.2 ho
  have hx0 := EX_tr hx0 hx1
  clear e0 hx1
  rcases r1 with _ | q3
  · have hw := hw.1 rfl
    refine lv_astoreN (lv' := [(7, .null), (0, .ref (ad bs 0)), (1, .int a1), (2, .int a2), (3, .int a3), (4, .int a4), (5, .int a5), (6, .int a6)]) hx hb dX11_hasRoute_5 hl (by decide) rfl (fun ls hl => ?_)
    refine lv_aloadN hx hb dX11_hasRoute_7 (lv_at hl 0 rfl) ?_
    refine lv_ifnullN (tgt := 29) hx hb dX11_hasRoute_9 (by decide) ?_
    refine lv_iconst (v := 0) hx hb dX11_hasRoute_29 (by decide) ?_
    refine W.widen (k := 17) (n := 6542) (Nat.le_of_ble_eq_true rfl) (Nat.le_of_ble_eq_true rfl) ?_
    exact m_retzx hx hb hr hlk (Or.inl rfl) hx0 hM hS ⟨false, rfl, _, _, rfl, hw⟩ dX11_hasRoute_30
  · have hq3 := hqr1 _ rfl
    have hw := hw.2 q3 rfl
    refine lv_astore (lv' := [(7, .ref (ad bs q3)), (0, .ref (ad bs 0)), (1, .int a1), (2, .int a2), (3, .int a3), (4, .int a4), (5, .int a5), (6, .int a6)]) hx hb dX11_hasRoute_5 hl (by decide) rfl (fun ls hl => ?_)
    refine lv_aload hx hb dX11_hasRoute_7 (lv_at hl 0 rfl) ?_
    refine lv_ifnull hx hb dX11_hasRoute_9 ?_
    refine lv_aload hx hb dX11_hasRoute_12 (lv_at hl 0 rfl) ?_
    refine m_getr E hM fs_X11_203 hq3.1.1 hq3.2.1 dX11_hasRoute_14 ?_
    refine lv_iload_n hx hb dX11_hasRoute_17 rfl (lv_at hl 3 rfl) ?_
    refine lv_iload_n hx hb dX11_hasRoute_18 rfl (lv_at hl 4 rfl) ?_
    refine lv_iload hx hb dX11_hasRoute_19 (lv_at hl 5 rfl) ?_
    refine lv_iload hx hb dX11_hasRoute_21 (lv_at hl 6 rfl) ?_
    refine m_ci (m_runS E hM hS cs_X11_305 (c_X11_isErrand hq3.2.2 hw) rfl rfl ⟨Nat.le_of_ble_eq_true rfl, Nat.le_of_ble_eq_true rfl⟩ rfl hl.1 rfl (Nat.le_of_ble_eq_true rfl) dX11_hasRoute_23 ⟨Nat.le_of_ble_eq_true rfl, Nat.le_of_ble_eq_true rfl⟩) hS (fun r9 u H locs hp hM hS => ?_)
    obtain ⟨b4, rfl, rfl, hw⟩ := hp
    refine lv_if_ne (tgt := 31) hx hb dX11_hasRoute_26 (by decide) (fun cq => ?_) (fun cq => ?_)
    · have hw := hw.1 (bI_t cq)
      refine lv_aload_n hx hb dX11_hasRoute_31 rfl (lv_at hl 1 rfl) ?_
      refine m_getr E hM fs_X11_49 ho.1 ho.2.2.2.2.2.2.1.1 dX11_hasRoute_32 ?_
      refine lv_iload_n hx hb dX11_hasRoute_35 rfl (lv_at hl 2 rfl) ?_
      refine lv_iload_n hx hb dX11_hasRoute_36 rfl (lv_at hl 3 rfl) ?_
      refine lv_iload_n hx hb dX11_hasRoute_37 rfl (lv_at hl 4 rfl) ?_
      refine lv_iload hx hb dX11_hasRoute_38 (lv_at hl 5 rfl) ?_
      refine lv_iload hx hb dX11_hasRoute_40 (lv_at hl 6 rfl) ?_
      refine lv_iload hx hb dX11_hasRoute_42 (lv_at hl 7 rfl) ?_
      refine m_ci (m_runV E hM hS cs_X11_309 ho.2.2.2.2.2.2.1.2.1 (by decide) rfl rfl (c_X7_isNew ho.2.2.2.2.2.2.1.2 hw) rfl rfl ⟨Nat.le_of_ble_eq_true rfl, Nat.le_of_ble_eq_true rfl⟩ rfl hl.1 rfl (Nat.le_of_ble_eq_true rfl) dX11_hasRoute_44 ⟨Nat.le_of_ble_eq_true rfl, Nat.le_of_ble_eq_true rfl⟩) hS (fun r9 u H locs hp hM hS => ?_)
      obtain ⟨b5, rfl, I6, rfl, hw⟩ := hp
      refine lv_if_eq (tgt := 79) hx hb dX11_hasRoute_47 (by decide) (fun cq => ?_) (fun cq => ?_)
      · have hw := hw.1 (bI_f cq)
        refine W.widen (k := 17) (n := 6542) (Nat.le_of_ble_eq_true rfl) (Nat.le_of_ble_eq_true rfl) ?_
        exact s_X11_hasRoute_79 E hr hlk hx0 ho  hw hM hS (lv_sub hl [1] rfl)
      · have hw := hw.2 (bI_t cq)
        refine lv_aload_n hx hb dX11_hasRoute_50 rfl (lv_at hl 1 rfl) ?_
        refine m_getr E hM fs_X11_42 ho.1 ho.2.2.2.2.2.1.1 dX11_hasRoute_51 ?_
        refine lv_aload hx hb dX11_hasRoute_54 (lv_at hl 0 rfl) ?_
        refine lv_iload_n hx hb dX11_hasRoute_56 rfl (lv_at hl 3 rfl) ?_
        refine lv_iload hx hb dX11_hasRoute_57 (lv_at hl 6 rfl) ?_
        refine lv_iconst (v := 1) hx hb dX11_hasRoute_59 (by decide) ?_
        refine lv_iadd hx hb dX11_hasRoute_60 ?_
        refine lv_bipush (v := 60) hx hb dX11_hasRoute_61 (by decide) ?_
        refine m_cv (m_runV E hM hS cs_X11_312 ho.2.2.2.2.2.1.2.1 (by decide) rfl rfl (c_X4_watch ho.2.2.2.2.2.1.2 hq3 hw) rfl rfl ⟨Nat.le_of_ble_eq_true rfl, Nat.le_of_ble_eq_true rfl⟩ rfl hl.1 rfl (Nat.le_of_ble_eq_true rfl) dX11_hasRoute_63 ⟨Nat.le_of_ble_eq_true rfl, Nat.le_of_ble_eq_true rfl⟩) hS (fun u H locs hp hM hS => ?_)
        obtain ⟨I7, rfl, hw⟩ := hp
        refine lv_aload_n hx hb dX11_hasRoute_66 rfl (lv_at hl 1 rfl) ?_
        refine m_getr E hM fs_X11_49 ho.1 ho.2.2.2.2.2.2.1.1 dX11_hasRoute_67 ?_
        refine lv_aload hx hb dX11_hasRoute_70 (lv_at hl 0 rfl) ?_
        refine lv_aload_n hx hb dX11_hasRoute_72 rfl (lv_at hl 1 rfl) ?_
        refine m_getr E hM fs_X11_42 ho.1 ho.2.2.2.2.2.1.1 dX11_hasRoute_73 ?_
        refine m_cv (m_runV E hM hS cs_X11_316 ho.2.2.2.2.2.2.1.2.1 (by decide) rfl rfl (c_X7_plan ho.2.2.2.2.2.2.1.2 hq3 ho.2.2.2.2.2.1.2 hw) rfl rfl ⟨Nat.le_of_ble_eq_true rfl, Nat.le_of_ble_eq_true rfl⟩ rfl hl.1 rfl (Nat.le_of_ble_eq_true rfl) dX11_hasRoute_76 ⟨Nat.le_of_ble_eq_true rfl, Nat.le_of_ble_eq_true rfl⟩) hS (fun u H locs hp hM hS => ?_)
        obtain ⟨I8, rfl, hw⟩ := hp
        refine W.widen (k := 17) (n := 6542) (Nat.le_of_ble_eq_true rfl) (Nat.le_of_ble_eq_true rfl) ?_
        exact s_X11_hasRoute_79 E hr hlk hx0 ho  hw hM hS (lv_sub hl [1] rfl)
    · have hw := hw.2 (bI_f cq)
      refine lv_iconst (v := 0) hx hb dX11_hasRoute_29 (by decide) ?_
      refine W.widen (k := 17) (n := 6542) (Nat.le_of_ble_eq_true rfl) (Nat.le_of_ble_eq_true rfl) ?_
      exact m_retzx hx hb hr hlk (Or.inl rfl) hx0 hM hS ⟨false, rfl, _, _, rfl, hw⟩ dX11_hasRoute_30
theorem dX11_home_0 : decode cX11_home 0 = .ok (.aload_n 0, 1) := by decide +kernel
theorem dX11_home_1 : decode cX11_home 1 = .ok (.iload_n 1, 1) := by decide +kernel
theorem dX11_home_2 : decode cX11_home 2 = .ok (.invokevirtual 153, 3) := by decide +kernel
theorem dX11_home_5 : decode cX11_home 5 = .ok (.astore 8, 2) := by decide +kernel
theorem dX11_home_7 : decode cX11_home 7 = .ok (.aload 8, 2) := by decide +kernel
theorem dX11_home_9 : decode cX11_home 9 = .ok (.ifnull 32, 3) := by decide +kernel
theorem dX11_home_12 : decode cX11_home 12 = .ok (.iload 6, 2) := by decide +kernel
theorem dX11_home_14 : decode cX11_home 14 = .ok (.aload 8, 2) := by decide +kernel
theorem dX11_home_16 : decode cX11_home 16 = .ok (.invokevirtual 289, 3) := by decide +kernel
theorem dX11_home_19 : decode cX11_home 19 = .ok (.iconst (-1), 1) := by decide +kernel
theorem dX11_home_20 : decode cX11_home 20 = .ok (.ixor, 1) := by decide +kernel
theorem dX11_home_21 : decode cX11_home 21 = .ok (.iand, 1) := by decide +kernel
theorem dX11_home_22 : decode cX11_home 22 = .ok (.ifCond .ne 19, 3) := by decide +kernel
theorem dX11_home_25 : decode cX11_home 25 = .ok (.aload_n 0, 1) := by decide +kernel
theorem dX11_home_26 : decode cX11_home 26 = .ok (.iload_n 1, 1) := by decide +kernel
theorem dX11_home_27 : decode cX11_home 27 = .ok (.iload_n 2, 1) := by decide +kernel
theorem dX11_home_28 : decode cX11_home 28 = .ok (.iload_n 3, 1) := by decide +kernel
theorem dX11_home_29 : decode cX11_home 29 = .ok (.iload 4, 2) := by decide +kernel
theorem dX11_home_31 : decode cX11_home 31 = .ok (.iload 5, 2) := by decide +kernel
theorem dX11_home_33 : decode cX11_home 33 = .ok (.iload 6, 2) := by decide +kernel
theorem dX11_home_35 : decode cX11_home 35 = .ok (.invokevirtual 292, 3) := by decide +kernel
theorem dX11_home_38 : decode cX11_home 38 = .ok (.ifCond .ne 5, 3) := by decide +kernel
theorem dX11_home_41 : decode cX11_home 41 = .ok (.iconst (-1), 1) := by decide +kernel
theorem dX11_home_42 : decode cX11_home 42 = .ok (.ireturn, 1) := by decide +kernel
theorem dX11_home_43 : decode cX11_home 43 = .ok (.iload 7, 2) := by decide +kernel
theorem dX11_home_45 : decode cX11_home 45 = .ok (.ifCond .ne 13, 3) := by decide +kernel
theorem dX11_home_48 : decode cX11_home 48 = .ok (.aload_n 0, 1) := by decide +kernel
theorem dX11_home_49 : decode cX11_home 49 = .ok (.getfield 49, 3) := by decide +kernel
theorem dX11_home_52 : decode cX11_home 52 = .ok (.getfield 296, 3) := by decide +kernel
theorem dX11_home_55 : decode cX11_home 55 = .ok (.goto 26, 3) := by decide +kernel
theorem dX11_home_58 : decode cX11_home 58 = .ok (.aload_n 0, 1) := by decide +kernel
theorem dX11_home_59 : decode cX11_home 59 = .ok (.getfield 49, 3) := by decide +kernel
theorem dX11_home_62 : decode cX11_home 62 = .ok (.getfield 299, 3) := by decide +kernel
theorem dX11_home_65 : decode cX11_home 65 = .ok (.iload 7, 2) := by decide +kernel
theorem dX11_home_67 : decode cX11_home 67 = .ok (.bipush 10, 2) := by decide +kernel
theorem dX11_home_69 : decode cX11_home 69 = .ok (.isub, 1) := by decide +kernel
theorem dX11_home_70 : decode cX11_home 70 = .ok (.aload_n 0, 1) := by decide +kernel
theorem dX11_home_71 : decode cX11_home 71 = .ok (.getfield 49, 3) := by decide +kernel
theorem dX11_home_74 : decode cX11_home 74 = .ok (.getfield 296, 3) := by decide +kernel
theorem dX11_home_77 : decode cX11_home 77 = .ok (.iconst (-1), 1) := by decide +kernel
theorem dX11_home_78 : decode cX11_home 78 = .ok (.invokestatic 164, 3) := by decide +kernel
theorem dX11_home_81 : decode cX11_home 81 = .ok (.ireturn, 1) := by decide +kernel
def w_X11_home (I : mI) (a1 : Int32) (a2 : Int32) (a3 : Int32) (a4 : Int32) (a5 : Int32) (a6 : Int32) (a7 : Int32) (post : Int32 → mI → Prop) : Prop := w_X11_houseAt I a1 (fun r1 => (r1 = none → post (-1) I) ∧ (∀ q2 : Nat, r1 = some q2 → w_X3_allFlats I q2 (fun r3 => (¬ (a6 &&& (r3 ^^^ (-1))) = 0 → post (-1) I) ∧ ((a6 &&& (r3 ^^^ (-1))) = 0 → w_X11_hasRoute I a1 a2 a3 a4 a5 a6 (fun b4 I5 => (b4 = true → (¬ a7 = 0 → w_X11_pick I5 71 60 (a7 - 10) (I5 70 1) (-1) (fun r6 => post r6 I5)) ∧ (a7 = 0 → post (I5 70 1) I5)) ∧ (b4 = false → post (-1) I5))))))
set_option maxRecDepth 100000 in
set_option maxHeartbeats 4000000 in
theorem c_X11_home {l : Launch} {D : va_G} {cA : Nat → ClassId} {Z : mZ} {bs : Ad} {n : Nat} {K : mK} {R : mR} {I : mI} {L : mL} {a1 : Int32} {a2 : Int32} {a3 : Int32} {a4 : Int32} {a5 : Int32} {a6 : Int32} {a7 : Int32} {post : Int32 → mI → Prop} (ho : isX11 K R ) (hw : w_X11_home I a1 a2 a3 a4 a5 a6 a7 post) : Met l yX11_home (.code yX11_home cX11_home 9 (some .int) :: gw) ({ frames := 6, cells := 17, slots := 6542, locals := 159 } : Room) (PreM D cA Z bs (n, K, R, I, L) [.ref (ad bs 0), .int a1, .int a2, .int a3, .int a4, .int a5, .int a6, .int a7]) (QIX D cA bs K R (fun r u => ∃ K' I', u = (n, K', R, I', L) ∧ post r I')) 17 6542 (Ab bs) := by
  refine m_met (by decide) (Nat.le_of_ble_eq_true rfl) (fun p e s m below meth c ls E hr hlk hM hS hl => ?_)
  have E : Ev p s m _ c cX11_home 9 RX11 D cA Z bs := E
  have hl : lv_has ls 9 [(0, .ref (ad bs 0)), (1, .int a1), (2, .int a2), (3, .int a3), (4, .int a4), (5, .int a5), (6, .int a6), (7, .int a7)] := hl
  have hx := E.1.1
  have hb := E.1.2.1
  generalize hHe : s.heap = H at hM ⊢
  have hS : va_S (Ab bs) s.heap H [] := by rw [← hHe]; exact va_S.rf
  clear hHe
  have hx0 := EX_rf bs K R
  refine lv_aload_n hx hb dX11_home_0 rfl (lv_at hl 0 rfl) ?_
  refine lv_iload_n hx hb dX11_home_1 rfl (lv_at hl 1 rfl) ?_
  refine m_co (m_runV E hM hS cs_X11_153 ho.1 (by decide) rfl rfl (c_X11_houseAt ho hw) rfl rfl ⟨Nat.le_of_ble_eq_true rfl, Nat.le_of_ble_eq_true rfl⟩ rfl hl.1 rfl (Nat.le_of_ble_eq_true rfl) dX11_home_2 ⟨Nat.le_of_ble_eq_true rfl, Nat.le_of_ble_eq_true rfl⟩) hS (fun r1 u H locs hp hM hS => ?_)
  obtain ⟨rfl, hw, hqr1⟩ := hp
  rcases r1 with _ | q2
  · have hw := hw.1 rfl
    refine lv_astoreN (lv' := [(8, .null), (0, .ref (ad bs 0)), (1, .int a1), (2, .int a2), (3, .int a3), (4, .int a4), (5, .int a5), (6, .int a6), (7, .int a7)]) hx hb dX11_home_5 hl (by decide) rfl (fun ls hl => ?_)
    refine lv_aloadN hx hb dX11_home_7 (lv_at hl 0 rfl) ?_
    refine lv_ifnullN (tgt := 41) hx hb dX11_home_9 (by decide) ?_
    refine lv_iconst (v := (-1)) hx hb dX11_home_41 (by decide) ?_
    refine W.widen (k := 17) (n := 6542) (Nat.le_of_ble_eq_true rfl) (Nat.le_of_ble_eq_true rfl) ?_
    exact m_retix hx hb hr hlk hx0 hM hS ⟨_, _, rfl, hw⟩ dX11_home_42
  · have hq2 := hqr1 _ rfl
    have hw := hw.2 q2 rfl
    refine lv_astore (lv' := [(8, .ref (ad bs q2)), (0, .ref (ad bs 0)), (1, .int a1), (2, .int a2), (3, .int a3), (4, .int a4), (5, .int a5), (6, .int a6), (7, .int a7)]) hx hb dX11_home_5 hl (by decide) rfl (fun ls hl => ?_)
    refine lv_aload hx hb dX11_home_7 (lv_at hl 0 rfl) ?_
    refine lv_ifnull hx hb dX11_home_9 ?_
    refine lv_iload hx hb dX11_home_12 (lv_at hl 7 rfl) ?_
    refine lv_aload hx hb dX11_home_14 (lv_at hl 0 rfl) ?_
    refine m_ci (m_runV E hM hS cs_X11_289 hq2.1 (by decide) rfl rfl (c_X3_allFlats hq2 hw) rfl rfl ⟨Nat.le_of_ble_eq_true rfl, Nat.le_of_ble_eq_true rfl⟩ rfl hl.1 rfl (Nat.le_of_ble_eq_true rfl) dX11_home_16 ⟨Nat.le_of_ble_eq_true rfl, Nat.le_of_ble_eq_true rfl⟩) hS (fun r3 u H locs hp hM hS => ?_)
    obtain ⟨rfl, hw⟩ := hp
    refine lv_iconst (v := (-1)) hx hb dX11_home_19 (by decide) ?_
    refine lv_ixor hx hb dX11_home_20 ?_
    refine lv_iand hx hb dX11_home_21 ?_
    refine lv_if_ne (tgt := 41) hx hb dX11_home_22 (by decide) (fun cq => ?_) (fun cq => ?_)
    · have hw := hw.1 cq
      refine lv_iconst (v := (-1)) hx hb dX11_home_41 (by decide) ?_
      refine W.widen (k := 17) (n := 6542) (Nat.le_of_ble_eq_true rfl) (Nat.le_of_ble_eq_true rfl) ?_
      exact m_retix hx hb hr hlk hx0 hM hS ⟨_, _, rfl, hw⟩ dX11_home_42
    · have hw := hw.2 cq
      refine lv_aload_n hx hb dX11_home_25 rfl (lv_at hl 1 rfl) ?_
      refine lv_iload_n hx hb dX11_home_26 rfl (lv_at hl 2 rfl) ?_
      refine lv_iload_n hx hb dX11_home_27 rfl (lv_at hl 3 rfl) ?_
      refine lv_iload_n hx hb dX11_home_28 rfl (lv_at hl 4 rfl) ?_
      refine lv_iload hx hb dX11_home_29 (lv_at hl 5 rfl) ?_
      refine lv_iload hx hb dX11_home_31 (lv_at hl 6 rfl) ?_
      refine lv_iload hx hb dX11_home_33 (lv_at hl 7 rfl) ?_
      refine m_cix (m_runV E hM hS cs_X11_292 ho.1 (by decide) rfl rfl (c_X11_hasRoute ho hw) rfl rfl ⟨Nat.le_of_ble_eq_true rfl, Nat.le_of_ble_eq_true rfl⟩ rfl hl.1 rfl (Nat.le_of_ble_eq_true rfl) dX11_home_35 ⟨Nat.le_of_ble_eq_true rfl, Nat.le_of_ble_eq_true rfl⟩) hS (fun r9 bs u H locs hx1 hp hM hS => ?_)
      obtain ⟨b4, rfl, K, I5, rfl, hw⟩ := hp
      have hx1 : EX _ _ R bs K := hx1
      have e0 := hx1.2.1 0 (by unfold lve; rw [ho.1]; decide)
      have E := EX_E hx1 E
      have hl : lv_has ls 9 [(0, .ref (ad bs 0)), (7, .int a7)] := by rw [e0]; exact lv_sub hl [1, 8] rfl
      have ho := hx1.2.2.2 ho
      have hx0 := EX_tr hx0 hx1
      clear e0 hx1
      refine lv_if_ne (tgt := 43) hx hb dX11_home_38 (by decide) (fun cq => ?_) (fun cq => ?_)
      · have hw := hw.1 (bI_t cq)
        refine lv_iload hx hb dX11_home_43 (lv_at hl 1 rfl) ?_
        refine lv_if_ne (tgt := 58) hx hb dX11_home_45 (by decide) (fun cq => ?_) (fun cq => ?_)
        · have hw := hw.1 cq
          refine lv_aload_n hx hb dX11_home_58 rfl (lv_at hl 0 rfl) ?_
          refine m_getr E hM fs_X11_49 ho.1 ho.2.2.2.2.2.2.1.1 dX11_home_59 ?_
          refine m_getr E hM fs_X11_299 ho.2.2.2.2.2.2.1.2.1 (isO_at ho.2.2.2.2.2.2.1.2 0 rfl).1 dX11_home_62 ?_
          refine lv_iload hx hb dX11_home_65 (lv_at hl 1 rfl) ?_
          refine lv_bipush (v := 10) hx hb dX11_home_67 (by decide) ?_
          refine lv_isub hx hb dX11_home_69 ?_
          refine lv_aload_n hx hb dX11_home_70 rfl (lv_at hl 0 rfl) ?_
          refine m_getr E hM fs_X11_49 ho.1 ho.2.2.2.2.2.2.1.1 dX11_home_71 ?_
          refine m_geti E hM fs_X11_296 ho.2.2.2.2.2.2.1.2.1 dX11_home_74 ?_
          refine lv_iconst (v := (-1)) hx hb dX11_home_77 (by decide) ?_
          refine m_ci (m_runS E hM hS cs_X11_164 (c_X11_pick ((isO_at ho.2.2.2.2.2.2.1.2 0 rfl).2) hw) rfl rfl ⟨Nat.le_of_ble_eq_true rfl, Nat.le_of_ble_eq_true rfl⟩ rfl hl.1 rfl (Nat.le_of_ble_eq_true rfl) dX11_home_78 ⟨Nat.le_of_ble_eq_true rfl, Nat.le_of_ble_eq_true rfl⟩) hS (fun r6 u H locs hp hM hS => ?_)
          obtain ⟨rfl, hw⟩ := hp
          refine W.widen (k := 17) (n := 6542) (Nat.le_of_ble_eq_true rfl) (Nat.le_of_ble_eq_true rfl) ?_
          exact m_retix hx hb hr hlk hx0 hM hS ⟨_, _, rfl, hw⟩ dX11_home_81
        · have hw := hw.2 cq
          refine lv_aload_n hx hb dX11_home_48 rfl (lv_at hl 0 rfl) ?_
          refine m_getr E hM fs_X11_49 ho.1 ho.2.2.2.2.2.2.1.1 dX11_home_49 ?_
          refine m_geti E hM fs_X11_296 ho.2.2.2.2.2.2.1.2.1 dX11_home_52 ?_
          refine lv_goto (tgt := 81) hx hb dX11_home_55 (by decide) ?_
          refine W.widen (k := 17) (n := 6542) (Nat.le_of_ble_eq_true rfl) (Nat.le_of_ble_eq_true rfl) ?_
          exact m_retix hx hb hr hlk hx0 hM hS ⟨_, _, rfl, hw⟩ dX11_home_81
      · have hw := hw.2 (bI_f cq)
        refine lv_iconst (v := (-1)) hx hb dX11_home_41 (by decide) ?_
        refine W.widen (k := 17) (n := 6542) (Nat.le_of_ble_eq_true rfl) (Nat.le_of_ble_eq_true rfl) ?_
        exact m_retix hx hb hr hlk hx0 hM hS ⟨_, _, rfl, hw⟩ dX11_home_42
theorem dX11_thief_0 : decode cX11_thief 0 = .ok (.aload_n 0, 1) := by decide +kernel
theorem dX11_thief_1 : decode cX11_thief 1 = .ok (.iload_n 1, 1) := by decide +kernel
theorem dX11_thief_2 : decode cX11_thief 2 = .ok (.iload_n 2, 1) := by decide +kernel
theorem dX11_thief_3 : decode cX11_thief 3 = .ok (.iload_n 3, 1) := by decide +kernel
theorem dX11_thief_4 : decode cX11_thief 4 = .ok (.iload 4, 2) := by decide +kernel
theorem dX11_thief_6 : decode cX11_thief 6 = .ok (.iload 5, 2) := by decide +kernel
theorem dX11_thief_8 : decode cX11_thief 8 = .ok (.iconst (-1), 1) := by decide +kernel
theorem dX11_thief_9 : decode cX11_thief 9 = .ok (.invokevirtual 292, 3) := by decide +kernel
theorem dX11_thief_12 : decode cX11_thief 12 = .ok (.ifCond .ne 5, 3) := by decide +kernel
theorem dX11_thief_15 : decode cX11_thief 15 = .ok (.iconst (-1), 1) := by decide +kernel
theorem dX11_thief_16 : decode cX11_thief 16 = .ok (.ireturn, 1) := by decide +kernel
theorem dX11_thief_17 : decode cX11_thief 17 = .ok (.iload 6, 2) := by decide +kernel
theorem dX11_thief_19 : decode cX11_thief 19 = .ok (.ifCond .ne 11, 3) := by decide +kernel
theorem dX11_thief_22 : decode cX11_thief 22 = .ok (.aload_n 0, 1) := by decide +kernel
theorem dX11_thief_23 : decode cX11_thief 23 = .ok (.getfield 49, 3) := by decide +kernel
theorem dX11_thief_26 : decode cX11_thief 26 = .ok (.getfield 302, 3) := by decide +kernel
theorem dX11_thief_29 : decode cX11_thief 29 = .ok (.ireturn, 1) := by decide +kernel
theorem dX11_thief_30 : decode cX11_thief 30 = .ok (.iload 6, 2) := by decide +kernel
theorem dX11_thief_32 : decode cX11_thief 32 = .ok (.iconst 1, 1) := by decide +kernel
theorem dX11_thief_33 : decode cX11_thief 33 = .ok (.if_icmp .ne 13, 3) := by decide +kernel
theorem dX11_thief_36 : decode cX11_thief 36 = .ok (.aload_n 0, 1) := by decide +kernel
theorem dX11_thief_37 : decode cX11_thief 37 = .ok (.getfield 49, 3) := by decide +kernel
theorem dX11_thief_40 : decode cX11_thief 40 = .ok (.getfield 296, 3) := by decide +kernel
theorem dX11_thief_43 : decode cX11_thief 43 = .ok (.goto 26, 3) := by decide +kernel
theorem dX11_thief_46 : decode cX11_thief 46 = .ok (.aload_n 0, 1) := by decide +kernel
theorem dX11_thief_47 : decode cX11_thief 47 = .ok (.getfield 49, 3) := by decide +kernel
theorem dX11_thief_50 : decode cX11_thief 50 = .ok (.getfield 299, 3) := by decide +kernel
theorem dX11_thief_53 : decode cX11_thief 53 = .ok (.iload 6, 2) := by decide +kernel
theorem dX11_thief_55 : decode cX11_thief 55 = .ok (.bipush 10, 2) := by decide +kernel
theorem dX11_thief_57 : decode cX11_thief 57 = .ok (.isub, 1) := by decide +kernel
theorem dX11_thief_58 : decode cX11_thief 58 = .ok (.aload_n 0, 1) := by decide +kernel
theorem dX11_thief_59 : decode cX11_thief 59 = .ok (.getfield 49, 3) := by decide +kernel
theorem dX11_thief_62 : decode cX11_thief 62 = .ok (.getfield 296, 3) := by decide +kernel
theorem dX11_thief_65 : decode cX11_thief 65 = .ok (.iconst (-1), 1) := by decide +kernel
theorem dX11_thief_66 : decode cX11_thief 66 = .ok (.invokestatic 164, 3) := by decide +kernel
theorem dX11_thief_69 : decode cX11_thief 69 = .ok (.ireturn, 1) := by decide +kernel
def w_X11_thief (I : mI) (a1 : Int32) (a2 : Int32) (a3 : Int32) (a4 : Int32) (a5 : Int32) (a6 : Int32) (post : Int32 → mI → Prop) : Prop := w_X11_hasRoute I a1 a2 a3 a4 a5 (-1) (fun b1 I2 => (b1 = true → (¬ a6 = 0 → (¬ a6 = 1 → w_X11_pick I2 71 60 (a6 - 10) (I2 70 1) (-1) (fun r3 => post r3 I2)) ∧ (a6 = 1 → post (I2 70 1) I2)) ∧ (a6 = 0 → post (I2 70 0) I2)) ∧ (b1 = false → post (-1) I2))
set_option maxRecDepth 100000 in
set_option maxHeartbeats 4000000 in
theorem c_X11_thief {l : Launch} {D : va_G} {cA : Nat → ClassId} {Z : mZ} {bs : Ad} {n : Nat} {K : mK} {R : mR} {I : mI} {L : mL} {a1 : Int32} {a2 : Int32} {a3 : Int32} {a4 : Int32} {a5 : Int32} {a6 : Int32} {post : Int32 → mI → Prop} (ho : isX11 K R ) (hw : w_X11_thief I a1 a2 a3 a4 a5 a6 post) : Met l yX11_thief (.code yX11_thief cX11_thief 7 (some .int) :: gw) ({ frames := 6, cells := 17, slots := 6542, locals := 159 } : Room) (PreM D cA Z bs (n, K, R, I, L) [.ref (ad bs 0), .int a1, .int a2, .int a3, .int a4, .int a5, .int a6]) (QIX D cA bs K R (fun r u => ∃ K' I', u = (n, K', R, I', L) ∧ post r I')) 17 6542 (Ab bs) := by
  refine m_met (by decide) (Nat.le_of_ble_eq_true rfl) (fun p e s m below meth c ls E hr hlk hM hS hl => ?_)
  have E : Ev p s m _ c cX11_thief 7 RX11 D cA Z bs := E
  have hl : lv_has ls 7 [(0, .ref (ad bs 0)), (1, .int a1), (2, .int a2), (3, .int a3), (4, .int a4), (5, .int a5), (6, .int a6)] := hl
  have hx := E.1.1
  have hb := E.1.2.1
  generalize hHe : s.heap = H at hM ⊢
  have hS : va_S (Ab bs) s.heap H [] := by rw [← hHe]; exact va_S.rf
  clear hHe
  have hx0 := EX_rf bs K R
  refine lv_aload_n hx hb dX11_thief_0 rfl (lv_at hl 0 rfl) ?_
  refine lv_iload_n hx hb dX11_thief_1 rfl (lv_at hl 1 rfl) ?_
  refine lv_iload_n hx hb dX11_thief_2 rfl (lv_at hl 2 rfl) ?_
  refine lv_iload_n hx hb dX11_thief_3 rfl (lv_at hl 3 rfl) ?_
  refine lv_iload hx hb dX11_thief_4 (lv_at hl 4 rfl) ?_
  refine lv_iload hx hb dX11_thief_6 (lv_at hl 5 rfl) ?_
  refine lv_iconst (v := (-1)) hx hb dX11_thief_8 (by decide) ?_
  refine m_cix (m_runV E hM hS cs_X11_292 ho.1 (by decide) rfl rfl (c_X11_hasRoute ho hw) rfl rfl ⟨Nat.le_of_ble_eq_true rfl, Nat.le_of_ble_eq_true rfl⟩ rfl hl.1 rfl (Nat.le_of_ble_eq_true rfl) dX11_thief_9 ⟨Nat.le_of_ble_eq_true rfl, Nat.le_of_ble_eq_true rfl⟩) hS (fun r9 bs u H locs hx1 hp hM hS => ?_)
  obtain ⟨b1, rfl, K, I2, rfl, hw⟩ := hp
  have hx1 : EX _ _ R bs K := hx1
  have e0 := hx1.2.1 0 (by unfold lve; rw [ho.1]; decide)
  have E := EX_E hx1 E
  have hl : lv_has ls 7 [(0, .ref (ad bs 0)), (6, .int a6)] := by rw [e0]; exact lv_sub hl [0, 6] rfl
  have ho := hx1.2.2.2 ho
  have hx0 := EX_tr hx0 hx1
  clear e0 hx1
  refine lv_if_ne (tgt := 17) hx hb dX11_thief_12 (by decide) (fun cq => ?_) (fun cq => ?_)
  · have hw := hw.1 (bI_t cq)
    refine lv_iload hx hb dX11_thief_17 (lv_at hl 1 rfl) ?_
    refine lv_if_ne (tgt := 30) hx hb dX11_thief_19 (by decide) (fun cq => ?_) (fun cq => ?_)
    · have hw := hw.1 cq
      refine lv_iload hx hb dX11_thief_30 (lv_at hl 1 rfl) ?_
      refine lv_iconst (v := 1) hx hb dX11_thief_32 (by decide) ?_
      refine lv_icmp_ne (tgt := 46) hx hb dX11_thief_33 (by decide) (fun cq => ?_) (fun cq => ?_)
      · have hw := hw.1 cq
        refine lv_aload_n hx hb dX11_thief_46 rfl (lv_at hl 0 rfl) ?_
        refine m_getr E hM fs_X11_49 ho.1 ho.2.2.2.2.2.2.1.1 dX11_thief_47 ?_
        refine m_getr E hM fs_X11_299 ho.2.2.2.2.2.2.1.2.1 (isO_at ho.2.2.2.2.2.2.1.2 0 rfl).1 dX11_thief_50 ?_
        refine lv_iload hx hb dX11_thief_53 (lv_at hl 1 rfl) ?_
        refine lv_bipush (v := 10) hx hb dX11_thief_55 (by decide) ?_
        refine lv_isub hx hb dX11_thief_57 ?_
        refine lv_aload_n hx hb dX11_thief_58 rfl (lv_at hl 0 rfl) ?_
        refine m_getr E hM fs_X11_49 ho.1 ho.2.2.2.2.2.2.1.1 dX11_thief_59 ?_
        refine m_geti E hM fs_X11_296 ho.2.2.2.2.2.2.1.2.1 dX11_thief_62 ?_
        refine lv_iconst (v := (-1)) hx hb dX11_thief_65 (by decide) ?_
        refine m_ci (m_runS E hM hS cs_X11_164 (c_X11_pick ((isO_at ho.2.2.2.2.2.2.1.2 0 rfl).2) hw) rfl rfl ⟨Nat.le_of_ble_eq_true rfl, Nat.le_of_ble_eq_true rfl⟩ rfl hl.1 rfl (Nat.le_of_ble_eq_true rfl) dX11_thief_66 ⟨Nat.le_of_ble_eq_true rfl, Nat.le_of_ble_eq_true rfl⟩) hS (fun r3 u H locs hp hM hS => ?_)
        obtain ⟨rfl, hw⟩ := hp
        refine W.widen (k := 17) (n := 6542) (Nat.le_of_ble_eq_true rfl) (Nat.le_of_ble_eq_true rfl) ?_
        exact m_retix hx hb hr hlk hx0 hM hS ⟨_, _, rfl, hw⟩ dX11_thief_69
      · have hw := hw.2 cq
        refine lv_aload_n hx hb dX11_thief_36 rfl (lv_at hl 0 rfl) ?_
        refine m_getr E hM fs_X11_49 ho.1 ho.2.2.2.2.2.2.1.1 dX11_thief_37 ?_
        refine m_geti E hM fs_X11_296 ho.2.2.2.2.2.2.1.2.1 dX11_thief_40 ?_
        refine lv_goto (tgt := 69) hx hb dX11_thief_43 (by decide) ?_
        refine W.widen (k := 17) (n := 6542) (Nat.le_of_ble_eq_true rfl) (Nat.le_of_ble_eq_true rfl) ?_
        exact m_retix hx hb hr hlk hx0 hM hS ⟨_, _, rfl, hw⟩ dX11_thief_69
    · have hw := hw.2 cq
      refine lv_aload_n hx hb dX11_thief_22 rfl (lv_at hl 0 rfl) ?_
      refine m_getr E hM fs_X11_49 ho.1 ho.2.2.2.2.2.2.1.1 dX11_thief_23 ?_
      refine m_geti E hM fs_X11_302 ho.2.2.2.2.2.2.1.2.1 dX11_thief_26 ?_
      refine W.widen (k := 17) (n := 6542) (Nat.le_of_ble_eq_true rfl) (Nat.le_of_ble_eq_true rfl) ?_
      exact m_retix hx hb hr hlk hx0 hM hS ⟨_, _, rfl, hw⟩ dX11_thief_29
  · have hw := hw.2 (bI_f cq)
    refine lv_iconst (v := (-1)) hx hb dX11_thief_15 (by decide) ?_
    refine W.widen (k := 17) (n := 6542) (Nat.le_of_ble_eq_true rfl) (Nat.le_of_ble_eq_true rfl) ?_
    exact m_retix hx hb hr hlk hx0 hM hS ⟨_, _, rfl, hw⟩ dX11_thief_16
theorem dX11_apart_0 : decode cX11_apart 0 = .ok (.aload_n 0, 1) := by decide +kernel
theorem dX11_apart_1 : decode cX11_apart 1 = .ok (.iload_n 1, 1) := by decide +kernel
theorem dX11_apart_2 : decode cX11_apart 2 = .ok (.invokevirtual 199, 3) := by decide +kernel
theorem dX11_apart_5 : decode cX11_apart 5 = .ok (.astore_n 3, 1) := by decide +kernel
theorem dX11_apart_6 : decode cX11_apart 6 = .ok (.aload_n 3, 1) := by decide +kernel
theorem dX11_apart_7 : decode cX11_apart 7 = .ok (.ifnonnull 5, 3) := by decide +kernel
theorem dX11_apart_10 : decode cX11_apart 10 = .ok (.iconst (-1), 1) := by decide +kernel
theorem dX11_apart_11 : decode cX11_apart 11 = .ok (.ireturn, 1) := by decide +kernel
theorem dX11_apart_12 : decode cX11_apart 12 = .ok (.aload_n 0, 1) := by decide +kernel
theorem dX11_apart_13 : decode cX11_apart 13 = .ok (.getfield 63, 3) := by decide +kernel
theorem dX11_apart_16 : decode cX11_apart 16 = .ok (.aload_n 3, 1) := by decide +kernel
theorem dX11_apart_17 : decode cX11_apart 17 = .ok (.invokevirtual 323, 3) := by decide +kernel
theorem dX11_apart_20 : decode cX11_apart 20 = .ok (.iload_n 2, 1) := by decide +kernel
theorem dX11_apart_21 : decode cX11_apart 21 = .ok (.ifCond .ne 13, 3) := by decide +kernel
theorem dX11_apart_24 : decode cX11_apart 24 = .ok (.aload_n 0, 1) := by decide +kernel
theorem dX11_apart_25 : decode cX11_apart 25 = .ok (.getfield 63, 3) := by decide +kernel
theorem dX11_apart_28 : decode cX11_apart 28 = .ok (.getfield 327, 3) := by decide +kernel
theorem dX11_apart_31 : decode cX11_apart 31 = .ok (.goto 25, 3) := by decide +kernel
theorem dX11_apart_34 : decode cX11_apart 34 = .ok (.aload_n 0, 1) := by decide +kernel
theorem dX11_apart_35 : decode cX11_apart 35 = .ok (.getfield 63, 3) := by decide +kernel
theorem dX11_apart_38 : decode cX11_apart 38 = .ok (.getfield 330, 3) := by decide +kernel
theorem dX11_apart_41 : decode cX11_apart 41 = .ok (.iload_n 2, 1) := by decide +kernel
theorem dX11_apart_42 : decode cX11_apart 42 = .ok (.bipush 10, 2) := by decide +kernel
theorem dX11_apart_44 : decode cX11_apart 44 = .ok (.isub, 1) := by decide +kernel
theorem dX11_apart_45 : decode cX11_apart 45 = .ok (.aload_n 3, 1) := by decide +kernel
theorem dX11_apart_46 : decode cX11_apart 46 = .ok (.getfield 203, 3) := by decide +kernel
theorem dX11_apart_49 : decode cX11_apart 49 = .ok (.getfield 196, 3) := by decide +kernel
theorem dX11_apart_52 : decode cX11_apart 52 = .ok (.iconst (-1), 1) := by decide +kernel
theorem dX11_apart_53 : decode cX11_apart 53 = .ok (.invokestatic 164, 3) := by decide +kernel
theorem dX11_apart_56 : decode cX11_apart 56 = .ok (.ireturn, 1) := by decide +kernel
def w_X11_apart (I : mI) (a1 : Int32) (a2 : Int32) (post : Int32 → mI → Prop) : Prop := w_X11_eveningAt I a1 (fun r1 I2 => (r1 = none → post (-1) I2) ∧ (∀ q3 : Nat, r1 = some q3 → w_X9_dress I2 80 q3 (hE q3) (fun I4 => (¬ a2 = 0 → w_X11_pick I4 81 6 (a2 - 10) (I4 (hE q3) 3) (-1) (fun r5 => post r5 I4)) ∧ (a2 = 0 → post (I4 80 0) I4))))
set_option maxRecDepth 100000 in
set_option maxHeartbeats 4000000 in
theorem c_X11_apart {l : Launch} {D : va_G} {cA : Nat → ClassId} {Z : mZ} {bs : Ad} {n : Nat} {K : mK} {R : mR} {I : mI} {L : mL} {a1 : Int32} {a2 : Int32} {post : Int32 → mI → Prop} (ho : isX11 K R ) (hw : w_X11_apart I a1 a2 post) : Met l yX11_apart (.code yX11_apart cX11_apart 4 (some .int) :: gw) ({ frames := 12, cells := 17, slots := 6542, locals := 427 } : Room) (PreM D cA Z bs (n, K, R, I, L) [.ref (ad bs 0), .int a1, .int a2]) (QIX D cA bs K R (fun r u => ∃ K' I', u = (n, K', R, I', L) ∧ post r I')) 17 6542 (Ab bs) := by
  refine m_met (by decide) (Nat.le_of_ble_eq_true rfl) (fun p e s m below meth c ls E hr hlk hM hS hl => ?_)
  have E : Ev p s m _ c cX11_apart 4 RX11 D cA Z bs := E
  have hl : lv_has ls 4 [(0, .ref (ad bs 0)), (1, .int a1), (2, .int a2)] := hl
  have hx := E.1.1
  have hb := E.1.2.1
  generalize hHe : s.heap = H at hM ⊢
  have hS : va_S (Ab bs) s.heap H [] := by rw [← hHe]; exact va_S.rf
  clear hHe
  have hx0 := EX_rf bs K R
  refine lv_aload_n hx hb dX11_apart_0 rfl (lv_at hl 0 rfl) ?_
  refine lv_iload_n hx hb dX11_apart_1 rfl (lv_at hl 1 rfl) ?_
  refine m_cox (m_runV E hM hS cs_X11_199 ho.1 (by decide) rfl rfl (c_X11_eveningAt ho hw) rfl rfl ⟨Nat.le_of_ble_eq_true rfl, Nat.le_of_ble_eq_true rfl⟩ rfl hl.1 rfl (Nat.le_of_ble_eq_true rfl) dX11_apart_2 ⟨Nat.le_of_ble_eq_true rfl, Nat.le_of_ble_eq_true rfl⟩) hS (fun r1 bs u H locs hx1 hp hM hS => ?_)
  obtain ⟨K, I2, rfl, hw, hqr1⟩ := hp
  have hx1 : EX _ _ R bs K := hx1
  have e0 := hx1.2.1 0 (by unfold lve; rw [ho.1]; decide)
  have E := EX_E hx1 E
  have hl : lv_has ls 4 [(0, .ref (ad bs 0)), (2, .int a2)] := by rw [e0]; exact lv_sub hl [0, 2] rfl
  have ho := hx1.2.2.2 ho
  have hx0 := EX_tr hx0 hx1
  clear e0 hx1
  rcases r1 with _ | q3
  · have hw := hw.1 rfl
    refine lv_astore_nN (lv' := [(3, .null), (0, .ref (ad bs 0)), (2, .int a2)]) hx hb dX11_apart_5 rfl hl (by decide) rfl (fun ls hl => ?_)
    refine lv_aload_nN hx hb dX11_apart_6 rfl (lv_at hl 0 rfl) ?_
    refine lv_ifnonnullN hx hb dX11_apart_7 ?_
    refine lv_iconst (v := (-1)) hx hb dX11_apart_10 (by decide) ?_
    refine W.widen (k := 17) (n := 6542) (Nat.le_of_ble_eq_true rfl) (Nat.le_of_ble_eq_true rfl) ?_
    exact m_retix hx hb hr hlk hx0 hM hS ⟨_, _, rfl, hw⟩ dX11_apart_11
  · have hq3 := hqr1 _ rfl
    have hw := hw.2 q3 rfl
    refine lv_astore_n (lv' := [(3, .ref (ad bs q3)), (0, .ref (ad bs 0)), (2, .int a2)]) hx hb dX11_apart_5 rfl hl (by decide) rfl (fun ls hl => ?_)
    refine lv_aload_n hx hb dX11_apart_6 rfl (lv_at hl 0 rfl) ?_
    refine lv_ifnonnull (tgt := 12) hx hb dX11_apart_7 (by decide) ?_
    refine lv_aload_n hx hb dX11_apart_12 rfl (lv_at hl 1 rfl) ?_
    refine m_getr E hM fs_X11_63 ho.1 ho.2.2.2.2.2.2.2.2.1.1 dX11_apart_13 ?_
    refine lv_aload_n hx hb dX11_apart_16 rfl (lv_at hl 0 rfl) ?_
    refine m_cv (m_runV E hM hS cs_X11_323 ho.2.2.2.2.2.2.2.2.1.2.1 (by decide) rfl rfl (c_X9_dress ho.2.2.2.2.2.2.2.2.1.2 hq3 hw) rfl rfl ⟨Nat.le_of_ble_eq_true rfl, Nat.le_of_ble_eq_true rfl⟩ rfl hl.1 rfl (Nat.le_of_ble_eq_true rfl) dX11_apart_17 ⟨Nat.le_of_ble_eq_true rfl, Nat.le_of_ble_eq_true rfl⟩) hS (fun u H locs hp hM hS => ?_)
    obtain ⟨I4, rfl, hw⟩ := hp
    refine lv_iload_n hx hb dX11_apart_20 rfl (lv_at hl 2 rfl) ?_
    refine lv_if_ne (tgt := 34) hx hb dX11_apart_21 (by decide) (fun cq => ?_) (fun cq => ?_)
    · have hw := hw.1 cq
      refine lv_aload_n hx hb dX11_apart_34 rfl (lv_at hl 1 rfl) ?_
      refine m_getr E hM fs_X11_63 ho.1 ho.2.2.2.2.2.2.2.2.1.1 dX11_apart_35 ?_
      refine m_getr E hM fs_X11_330 ho.2.2.2.2.2.2.2.2.1.2.1 (isO_at ho.2.2.2.2.2.2.2.2.1.2 0 rfl).1 dX11_apart_38 ?_
      refine lv_iload_n hx hb dX11_apart_41 rfl (lv_at hl 2 rfl) ?_
      refine lv_bipush (v := 10) hx hb dX11_apart_42 (by decide) ?_
      refine lv_isub hx hb dX11_apart_44 ?_
      refine lv_aload_n hx hb dX11_apart_45 rfl (lv_at hl 0 rfl) ?_
      refine m_getr E hM fs_X11_203 hq3.1.1 hq3.2.1 dX11_apart_46 ?_
      refine m_geti E hM fs_X11_196 hq3.2.2.1 dX11_apart_49 ?_
      refine lv_iconst (v := (-1)) hx hb dX11_apart_52 (by decide) ?_
      refine m_ci (m_runS E hM hS cs_X11_164 (c_X11_pick ((isO_at ho.2.2.2.2.2.2.2.2.1.2 0 rfl).2) hw) rfl rfl ⟨Nat.le_of_ble_eq_true rfl, Nat.le_of_ble_eq_true rfl⟩ rfl hl.1 rfl (Nat.le_of_ble_eq_true rfl) dX11_apart_53 ⟨Nat.le_of_ble_eq_true rfl, Nat.le_of_ble_eq_true rfl⟩) hS (fun r5 u H locs hp hM hS => ?_)
      obtain ⟨rfl, hw⟩ := hp
      refine W.widen (k := 17) (n := 6542) (Nat.le_of_ble_eq_true rfl) (Nat.le_of_ble_eq_true rfl) ?_
      exact m_retix hx hb hr hlk hx0 hM hS ⟨_, _, rfl, hw⟩ dX11_apart_56
    · have hw := hw.2 cq
      refine lv_aload_n hx hb dX11_apart_24 rfl (lv_at hl 1 rfl) ?_
      refine m_getr E hM fs_X11_63 ho.1 ho.2.2.2.2.2.2.2.2.1.1 dX11_apart_25 ?_
      refine m_geti E hM fs_X11_327 ho.2.2.2.2.2.2.2.2.1.2.1 dX11_apart_28 ?_
      refine lv_goto (tgt := 56) hx hb dX11_apart_31 (by decide) ?_
      refine W.widen (k := 17) (n := 6542) (Nat.le_of_ble_eq_true rfl) (Nat.le_of_ble_eq_true rfl) ?_
      exact m_retix hx hb hr hlk hx0 hM hS ⟨_, _, rfl, hw⟩ dX11_apart_56
theorem dX11_worth_0 : decode cX11_worth 0 = .ok (.aload_n 0, 1) := by decide +kernel
theorem dX11_worth_1 : decode cX11_worth 1 = .ok (.iload_n 1, 1) := by decide +kernel
theorem dX11_worth_2 : decode cX11_worth 2 = .ok (.invokevirtual 199, 3) := by decide +kernel
theorem dX11_worth_5 : decode cX11_worth 5 = .ok (.astore 4, 2) := by decide +kernel
theorem dX11_worth_7 : decode cX11_worth 7 = .ok (.aload 4, 2) := by decide +kernel
theorem dX11_worth_9 : decode cX11_worth 9 = .ok (.ifnull 31, 3) := by decide +kernel
theorem dX11_worth_12 : decode cX11_worth 12 = .ok (.iload_n 3, 1) := by decide +kernel
theorem dX11_worth_13 : decode cX11_worth 13 = .ok (.iconst 1, 1) := by decide +kernel
theorem dX11_worth_14 : decode cX11_worth 14 = .ok (.if_icmp .lt 26, 3) := by decide +kernel
theorem dX11_worth_17 : decode cX11_worth 17 = .ok (.iload_n 3, 1) := by decide +kernel
theorem dX11_worth_18 : decode cX11_worth 18 = .ok (.bipush 9, 2) := by decide +kernel
theorem dX11_worth_20 : decode cX11_worth 20 = .ok (.if_icmp .gt 20, 3) := by decide +kernel
theorem dX11_worth_23 : decode cX11_worth 23 = .ok (.iload_n 2, 1) := by decide +kernel
theorem dX11_worth_24 : decode cX11_worth 24 = .ok (.iconst (-1), 1) := by decide +kernel
theorem dX11_worth_25 : decode cX11_worth 25 = .ok (.if_icmp .eq 18, 3) := by decide +kernel
theorem dX11_worth_28 : decode cX11_worth 28 = .ok (.aload 4, 2) := by decide +kernel
theorem dX11_worth_30 : decode cX11_worth 30 = .ok (.getfield 203, 3) := by decide +kernel
theorem dX11_worth_33 : decode cX11_worth 33 = .ok (.iload_n 2, 1) := by decide +kernel
theorem dX11_worth_34 : decode cX11_worth 34 = .ok (.invokevirtual 320, 3) := by decide +kernel
theorem dX11_worth_37 : decode cX11_worth 37 = .ok (.ifCond .ne 6, 3) := by decide +kernel
theorem dX11_worth_40 : decode cX11_worth 40 = .ok (.bipush (-2), 2) := by decide +kernel
theorem dX11_worth_42 : decode cX11_worth 42 = .ok (.ireturn, 1) := by decide +kernel
theorem dX11_worth_43 : decode cX11_worth 43 = .ok (.aload 4, 2) := by decide +kernel
theorem dX11_worth_45 : decode cX11_worth 45 = .ok (.iload_n 3, 1) := by decide +kernel
theorem dX11_worth_46 : decode cX11_worth 46 = .ok (.invokevirtual 333, 3) := by decide +kernel
theorem dX11_worth_49 : decode cX11_worth 49 = .ok (.iload_n 2, 1) := by decide +kernel
theorem dX11_worth_50 : decode cX11_worth 50 = .ok (.iconst (-1), 1) := by decide +kernel
theorem dX11_worth_51 : decode cX11_worth 51 = .ok (.if_icmp .ne 11, 3) := by decide +kernel
theorem dX11_worth_54 : decode cX11_worth 54 = .ok (.aload 4, 2) := by decide +kernel
theorem dX11_worth_56 : decode cX11_worth 56 = .ok (.invokevirtual 336, 3) := by decide +kernel
theorem dX11_worth_59 : decode cX11_worth 59 = .ok (.goto 10, 3) := by decide +kernel
theorem dX11_worth_62 : decode cX11_worth 62 = .ok (.aload 4, 2) := by decide +kernel
theorem dX11_worth_64 : decode cX11_worth 64 = .ok (.getfield 339, 3) := by decide +kernel
theorem dX11_worth_67 : decode cX11_worth 67 = .ok (.iload_n 2, 1) := by decide +kernel
theorem dX11_worth_68 : decode cX11_worth 68 = .ok (.iaload, 1) := by decide +kernel
theorem dX11_worth_69 : decode cX11_worth 69 = .ok (.ireturn, 1) := by decide +kernel
def w_X11_worth_43 (a1 : Int32) (a2 : Int32) (a3 : Int32) (post : Int32 → mI → Prop) (I : mI) (q3 : Nat) : Prop := w_X2_tallySaved I q3 (hE q3) a3 (fun I5 => (¬ a2 = (-1) → vp_in a2 25 ∧ post (I5 (q3 + 11) a2.toNatClampNeg) I5) ∧ (a2 = (-1) → w_X2_mostTallied I5 q3 (hE q3) (fun r6 => post r6 I5)))
set_option maxRecDepth 100000 in
set_option maxHeartbeats 4000000 in
theorem s_X11_worth_43 {p : Program} {l : Launch} {e : Env} {s : State} {m : MethodId} {args : Array Value} {below : List Frame} {meth : Method} {c : Code} {D : va_G} {cA : Nat → ClassId} {Z : mZ} {bs : Ad} {n : Nat} {K : mK} {R : mR} {L : mL} {bs0 : Ad} {K0 : mK} (E : Ev p s m args c cX11_worth 5 RX11 D cA Z bs) (hr : meth.sig.returnType = (some .int)) (hlk : meth.locks = false) (hx0 : EX bs0 K0 R bs K) {a1 : Int32} {a2 : Int32} {a3 : Int32} (ho : isX11 K R ) {post : Int32 → mI → Prop} {I : mI} {q3 : Nat} {H : Heap} {locs : List Loc} {ls : Array Slot} (hq3 : isX2 K R q3 (hE q3)) (hw : w_X11_worth_43 a1 a2 a3 post I q3) (hM : mm D cA bs (n, K, R, I, L) H) (hS : va_S (Ab bs) s.heap H locs) (hl : lv_has ls 5 [(2, .int a2), (3, .int a3), (4, .ref (ad bs q3))]) : W p l e ({ frames := 5, cells := 17, slots := 6542, locals := 132 } : Room) s m args below meth c H locs 17 6542 (MQ below (QIX D cA bs0 K0 R (fun r u => ∃ K' I', u = (n, K', R, I', L) ∧ post r I')) args s 17 6542 (Ab bs0)) (F0 m 43 ls []) := by
  have hx := E.1.1
  have hb := E.1.2.1
  refine lv_aload hx hb dX11_worth_43 (lv_at hl 2 rfl) ?_
  refine lv_iload_n hx hb dX11_worth_45 rfl (lv_at hl 1 rfl) ?_
  refine m_cv (m_runV E hM hS cs_X11_333 hq3.1.1 (by decide) rfl rfl (c_X2_tallySaved hq3 hw) rfl rfl ⟨Nat.le_of_ble_eq_true rfl, Nat.le_of_ble_eq_true rfl⟩ rfl hl.1 rfl (Nat.le_of_ble_eq_true rfl) dX11_worth_46 ⟨Nat.le_of_ble_eq_true rfl, Nat.le_of_ble_eq_true rfl⟩) hS (fun u H locs hp hM hS => ?_)
  obtain ⟨I5, rfl, hw⟩ := hp
  refine lv_iload_n hx hb dX11_worth_49 rfl (lv_at hl 0 rfl) ?_
  refine lv_iconst (v := (-1)) hx hb dX11_worth_50 (by decide) ?_
  refine lv_icmp_ne (tgt := 62) hx hb dX11_worth_51 (by decide) (fun cq => ?_) (fun cq => ?_)
  · have hw := hw.1 cq
    refine lv_aload hx hb dX11_worth_62 (lv_at hl 2 rfl) ?_
    refine m_getr E hM fs_X11_339 hq3.1.1 (isO_at hq3.1 10 rfl).1 dX11_worth_64 ?_
    refine lv_iload_n hx hb dX11_worth_67 rfl (lv_at hl 0 rfl) ?_
    obtain ⟨hv, hw⟩ := hw
    refine m_iald E hM (isO_at hq3.1 10 rfl).2 hv dX11_worth_68 ?_
    refine W.widen (k := 17) (n := 6542) (Nat.le_of_ble_eq_true rfl) (Nat.le_of_ble_eq_true rfl) ?_
    exact m_retix hx hb hr hlk hx0 hM hS ⟨_, _, rfl, hw⟩ dX11_worth_69
  · have hw := hw.2 cq
    refine lv_aload hx hb dX11_worth_54 (lv_at hl 2 rfl) ?_
    refine m_ci (m_runV E hM hS cs_X11_336 hq3.1.1 (by decide) rfl rfl (c_X2_mostTallied hq3 hw) rfl rfl ⟨Nat.le_of_ble_eq_true rfl, Nat.le_of_ble_eq_true rfl⟩ rfl hl.1 rfl (Nat.le_of_ble_eq_true rfl) dX11_worth_56 ⟨Nat.le_of_ble_eq_true rfl, Nat.le_of_ble_eq_true rfl⟩) hS (fun r6 u H locs hp hM hS => ?_)
    obtain ⟨rfl, hw⟩ := hp
    refine lv_goto (tgt := 69) hx hb dX11_worth_59 (by decide) ?_
    refine W.widen (k := 17) (n := 6542) (Nat.le_of_ble_eq_true rfl) (Nat.le_of_ble_eq_true rfl) ?_
    exact m_retix hx hb hr hlk hx0 hM hS ⟨_, _, rfl, hw⟩ dX11_worth_69
def w_X11_worth (I : mI) (a1 : Int32) (a2 : Int32) (a3 : Int32) (post : Int32 → mI → Prop) : Prop := w_X11_eveningAt I a1 (fun r1 I2 => (r1 = none → post (-2) I2) ∧ (∀ q3 : Nat, r1 = some q3 → (a3 < 1 → post (-2) I2) ∧ (¬ a3 < 1 → (9 < a3 → post (-2) I2) ∧ (¬ 9 < a3 → (a2 = (-1) → (w_X11_worth_43 a1 a2 a3 post) I2 q3) ∧ (¬ a2 = (-1) → w_X3_hasStep I2 (hE q3) a2 (fun b4 => (b4 = true → (w_X11_worth_43 a1 a2 a3 post) I2 q3) ∧ (b4 = false → post (-2) I2)))))))
set_option maxRecDepth 100000 in
set_option maxHeartbeats 4000000 in
theorem c_X11_worth {l : Launch} {D : va_G} {cA : Nat → ClassId} {Z : mZ} {bs : Ad} {n : Nat} {K : mK} {R : mR} {I : mI} {L : mL} {a1 : Int32} {a2 : Int32} {a3 : Int32} {post : Int32 → mI → Prop} (ho : isX11 K R ) (hw : w_X11_worth I a1 a2 a3 post) : Met l yX11_worth (.code yX11_worth cX11_worth 5 (some .int) :: gw) ({ frames := 5, cells := 17, slots := 6542, locals := 132 } : Room) (PreM D cA Z bs (n, K, R, I, L) [.ref (ad bs 0), .int a1, .int a2, .int a3]) (QIX D cA bs K R (fun r u => ∃ K' I', u = (n, K', R, I', L) ∧ post r I')) 17 6542 (Ab bs) := by
  refine m_met (by decide) (Nat.le_of_ble_eq_true rfl) (fun p e s m below meth c ls E hr hlk hM hS hl => ?_)
  have E : Ev p s m _ c cX11_worth 5 RX11 D cA Z bs := E
  have hl : lv_has ls 5 [(0, .ref (ad bs 0)), (1, .int a1), (2, .int a2), (3, .int a3)] := hl
  have hx := E.1.1
  have hb := E.1.2.1
  generalize hHe : s.heap = H at hM ⊢
  have hS : va_S (Ab bs) s.heap H [] := by rw [← hHe]; exact va_S.rf
  clear hHe
  have hx0 := EX_rf bs K R
  refine lv_aload_n hx hb dX11_worth_0 rfl (lv_at hl 0 rfl) ?_
  refine lv_iload_n hx hb dX11_worth_1 rfl (lv_at hl 1 rfl) ?_
  refine m_cox (m_runV E hM hS cs_X11_199 ho.1 (by decide) rfl rfl (c_X11_eveningAt ho hw) rfl rfl ⟨Nat.le_of_ble_eq_true rfl, Nat.le_of_ble_eq_true rfl⟩ rfl hl.1 rfl (Nat.le_of_ble_eq_true rfl) dX11_worth_2 ⟨Nat.le_of_ble_eq_true rfl, Nat.le_of_ble_eq_true rfl⟩) hS (fun r1 bs u H locs hx1 hp hM hS => ?_)
  obtain ⟨K, I2, rfl, hw, hqr1⟩ := hp
  have hx1 : EX _ _ R bs K := hx1
  have e0 := hx1.2.1 0 (by unfold lve; rw [ho.1]; decide)
  have E := EX_E hx1 E
  have hl : lv_has ls 5 [(2, .int a2), (3, .int a3)] := by exact lv_sub hl [2, 3] rfl
  have ho := hx1.2.2.2 ho
  have hx0 := EX_tr hx0 hx1
  clear e0 hx1
  rcases r1 with _ | q3
  · have hw := hw.1 rfl
    refine lv_astoreN (lv' := [(4, .null), (2, .int a2), (3, .int a3)]) hx hb dX11_worth_5 hl (by decide) rfl (fun ls hl => ?_)
    refine lv_aloadN hx hb dX11_worth_7 (lv_at hl 0 rfl) ?_
    refine lv_ifnullN (tgt := 40) hx hb dX11_worth_9 (by decide) ?_
    refine lv_bipush (v := (-2)) hx hb dX11_worth_40 (by decide) ?_
    refine W.widen (k := 17) (n := 6542) (Nat.le_of_ble_eq_true rfl) (Nat.le_of_ble_eq_true rfl) ?_
    exact m_retix hx hb hr hlk hx0 hM hS ⟨_, _, rfl, hw⟩ dX11_worth_42
  · have hq3 := hqr1 _ rfl
    have hw := hw.2 q3 rfl
    refine lv_astore (lv' := [(4, .ref (ad bs q3)), (2, .int a2), (3, .int a3)]) hx hb dX11_worth_5 hl (by decide) rfl (fun ls hl => ?_)
    refine lv_aload hx hb dX11_worth_7 (lv_at hl 0 rfl) ?_
    refine lv_ifnull hx hb dX11_worth_9 ?_
    refine lv_iload_n hx hb dX11_worth_12 rfl (lv_at hl 2 rfl) ?_
    refine lv_iconst (v := 1) hx hb dX11_worth_13 (by decide) ?_
    refine lv_icmp_lt (tgt := 40) hx hb dX11_worth_14 (by decide) (fun cq => ?_) (fun cq => ?_)
    · have hw := hw.1 cq
      refine lv_bipush (v := (-2)) hx hb dX11_worth_40 (by decide) ?_
      refine W.widen (k := 17) (n := 6542) (Nat.le_of_ble_eq_true rfl) (Nat.le_of_ble_eq_true rfl) ?_
      exact m_retix hx hb hr hlk hx0 hM hS ⟨_, _, rfl, hw⟩ dX11_worth_42
    · have hw := hw.2 cq
      refine lv_iload_n hx hb dX11_worth_17 rfl (lv_at hl 2 rfl) ?_
      refine lv_bipush (v := 9) hx hb dX11_worth_18 (by decide) ?_
      refine lv_icmp_gt (tgt := 40) hx hb dX11_worth_20 (by decide) (fun cq => ?_) (fun cq => ?_)
      · have hw := hw.1 cq
        refine lv_bipush (v := (-2)) hx hb dX11_worth_40 (by decide) ?_
        refine W.widen (k := 17) (n := 6542) (Nat.le_of_ble_eq_true rfl) (Nat.le_of_ble_eq_true rfl) ?_
        exact m_retix hx hb hr hlk hx0 hM hS ⟨_, _, rfl, hw⟩ dX11_worth_42
      · have hw := hw.2 cq
        refine lv_iload_n hx hb dX11_worth_23 rfl (lv_at hl 1 rfl) ?_
        refine lv_iconst (v := (-1)) hx hb dX11_worth_24 (by decide) ?_
        refine lv_icmp_eq (tgt := 43) hx hb dX11_worth_25 (by decide) (fun cq => ?_) (fun cq => ?_)
        · have hw := hw.1 cq
          refine W.widen (k := 17) (n := 6542) (Nat.le_of_ble_eq_true rfl) (Nat.le_of_ble_eq_true rfl) ?_
          exact s_X11_worth_43 E hr hlk hx0 ho hq3 hw hM hS (lv_sub hl [1, 2, 0] rfl)
        · have hw := hw.2 cq
          refine lv_aload hx hb dX11_worth_28 (lv_at hl 0 rfl) ?_
          refine m_getr E hM fs_X11_203 hq3.1.1 hq3.2.1 dX11_worth_30 ?_
          refine lv_iload_n hx hb dX11_worth_33 rfl (lv_at hl 1 rfl) ?_
          refine m_ci (m_runV E hM hS cs_X11_320 hq3.2.2.1 (by decide) rfl rfl (c_X3_hasStep hq3.2.2 hw) rfl rfl ⟨Nat.le_of_ble_eq_true rfl, Nat.le_of_ble_eq_true rfl⟩ rfl hl.1 rfl (Nat.le_of_ble_eq_true rfl) dX11_worth_34 ⟨Nat.le_of_ble_eq_true rfl, Nat.le_of_ble_eq_true rfl⟩) hS (fun r9 u H locs hp hM hS => ?_)
          obtain ⟨b4, rfl, rfl, hw⟩ := hp
          refine lv_if_ne (tgt := 43) hx hb dX11_worth_37 (by decide) (fun cq => ?_) (fun cq => ?_)
          · have hw := hw.1 (bI_t cq)
            refine W.widen (k := 17) (n := 6542) (Nat.le_of_ble_eq_true rfl) (Nat.le_of_ble_eq_true rfl) ?_
            exact s_X11_worth_43 E hr hlk hx0 ho hq3 hw hM hS (lv_sub hl [1, 2, 0] rfl)
          · have hw := hw.2 (bI_f cq)
            refine lv_bipush (v := (-2)) hx hb dX11_worth_40 (by decide) ?_
            refine W.widen (k := 17) (n := 6542) (Nat.le_of_ble_eq_true rfl) (Nat.le_of_ble_eq_true rfl) ?_
            exact m_retix hx hb hr hlk hx0 hM hS ⟨_, _, rfl, hw⟩ dX11_worth_42
theorem dX11_readingAt_0 : decode cX11_readingAt 0 = .ok (.iload_n 1, 1) := by decide +kernel
theorem dX11_readingAt_1 : decode cX11_readingAt 1 = .ok (.ifCond .lt 26, 3) := by decide +kernel
theorem dX11_readingAt_4 : decode cX11_readingAt 4 = .ok (.iload_n 1, 1) := by decide +kernel
theorem dX11_readingAt_5 : decode cX11_readingAt 5 = .ok (.aload_n 0, 1) := by decide +kernel
theorem dX11_readingAt_6 : decode cX11_readingAt 6 = .ok (.getfield 12, 3) := by decide +kernel
theorem dX11_readingAt_9 : decode cX11_readingAt 9 = .ok (.getfield 150, 3) := by decide +kernel
theorem dX11_readingAt_12 : decode cX11_readingAt 12 = .ok (.if_icmp .ge 15, 3) := by decide +kernel
theorem dX11_readingAt_15 : decode cX11_readingAt 15 = .ok (.aload_n 0, 1) := by decide +kernel
theorem dX11_readingAt_16 : decode cX11_readingAt 16 = .ok (.getfield 12, 3) := by decide +kernel
theorem dX11_readingAt_19 : decode cX11_readingAt 19 = .ok (.getfield 137, 3) := by decide +kernel
theorem dX11_readingAt_22 : decode cX11_readingAt 22 = .ok (.iload_n 1, 1) := by decide +kernel
theorem dX11_readingAt_23 : decode cX11_readingAt 23 = .ok (.aaload, 1) := by decide +kernel
theorem dX11_readingAt_24 : decode cX11_readingAt 24 = .ok (.goto 4, 3) := by decide +kernel
theorem dX11_readingAt_27 : decode cX11_readingAt 27 = .ok (.aconst_null, 1) := by decide +kernel
theorem dX11_readingAt_28 : decode cX11_readingAt 28 = .ok (.areturn, 1) := by decide +kernel
def w_X11_readingAt (I : mI) (a1 : Int32) (post : Option Nat → Prop) : Prop := (a1 < 0 → post none) ∧ (¬ a1 < 0 → ((I 1 5) ≤ a1 → post none) ∧ (¬ (I 1 5) ≤ a1 → vp_in a1 2 ∧ post (some (1 + 18 + 19 * a1.toNatClampNeg))))
set_option maxRecDepth 100000 in
set_option maxHeartbeats 4000000 in
theorem c_X11_readingAt {l : Launch} {D : va_G} {cA : Nat → ClassId} {Z : mZ} {bs : Ad} {n : Nat} {K : mK} {R : mR} {I : mI} {L : mL} {a1 : Int32} {post : Option Nat → Prop} (ho : isX11 K R ) (hw : w_X11_readingAt I a1 post) : Met l yX11_readingAt (.code yX11_readingAt cX11_readingAt 2 (some (.object "EchoStair$Reading")) :: gw) ({ frames := 0, cells := 0, slots := 0, locals := 0 } : Room) (PreM D cA Z bs (n, K, R, I, L) [.ref (ad bs 0), .int a1]) (QO D cA bs (fun r u => u = (n, K, R, I, L) ∧ post r ∧ ∀ a, r = some a → isX6 K R a)) 0 0 (Ab bs) := by
  refine m_met (by decide) (Nat.le_of_ble_eq_true rfl) (fun p e s m below meth c ls E hr hlk hM hS hl => ?_)
  have E : Ev p s m _ c cX11_readingAt 2 RX11 D cA Z bs := E
  have hl : lv_has ls 2 [(0, .ref (ad bs 0)), (1, .int a1)] := hl
  have hx := E.1.1
  have hb := E.1.2.1
  generalize hHe : s.heap = H at hM ⊢
  have hS : va_S (Ab bs) s.heap H [] := by rw [← hHe]; exact va_S.rf
  clear hHe
  refine lv_iload_n hx hb dX11_readingAt_0 rfl (lv_at hl 1 rfl) ?_
  refine lv_if_lt (tgt := 27) hx hb dX11_readingAt_1 (by decide) (fun cq => ?_) (fun cq => ?_)
  · have hw := hw.1 cq
    refine lv_null hx hb dX11_readingAt_27 ?_
    exact m_reto hx hb hr (Or.inl ⟨_, rfl⟩) hlk none rfl hM hS ⟨rfl, hw, fun _ h => by cases h⟩ dX11_readingAt_28
  · have hw := hw.2 cq
    refine lv_iload_n hx hb dX11_readingAt_4 rfl (lv_at hl 1 rfl) ?_
    refine lv_aload_n hx hb dX11_readingAt_5 rfl (lv_at hl 0 rfl) ?_
    refine m_getr E hM fs_X11_12 ho.1 ho.2.1.1 dX11_readingAt_6 ?_
    refine m_geti E hM fs_X11_150 ho.2.1.2.1.1 dX11_readingAt_9 ?_
    refine lv_icmp_ge (tgt := 27) hx hb dX11_readingAt_12 (by decide) (fun cq => ?_) (fun cq => ?_)
    · have hw := hw.1 cq
      refine lv_null hx hb dX11_readingAt_27 ?_
      exact m_reto hx hb hr (Or.inl ⟨_, rfl⟩) hlk none rfl hM hS ⟨rfl, hw, fun _ h => by cases h⟩ dX11_readingAt_28
    · have hw := hw.2 cq
      refine lv_aload_n hx hb dX11_readingAt_15 rfl (lv_at hl 0 rfl) ?_
      refine m_getr E hM fs_X11_12 ho.1 ho.2.1.1 dX11_readingAt_16 ?_
      refine m_getr E hM fs_X11_137 ho.2.1.2.1.1 (isO_at ho.2.1.2.1 2 rfl).1 dX11_readingAt_19 ?_
      refine lv_iload_n hx hb dX11_readingAt_22 rfl (lv_at hl 1 rfl) ?_
      obtain ⟨hv, hw⟩ := hw
      have hs1 := ((ho.2.1.2.2 _ (vp_in_lt hv)).2).2
      refine m_aaldS E hM (isO_at ho.2.1.2.1 2 rfl).2 (by simp) hv ((ho.2.1.2.2 _ (vp_in_lt hv)).2).1 dX11_readingAt_23 ?_
      refine lv_goto (tgt := 28) hx hb dX11_readingAt_24 (by decide) ?_
      exact m_reto hx hb hr (Or.inl ⟨_, rfl⟩) hlk (some (1 + 18 + 19 * a1.toNatClampNeg)) rfl hM hS ⟨rfl, hw, fun _ h => by cases h; exact hs1⟩ dX11_readingAt_28
