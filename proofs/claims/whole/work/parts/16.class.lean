theorem dX11_sound_0 : decode cX11_sound 0 = .ok (.aload_n 0, 1) := by decide +kernel
theorem dX11_sound_1 : decode cX11_sound 1 = .ok (.iload_n 1, 1) := by decide +kernel
theorem dX11_sound_2 : decode cX11_sound 2 = .ok (.invokevirtual 342, 3) := by decide +kernel
theorem dX11_sound_5 : decode cX11_sound 5 = .ok (.astore 4, 2) := by decide +kernel
theorem dX11_sound_7 : decode cX11_sound 7 = .ok (.aload 4, 2) := by decide +kernel
theorem dX11_sound_9 : decode cX11_sound 9 = .ok (.ifnonnull 6, 3) := by decide +kernel
theorem dX11_sound_12 : decode cX11_sound 12 = .ok (.bipush (-2), 2) := by decide +kernel
theorem dX11_sound_14 : decode cX11_sound 14 = .ok (.ireturn, 1) := by decide +kernel
theorem dX11_sound_15 : decode cX11_sound 15 = .ok (.iload_n 2, 1) := by decide +kernel
theorem dX11_sound_16 : decode cX11_sound 16 = .ok (.iconst (-1), 1) := by decide +kernel
theorem dX11_sound_17 : decode cX11_sound 17 = .ok (.if_icmp .ne 18, 3) := by decide +kernel
theorem dX11_sound_20 : decode cX11_sound 20 = .ok (.iload_n 3, 1) := by decide +kernel
theorem dX11_sound_21 : decode cX11_sound 21 = .ok (.ifCond .ne 11, 3) := by decide +kernel
theorem dX11_sound_24 : decode cX11_sound 24 = .ok (.aload 4, 2) := by decide +kernel
theorem dX11_sound_26 : decode cX11_sound 26 = .ok (.getfield 346, 3) := by decide +kernel
theorem dX11_sound_29 : decode cX11_sound 29 = .ok (.goto 5, 3) := by decide +kernel
theorem dX11_sound_32 : decode cX11_sound 32 = .ok (.bipush (-2), 2) := by decide +kernel
theorem dX11_sound_34 : decode cX11_sound 34 = .ok (.ireturn, 1) := by decide +kernel
theorem dX11_sound_35 : decode cX11_sound 35 = .ok (.iload_n 3, 1) := by decide +kernel
theorem dX11_sound_36 : decode cX11_sound 36 = .ok (.tableswitch 100 0 3 #[32, 49, 66, 83], 32) := by decide +kernel
theorem dX11_sound_68 : decode cX11_sound 68 = .ok (.aload 4, 2) := by decide +kernel
theorem dX11_sound_70 : decode cX11_sound 70 = .ok (.getfield 349, 3) := by decide +kernel
theorem dX11_sound_73 : decode cX11_sound 73 = .ok (.iload_n 2, 1) := by decide +kernel
theorem dX11_sound_74 : decode cX11_sound 74 = .ok (.aload 4, 2) := by decide +kernel
theorem dX11_sound_76 : decode cX11_sound 76 = .ok (.getfield 346, 3) := by decide +kernel
theorem dX11_sound_79 : decode cX11_sound 79 = .ok (.bipush (-2), 2) := by decide +kernel
theorem dX11_sound_81 : decode cX11_sound 81 = .ok (.invokestatic 164, 3) := by decide +kernel
theorem dX11_sound_84 : decode cX11_sound 84 = .ok (.ireturn, 1) := by decide +kernel
theorem dX11_sound_85 : decode cX11_sound 85 = .ok (.aload 4, 2) := by decide +kernel
theorem dX11_sound_87 : decode cX11_sound 87 = .ok (.getfield 352, 3) := by decide +kernel
theorem dX11_sound_90 : decode cX11_sound 90 = .ok (.iload_n 2, 1) := by decide +kernel
theorem dX11_sound_91 : decode cX11_sound 91 = .ok (.aload 4, 2) := by decide +kernel
theorem dX11_sound_93 : decode cX11_sound 93 = .ok (.getfield 346, 3) := by decide +kernel
theorem dX11_sound_96 : decode cX11_sound 96 = .ok (.bipush (-2), 2) := by decide +kernel
theorem dX11_sound_98 : decode cX11_sound 98 = .ok (.invokestatic 164, 3) := by decide +kernel
theorem dX11_sound_101 : decode cX11_sound 101 = .ok (.ireturn, 1) := by decide +kernel
theorem dX11_sound_102 : decode cX11_sound 102 = .ok (.aload 4, 2) := by decide +kernel
theorem dX11_sound_104 : decode cX11_sound 104 = .ok (.getfield 353, 3) := by decide +kernel
theorem dX11_sound_107 : decode cX11_sound 107 = .ok (.iload_n 2, 1) := by decide +kernel
theorem dX11_sound_108 : decode cX11_sound 108 = .ok (.aload 4, 2) := by decide +kernel
theorem dX11_sound_110 : decode cX11_sound 110 = .ok (.getfield 346, 3) := by decide +kernel
theorem dX11_sound_113 : decode cX11_sound 113 = .ok (.bipush (-2), 2) := by decide +kernel
theorem dX11_sound_115 : decode cX11_sound 115 = .ok (.invokestatic 164, 3) := by decide +kernel
theorem dX11_sound_118 : decode cX11_sound 118 = .ok (.ireturn, 1) := by decide +kernel
theorem dX11_sound_119 : decode cX11_sound 119 = .ok (.aload 4, 2) := by decide +kernel
theorem dX11_sound_121 : decode cX11_sound 121 = .ok (.getfield 354, 3) := by decide +kernel
theorem dX11_sound_124 : decode cX11_sound 124 = .ok (.iload_n 2, 1) := by decide +kernel
theorem dX11_sound_125 : decode cX11_sound 125 = .ok (.aload 4, 2) := by decide +kernel
theorem dX11_sound_127 : decode cX11_sound 127 = .ok (.getfield 346, 3) := by decide +kernel
theorem dX11_sound_130 : decode cX11_sound 130 = .ok (.bipush (-2), 2) := by decide +kernel
theorem dX11_sound_132 : decode cX11_sound 132 = .ok (.invokestatic 164, 3) := by decide +kernel
theorem dX11_sound_135 : decode cX11_sound 135 = .ok (.ireturn, 1) := by decide +kernel
theorem dX11_sound_136 : decode cX11_sound 136 = .ok (.bipush (-2), 2) := by decide +kernel
theorem dX11_sound_138 : decode cX11_sound 138 = .ok (.ireturn, 1) := by decide +kernel
def w_X11_sound (I : mI) (a1 : Int32) (a2 : Int32) (a3 : Int32) (post : Int32 → Prop) : Prop := w_X11_readingAt I a1 (fun r1 => (r1 = none → post (-2)) ∧ (∀ q2 : Nat, r1 = some q2 → (¬ a2 = (-1) → (a3 = 0 → w_X11_pick I (q2 + 1) 10 a2 (I q2 0) (-2) (fun r3 => post r3)) ∧ (a3 = 1 → w_X11_pick I (q2 + 2) 10 a2 (I q2 0) (-2) (fun r4 => post r4)) ∧ (a3 = 2 → w_X11_pick I (q2 + 3) 10 a2 (I q2 0) (-2) (fun r5 => post r5)) ∧ (a3 = 3 → w_X11_pick I (q2 + 4) 10 a2 (I q2 0) (-2) (fun r6 => post r6)) ∧ (¬ a3 = 0 → ¬ a3 = 1 → ¬ a3 = 2 → ¬ a3 = 3 → post (-2))) ∧ (a2 = (-1) → (¬ a3 = 0 → post (-2)) ∧ (a3 = 0 → post (I q2 0)))))
set_option maxRecDepth 100000 in
set_option maxHeartbeats 4000000 in
theorem c_X11_sound {l : Launch} {D : va_G} {cA : Nat → ClassId} {Z : mZ} {bs : Ad} {n : Nat} {K : mK} {R : mR} {I : mI} {L : mL} {a1 : Int32} {a2 : Int32} {a3 : Int32} {post : Int32 → Prop} (ho : isX11 K R ) (hw : w_X11_sound I a1 a2 a3 post) : Met l yX11_sound (.code yX11_sound cX11_sound 5 (some .int) :: gw) ({ frames := 1, cells := 0, slots := 0, locals := 23 } : Room) (PreM D cA Z bs (n, K, R, I, L) [.ref (ad bs 0), .int a1, .int a2, .int a3]) (QI D cA bs (fun r u => u = (n, K, R, I, L) ∧ post r)) 0 0 (Ab bs) := by
  refine m_met (by decide) (Nat.le_of_ble_eq_true rfl) (fun p e s m below meth c ls E hr hlk hM hS hl => ?_)
  have E : Ev p s m _ c cX11_sound 5 RX11 D cA Z bs := E
  have hl : lv_has ls 5 [(0, .ref (ad bs 0)), (1, .int a1), (2, .int a2), (3, .int a3)] := hl
  have hx := E.1.1
  have hb := E.1.2.1
  generalize hHe : s.heap = H at hM ⊢
  have hS : va_S (Ab bs) s.heap H [] := by rw [← hHe]; exact va_S.rf
  clear hHe
  refine lv_aload_n hx hb dX11_sound_0 rfl (lv_at hl 0 rfl) ?_
  refine lv_iload_n hx hb dX11_sound_1 rfl (lv_at hl 1 rfl) ?_
  refine m_co (m_runV E hM hS cs_X11_342 ho.1 (by decide) rfl rfl (c_X11_readingAt ho hw) rfl rfl ⟨Nat.le_of_ble_eq_true rfl, Nat.le_of_ble_eq_true rfl⟩ rfl hl.1 rfl (Nat.le_of_ble_eq_true rfl) dX11_sound_2 ⟨Nat.le_of_ble_eq_true rfl, Nat.le_of_ble_eq_true rfl⟩) hS (fun r1 u H locs hp hM hS => ?_)
  obtain ⟨rfl, hw, hqr1⟩ := hp
  rcases r1 with _ | q2
  · have hw := hw.1 rfl
    refine lv_astoreN (lv' := [(4, .null), (0, .ref (ad bs 0)), (1, .int a1), (2, .int a2), (3, .int a3)]) hx hb dX11_sound_5 hl (by decide) rfl (fun ls hl => ?_)
    refine lv_aloadN hx hb dX11_sound_7 (lv_at hl 0 rfl) ?_
    refine lv_ifnonnullN hx hb dX11_sound_9 ?_
    refine lv_bipush (v := (-2)) hx hb dX11_sound_12 (by decide) ?_
    exact m_reti hx hb hr hlk hM hS ⟨rfl, hw⟩ dX11_sound_14
  · have hq2 := hqr1 _ rfl
    have hw := hw.2 q2 rfl
    refine lv_astore (lv' := [(4, .ref (ad bs q2)), (0, .ref (ad bs 0)), (1, .int a1), (2, .int a2), (3, .int a3)]) hx hb dX11_sound_5 hl (by decide) rfl (fun ls hl => ?_)
    refine lv_aload hx hb dX11_sound_7 (lv_at hl 0 rfl) ?_
    refine lv_ifnonnull (tgt := 15) hx hb dX11_sound_9 (by decide) ?_
    refine lv_iload_n hx hb dX11_sound_15 rfl (lv_at hl 3 rfl) ?_
    refine lv_iconst (v := (-1)) hx hb dX11_sound_16 (by decide) ?_
    refine lv_icmp_ne (tgt := 35) hx hb dX11_sound_17 (by decide) (fun cq => ?_) (fun cq => ?_)
    · have hw := hw.1 cq
      refine lv_iload_n hx hb dX11_sound_35 rfl (lv_at hl 4 rfl) ?_
      by_cases cq0 : a3 = 0
      · have hw := hw.1 cq0
        refine lv_tableIn (tgt := 68) hx hb dX11_sound_36 (by rw [cq0]; decide) (by rw [cq0]; decide) (by rw [cq0]; rfl) (by decide) ?_
        refine lv_aload hx hb dX11_sound_68 (lv_at hl 0 rfl) ?_
        refine m_getr E hM fs_X11_349 hq2.1 (isO_at hq2 0 rfl).1 dX11_sound_70 ?_
        refine lv_iload_n hx hb dX11_sound_73 rfl (lv_at hl 3 rfl) ?_
        refine lv_aload hx hb dX11_sound_74 (lv_at hl 0 rfl) ?_
        refine m_geti E hM fs_X11_346 hq2.1 dX11_sound_76 ?_
        refine lv_bipush (v := (-2)) hx hb dX11_sound_79 (by decide) ?_
        refine m_ci (m_runS E hM hS cs_X11_164 (c_X11_pick ((isO_at hq2 0 rfl).2) hw) rfl rfl ⟨Nat.le_of_ble_eq_true rfl, Nat.le_of_ble_eq_true rfl⟩ rfl hl.1 rfl (Nat.le_of_ble_eq_true rfl) dX11_sound_81 ⟨Nat.le_of_ble_eq_true rfl, Nat.le_of_ble_eq_true rfl⟩) hS (fun r3 u H locs hp hM hS => ?_)
        obtain ⟨rfl, hw⟩ := hp
        exact m_reti hx hb hr hlk hM hS ⟨rfl, hw⟩ dX11_sound_84
      by_cases cq1 : a3 = 1
      · have hw := hw.2.1 cq1
        refine lv_tableIn (tgt := 85) hx hb dX11_sound_36 (by rw [cq1]; decide) (by rw [cq1]; decide) (by rw [cq1]; rfl) (by decide) ?_
        refine lv_aload hx hb dX11_sound_85 (lv_at hl 0 rfl) ?_
        refine m_getr E hM fs_X11_352 hq2.1 (isO_at hq2 1 rfl).1 dX11_sound_87 ?_
        refine lv_iload_n hx hb dX11_sound_90 rfl (lv_at hl 3 rfl) ?_
        refine lv_aload hx hb dX11_sound_91 (lv_at hl 0 rfl) ?_
        refine m_geti E hM fs_X11_346 hq2.1 dX11_sound_93 ?_
        refine lv_bipush (v := (-2)) hx hb dX11_sound_96 (by decide) ?_
        refine m_ci (m_runS E hM hS cs_X11_164 (c_X11_pick ((isO_at hq2 1 rfl).2) hw) rfl rfl ⟨Nat.le_of_ble_eq_true rfl, Nat.le_of_ble_eq_true rfl⟩ rfl hl.1 rfl (Nat.le_of_ble_eq_true rfl) dX11_sound_98 ⟨Nat.le_of_ble_eq_true rfl, Nat.le_of_ble_eq_true rfl⟩) hS (fun r4 u H locs hp hM hS => ?_)
        obtain ⟨rfl, hw⟩ := hp
        exact m_reti hx hb hr hlk hM hS ⟨rfl, hw⟩ dX11_sound_101
      by_cases cq2 : a3 = 2
      · have hw := hw.2.2.1 cq2
        refine lv_tableIn (tgt := 102) hx hb dX11_sound_36 (by rw [cq2]; decide) (by rw [cq2]; decide) (by rw [cq2]; rfl) (by decide) ?_
        refine lv_aload hx hb dX11_sound_102 (lv_at hl 0 rfl) ?_
        refine m_getr E hM fs_X11_353 hq2.1 (isO_at hq2 2 rfl).1 dX11_sound_104 ?_
        refine lv_iload_n hx hb dX11_sound_107 rfl (lv_at hl 3 rfl) ?_
        refine lv_aload hx hb dX11_sound_108 (lv_at hl 0 rfl) ?_
        refine m_geti E hM fs_X11_346 hq2.1 dX11_sound_110 ?_
        refine lv_bipush (v := (-2)) hx hb dX11_sound_113 (by decide) ?_
        refine m_ci (m_runS E hM hS cs_X11_164 (c_X11_pick ((isO_at hq2 2 rfl).2) hw) rfl rfl ⟨Nat.le_of_ble_eq_true rfl, Nat.le_of_ble_eq_true rfl⟩ rfl hl.1 rfl (Nat.le_of_ble_eq_true rfl) dX11_sound_115 ⟨Nat.le_of_ble_eq_true rfl, Nat.le_of_ble_eq_true rfl⟩) hS (fun r5 u H locs hp hM hS => ?_)
        obtain ⟨rfl, hw⟩ := hp
        exact m_reti hx hb hr hlk hM hS ⟨rfl, hw⟩ dX11_sound_118
      by_cases cq3 : a3 = 3
      · have hw := hw.2.2.2.1 cq3
        refine lv_tableIn (tgt := 119) hx hb dX11_sound_36 (by rw [cq3]; decide) (by rw [cq3]; decide) (by rw [cq3]; rfl) (by decide) ?_
        refine lv_aload hx hb dX11_sound_119 (lv_at hl 0 rfl) ?_
        refine m_getr E hM fs_X11_354 hq2.1 (isO_at hq2 3 rfl).1 dX11_sound_121 ?_
        refine lv_iload_n hx hb dX11_sound_124 rfl (lv_at hl 3 rfl) ?_
        refine lv_aload hx hb dX11_sound_125 (lv_at hl 0 rfl) ?_
        refine m_geti E hM fs_X11_346 hq2.1 dX11_sound_127 ?_
        refine lv_bipush (v := (-2)) hx hb dX11_sound_130 (by decide) ?_
        refine m_ci (m_runS E hM hS cs_X11_164 (c_X11_pick ((isO_at hq2 3 rfl).2) hw) rfl rfl ⟨Nat.le_of_ble_eq_true rfl, Nat.le_of_ble_eq_true rfl⟩ rfl hl.1 rfl (Nat.le_of_ble_eq_true rfl) dX11_sound_132 ⟨Nat.le_of_ble_eq_true rfl, Nat.le_of_ble_eq_true rfl⟩) hS (fun r6 u H locs hp hM hS => ?_)
        obtain ⟨rfl, hw⟩ := hp
        exact m_reti hx hb hr hlk hM hS ⟨rfl, hw⟩ dX11_sound_135
      have hw := hw.2.2.2.2 cq0 cq1 cq2 cq3
      refine lv_tableOut (tgt := 136) hx hb dX11_sound_36 (by have hn0 := lv_neT cq0 (a := 0) (by decide); have hn1 := lv_neT cq1 (a := 1) (by decide); have hn2 := lv_neT cq2 (a := 2) (by decide); have hn3 := lv_neT cq3 (a := 3) (by decide); omega) (by decide) ?_
      refine lv_bipush (v := (-2)) hx hb dX11_sound_136 (by decide) ?_
      exact m_reti hx hb hr hlk hM hS ⟨rfl, hw⟩ dX11_sound_138
    · have hw := hw.2 cq
      refine lv_iload_n hx hb dX11_sound_20 rfl (lv_at hl 4 rfl) ?_
      refine lv_if_ne (tgt := 32) hx hb dX11_sound_21 (by decide) (fun cq => ?_) (fun cq => ?_)
      · have hw := hw.1 cq
        refine lv_bipush (v := (-2)) hx hb dX11_sound_32 (by decide) ?_
        exact m_reti hx hb hr hlk hM hS ⟨rfl, hw⟩ dX11_sound_34
      · have hw := hw.2 cq
        refine lv_aload hx hb dX11_sound_24 (lv_at hl 0 rfl) ?_
        refine m_geti E hM fs_X11_346 hq2.1 dX11_sound_26 ?_
        refine lv_goto (tgt := 34) hx hb dX11_sound_29 (by decide) ?_
        exact m_reti hx hb hr hlk hM hS ⟨rfl, hw⟩ dX11_sound_34
theorem dX11_makers_0 : decode cX11_makers 0 = .ok (.aload_n 0, 1) := by decide +kernel
theorem dX11_makers_1 : decode cX11_makers 1 = .ok (.iload_n 1, 1) := by decide +kernel
theorem dX11_makers_2 : decode cX11_makers 2 = .ok (.invokevirtual 153, 3) := by decide +kernel
theorem dX11_makers_5 : decode cX11_makers 5 = .ok (.astore 4, 2) := by decide +kernel
theorem dX11_makers_7 : decode cX11_makers 7 = .ok (.aload_n 0, 1) := by decide +kernel
theorem dX11_makers_8 : decode cX11_makers 8 = .ok (.iload_n 2, 1) := by decide +kernel
theorem dX11_makers_9 : decode cX11_makers 9 = .ok (.invokevirtual 342, 3) := by decide +kernel
theorem dX11_makers_12 : decode cX11_makers 12 = .ok (.astore 5, 2) := by decide +kernel
theorem dX11_makers_14 : decode cX11_makers 14 = .ok (.aload 4, 2) := by decide +kernel
theorem dX11_makers_16 : decode cX11_makers 16 = .ok (.ifnull 22, 3) := by decide +kernel
theorem dX11_makers_19 : decode cX11_makers 19 = .ok (.aload 5, 2) := by decide +kernel
theorem dX11_makers_21 : decode cX11_makers 21 = .ok (.ifnull 17, 3) := by decide +kernel
theorem dX11_makers_24 : decode cX11_makers 24 = .ok (.iload_n 3, 1) := by decide +kernel
theorem dX11_makers_25 : decode cX11_makers 25 = .ok (.iconst (-1), 1) := by decide +kernel
theorem dX11_makers_26 : decode cX11_makers 26 = .ok (.if_icmp .eq 15, 3) := by decide +kernel
theorem dX11_makers_29 : decode cX11_makers 29 = .ok (.aload 5, 2) := by decide +kernel
theorem dX11_makers_31 : decode cX11_makers 31 = .ok (.iload_n 3, 1) := by decide +kernel
theorem dX11_makers_32 : decode cX11_makers 32 = .ok (.invokevirtual 355, 3) := by decide +kernel
theorem dX11_makers_35 : decode cX11_makers 35 = .ok (.ifCond .ne 6, 3) := by decide +kernel
theorem dX11_makers_38 : decode cX11_makers 38 = .ok (.bipush (-2), 2) := by decide +kernel
theorem dX11_makers_40 : decode cX11_makers 40 = .ok (.ireturn, 1) := by decide +kernel
theorem dX11_makers_41 : decode cX11_makers 41 = .ok (.iload_n 3, 1) := by decide +kernel
theorem dX11_makers_42 : decode cX11_makers 42 = .ok (.iconst (-1), 1) := by decide +kernel
theorem dX11_makers_43 : decode cX11_makers 43 = .ok (.if_icmp .ne 13, 3) := by decide +kernel
theorem dX11_makers_46 : decode cX11_makers 46 = .ok (.aload 4, 2) := by decide +kernel
theorem dX11_makers_48 : decode cX11_makers 48 = .ok (.aload 5, 2) := by decide +kernel
theorem dX11_makers_50 : decode cX11_makers 50 = .ok (.invokestatic 358, 3) := by decide +kernel
theorem dX11_makers_53 : decode cX11_makers 53 = .ok (.goto 11, 3) := by decide +kernel
theorem dX11_makers_56 : decode cX11_makers 56 = .ok (.aload 4, 2) := by decide +kernel
theorem dX11_makers_58 : decode cX11_makers 58 = .ok (.aload 5, 2) := by decide +kernel
theorem dX11_makers_60 : decode cX11_makers 60 = .ok (.iload_n 3, 1) := by decide +kernel
theorem dX11_makers_61 : decode cX11_makers 61 = .ok (.invokestatic 362, 3) := by decide +kernel
theorem dX11_makers_64 : decode cX11_makers 64 = .ok (.ireturn, 1) := by decide +kernel
def w_X11_makers_41 (I : mI) (a1 : Int32) (a2 : Int32) (a3 : Int32) (post : Int32 → Prop) (q6 : Nat) (q4 : Nat) : Prop := (¬ a3 = (-1) → w_X10_makersOf I q4 q6 a3 (fun r8 => post r8)) ∧ (a3 = (-1) → w_X10_liesOf I q4 q6 (fun r9 => post r9))
set_option maxRecDepth 100000 in
set_option maxHeartbeats 4000000 in
theorem s_X11_makers_41 {p : Program} {l : Launch} {e : Env} {s : State} {m : MethodId} {args : Array Value} {below : List Frame} {meth : Method} {c : Code} {D : va_G} {cA : Nat → ClassId} {Z : mZ} {bs : Ad} {n : Nat} {K : mK} {R : mR} {I : mI} {L : mL} (E : Ev p s m args c cX11_makers 6 RX11 D cA Z bs) (hr : meth.sig.returnType = (some .int)) (hlk : meth.locks = false) {a1 : Int32} {a2 : Int32} {a3 : Int32} (ho : isX11 K R ) {post : Int32 → Prop} {q6 : Nat} {q4 : Nat} {H : Heap} {locs : List Loc} {ls : Array Slot} (hq4 : isX3 K R q4) (hq6 : isX6 K R q6) (hw : w_X11_makers_41 I a1 a2 a3 post q6 q4) (hM : mm D cA bs (n, K, R, I, L) H) (hS : va_S (Ab bs) s.heap H locs) (hl : lv_has ls 6 [(3, .int a3), (4, .ref (ad bs q4)), (5, .ref (ad bs q6))]) : W p l e ({ frames := 6, cells := 0, slots := 0, locals := 160 } : Room) s m args below meth c H locs 0 0 (MQ below (QI D cA bs (fun r u => u = (n, K, R, I, L) ∧ post r)) args s 0 0 (Ab bs)) (F0 m 41 ls []) := by
  have hx := E.1.1
  have hb := E.1.2.1
  refine lv_iload_n hx hb dX11_makers_41 rfl (lv_at hl 0 rfl) ?_
  refine lv_iconst (v := (-1)) hx hb dX11_makers_42 (by decide) ?_
  refine lv_icmp_ne (tgt := 56) hx hb dX11_makers_43 (by decide) (fun cq => ?_) (fun cq => ?_)
  · have hw := hw.1 cq
    refine lv_aload hx hb dX11_makers_56 (lv_at hl 1 rfl) ?_
    refine lv_aload hx hb dX11_makers_58 (lv_at hl 2 rfl) ?_
    refine lv_iload_n hx hb dX11_makers_60 rfl (lv_at hl 0 rfl) ?_
    refine m_ci (m_runS E hM hS cs_X11_362 (c_X10_makersOf hq4 hq6 hw) rfl rfl ⟨Nat.le_of_ble_eq_true rfl, Nat.le_of_ble_eq_true rfl⟩ rfl hl.1 rfl (Nat.le_of_ble_eq_true rfl) dX11_makers_61 ⟨Nat.le_of_ble_eq_true rfl, Nat.le_of_ble_eq_true rfl⟩) hS (fun r8 u H locs hp hM hS => ?_)
    obtain ⟨rfl, hw⟩ := hp
    exact m_reti hx hb hr hlk hM hS ⟨rfl, hw⟩ dX11_makers_64
  · have hw := hw.2 cq
    refine lv_aload hx hb dX11_makers_46 (lv_at hl 1 rfl) ?_
    refine lv_aload hx hb dX11_makers_48 (lv_at hl 2 rfl) ?_
    refine m_ci (m_runS E hM hS cs_X11_358 (c_X10_liesOf hq4 hq6 hw) rfl rfl ⟨Nat.le_of_ble_eq_true rfl, Nat.le_of_ble_eq_true rfl⟩ rfl hl.1 rfl (Nat.le_of_ble_eq_true rfl) dX11_makers_50 ⟨Nat.le_of_ble_eq_true rfl, Nat.le_of_ble_eq_true rfl⟩) hS (fun r9 u H locs hp hM hS => ?_)
    obtain ⟨rfl, hw⟩ := hp
    refine lv_goto (tgt := 64) hx hb dX11_makers_53 (by decide) ?_
    exact m_reti hx hb hr hlk hM hS ⟨rfl, hw⟩ dX11_makers_64
def w_X11_makers (I : mI) (a1 : Int32) (a2 : Int32) (a3 : Int32) (post : Int32 → Prop) : Prop := w_X11_houseAt I a1 (fun r1 => (r1 = none → w_X11_readingAt I a2 (fun r2 => (r2 = none → post (-2)) ∧ (∀ q3 : Nat, r2 = some q3 → post (-2)))) ∧ (∀ q4 : Nat, r1 = some q4 → w_X11_readingAt I a2 (fun r5 => (r5 = none → post (-2)) ∧ (∀ q6 : Nat, r5 = some q6 → (a3 = (-1) → (w_X11_makers_41 I a1 a2 a3 post) q6 q4) ∧ (¬ a3 = (-1) → w_X6_hasSound I q6 a3 (fun b7 => (b7 = true → (w_X11_makers_41 I a1 a2 a3 post) q6 q4) ∧ (b7 = false → post (-2))))))))
set_option maxRecDepth 100000 in
set_option maxHeartbeats 4000000 in
theorem c_X11_makers {l : Launch} {D : va_G} {cA : Nat → ClassId} {Z : mZ} {bs : Ad} {n : Nat} {K : mK} {R : mR} {I : mI} {L : mL} {a1 : Int32} {a2 : Int32} {a3 : Int32} {post : Int32 → Prop} (ho : isX11 K R ) (hw : w_X11_makers I a1 a2 a3 post) : Met l yX11_makers (.code yX11_makers cX11_makers 6 (some .int) :: gw) ({ frames := 6, cells := 0, slots := 0, locals := 160 } : Room) (PreM D cA Z bs (n, K, R, I, L) [.ref (ad bs 0), .int a1, .int a2, .int a3]) (QI D cA bs (fun r u => u = (n, K, R, I, L) ∧ post r)) 0 0 (Ab bs) := by
  refine m_met (by decide) (Nat.le_of_ble_eq_true rfl) (fun p e s m below meth c ls E hr hlk hM hS hl => ?_)
  have E : Ev p s m _ c cX11_makers 6 RX11 D cA Z bs := E
  have hl : lv_has ls 6 [(0, .ref (ad bs 0)), (1, .int a1), (2, .int a2), (3, .int a3)] := hl
  have hx := E.1.1
  have hb := E.1.2.1
  generalize hHe : s.heap = H at hM ⊢
  have hS : va_S (Ab bs) s.heap H [] := by rw [← hHe]; exact va_S.rf
  clear hHe
  refine lv_aload_n hx hb dX11_makers_0 rfl (lv_at hl 0 rfl) ?_
  refine lv_iload_n hx hb dX11_makers_1 rfl (lv_at hl 1 rfl) ?_
  refine m_co (m_runV E hM hS cs_X11_153 ho.1 (by decide) rfl rfl (c_X11_houseAt ho hw) rfl rfl ⟨Nat.le_of_ble_eq_true rfl, Nat.le_of_ble_eq_true rfl⟩ rfl hl.1 rfl (Nat.le_of_ble_eq_true rfl) dX11_makers_2 ⟨Nat.le_of_ble_eq_true rfl, Nat.le_of_ble_eq_true rfl⟩) hS (fun r1 u H locs hp hM hS => ?_)
  obtain ⟨rfl, hw, hqr1⟩ := hp
  rcases r1 with _ | q4
  · have hw := hw.1 rfl
    refine lv_astoreN (lv' := [(4, .null), (0, .ref (ad bs 0)), (1, .int a1), (2, .int a2), (3, .int a3)]) hx hb dX11_makers_5 hl (by decide) rfl (fun ls hl => ?_)
    refine lv_aload_n hx hb dX11_makers_7 rfl (lv_at hl 1 rfl) ?_
    refine lv_iload_n hx hb dX11_makers_8 rfl (lv_at hl 3 rfl) ?_
    refine m_co (m_runV E hM hS cs_X11_342 ho.1 (by decide) rfl rfl (c_X11_readingAt ho hw) rfl rfl ⟨Nat.le_of_ble_eq_true rfl, Nat.le_of_ble_eq_true rfl⟩ rfl hl.1 rfl (Nat.le_of_ble_eq_true rfl) dX11_makers_9 ⟨Nat.le_of_ble_eq_true rfl, Nat.le_of_ble_eq_true rfl⟩) hS (fun r2 u H locs hp hM hS => ?_)
    obtain ⟨rfl, hw, hqr2⟩ := hp
    rcases r2 with _ | q3
    · have hw := hw.1 rfl
      refine lv_astoreN (lv' := [(5, .null), (4, .null), (0, .ref (ad bs 0)), (1, .int a1), (2, .int a2), (3, .int a3)]) hx hb dX11_makers_12 hl (by decide) rfl (fun ls hl => ?_)
      refine lv_aloadN hx hb dX11_makers_14 (lv_at hl 1 rfl) ?_
      refine lv_ifnullN (tgt := 38) hx hb dX11_makers_16 (by decide) ?_
      refine lv_bipush (v := (-2)) hx hb dX11_makers_38 (by decide) ?_
      exact m_reti hx hb hr hlk hM hS ⟨rfl, hw⟩ dX11_makers_40
    · have hq3 := hqr2 _ rfl
      have hw := hw.2 q3 rfl
      refine lv_astore (lv' := [(5, .ref (ad bs q3)), (4, .null), (0, .ref (ad bs 0)), (1, .int a1), (2, .int a2), (3, .int a3)]) hx hb dX11_makers_12 hl (by decide) rfl (fun ls hl => ?_)
      refine lv_aloadN hx hb dX11_makers_14 (lv_at hl 1 rfl) ?_
      refine lv_ifnullN (tgt := 38) hx hb dX11_makers_16 (by decide) ?_
      refine lv_bipush (v := (-2)) hx hb dX11_makers_38 (by decide) ?_
      exact m_reti hx hb hr hlk hM hS ⟨rfl, hw⟩ dX11_makers_40
  · have hq4 := hqr1 _ rfl
    have hw := hw.2 q4 rfl
    refine lv_astore (lv' := [(4, .ref (ad bs q4)), (0, .ref (ad bs 0)), (1, .int a1), (2, .int a2), (3, .int a3)]) hx hb dX11_makers_5 hl (by decide) rfl (fun ls hl => ?_)
    refine lv_aload_n hx hb dX11_makers_7 rfl (lv_at hl 1 rfl) ?_
    refine lv_iload_n hx hb dX11_makers_8 rfl (lv_at hl 3 rfl) ?_
    refine m_co (m_runV E hM hS cs_X11_342 ho.1 (by decide) rfl rfl (c_X11_readingAt ho hw) rfl rfl ⟨Nat.le_of_ble_eq_true rfl, Nat.le_of_ble_eq_true rfl⟩ rfl hl.1 rfl (Nat.le_of_ble_eq_true rfl) dX11_makers_9 ⟨Nat.le_of_ble_eq_true rfl, Nat.le_of_ble_eq_true rfl⟩) hS (fun r5 u H locs hp hM hS => ?_)
    obtain ⟨rfl, hw, hqr5⟩ := hp
    rcases r5 with _ | q6
    · have hw := hw.1 rfl
      refine lv_astoreN (lv' := [(5, .null), (4, .ref (ad bs q4)), (0, .ref (ad bs 0)), (1, .int a1), (2, .int a2), (3, .int a3)]) hx hb dX11_makers_12 hl (by decide) rfl (fun ls hl => ?_)
      refine lv_aload hx hb dX11_makers_14 (lv_at hl 1 rfl) ?_
      refine lv_ifnull hx hb dX11_makers_16 ?_
      refine lv_aloadN hx hb dX11_makers_19 (lv_at hl 0 rfl) ?_
      refine lv_ifnullN (tgt := 38) hx hb dX11_makers_21 (by decide) ?_
      refine lv_bipush (v := (-2)) hx hb dX11_makers_38 (by decide) ?_
      exact m_reti hx hb hr hlk hM hS ⟨rfl, hw⟩ dX11_makers_40
    · have hq6 := hqr5 _ rfl
      have hw := hw.2 q6 rfl
      refine lv_astore (lv' := [(5, .ref (ad bs q6)), (4, .ref (ad bs q4)), (0, .ref (ad bs 0)), (1, .int a1), (2, .int a2), (3, .int a3)]) hx hb dX11_makers_12 hl (by decide) rfl (fun ls hl => ?_)
      refine lv_aload hx hb dX11_makers_14 (lv_at hl 1 rfl) ?_
      refine lv_ifnull hx hb dX11_makers_16 ?_
      refine lv_aload hx hb dX11_makers_19 (lv_at hl 0 rfl) ?_
      refine lv_ifnull hx hb dX11_makers_21 ?_
      refine lv_iload_n hx hb dX11_makers_24 rfl (lv_at hl 5 rfl) ?_
      refine lv_iconst (v := (-1)) hx hb dX11_makers_25 (by decide) ?_
      refine lv_icmp_eq (tgt := 41) hx hb dX11_makers_26 (by decide) (fun cq => ?_) (fun cq => ?_)
      · have hw := hw.1 cq
        exact s_X11_makers_41 E hr hlk ho hq4 hq6 hw hM hS (lv_sub hl [5, 1, 0] rfl)
      · have hw := hw.2 cq
        refine lv_aload hx hb dX11_makers_29 (lv_at hl 0 rfl) ?_
        refine lv_iload_n hx hb dX11_makers_31 rfl (lv_at hl 5 rfl) ?_
        refine m_ci (m_runV E hM hS cs_X11_355 hq6.1 (by decide) rfl rfl (c_X6_hasSound hq6 hw) rfl rfl ⟨Nat.le_of_ble_eq_true rfl, Nat.le_of_ble_eq_true rfl⟩ rfl hl.1 rfl (Nat.le_of_ble_eq_true rfl) dX11_makers_32 ⟨Nat.le_of_ble_eq_true rfl, Nat.le_of_ble_eq_true rfl⟩) hS (fun r9 u H locs hp hM hS => ?_)
        obtain ⟨b7, rfl, rfl, hw⟩ := hp
        refine lv_if_ne (tgt := 41) hx hb dX11_makers_35 (by decide) (fun cq => ?_) (fun cq => ?_)
        · have hw := hw.1 (bI_t cq)
          exact s_X11_makers_41 E hr hlk ho hq4 hq6 hw hM hS (lv_sub hl [5, 1, 0] rfl)
        · have hw := hw.2 (bI_f cq)
          refine lv_bipush (v := (-2)) hx hb dX11_makers_38 (by decide) ?_
          exact m_reti hx hb hr hlk hM hS ⟨rfl, hw⟩ dX11_makers_40
theorem dX11_track_0 : decode cX11_track 0 = .ok (.aload_n 0, 1) := by decide +kernel
theorem dX11_track_1 : decode cX11_track 1 = .ok (.iload_n 1, 1) := by decide +kernel
theorem dX11_track_2 : decode cX11_track 2 = .ok (.invokevirtual 153, 3) := by decide +kernel
theorem dX11_track_5 : decode cX11_track 5 = .ok (.astore 4, 2) := by decide +kernel
theorem dX11_track_7 : decode cX11_track 7 = .ok (.aload_n 0, 1) := by decide +kernel
theorem dX11_track_8 : decode cX11_track 8 = .ok (.iload_n 2, 1) := by decide +kernel
theorem dX11_track_9 : decode cX11_track 9 = .ok (.invokevirtual 342, 3) := by decide +kernel
theorem dX11_track_12 : decode cX11_track 12 = .ok (.astore 5, 2) := by decide +kernel
theorem dX11_track_14 : decode cX11_track 14 = .ok (.aload 4, 2) := by decide +kernel
theorem dX11_track_16 : decode cX11_track 16 = .ok (.ifnull 17, 3) := by decide +kernel
theorem dX11_track_19 : decode cX11_track 19 = .ok (.aload 5, 2) := by decide +kernel
theorem dX11_track_21 : decode cX11_track 21 = .ok (.ifnull 12, 3) := by decide +kernel
theorem dX11_track_24 : decode cX11_track 24 = .ok (.aload 4, 2) := by decide +kernel
theorem dX11_track_26 : decode cX11_track 26 = .ok (.iload_n 3, 1) := by decide +kernel
theorem dX11_track_27 : decode cX11_track 27 = .ok (.invokevirtual 204, 3) := by decide +kernel
theorem dX11_track_30 : decode cX11_track 30 = .ok (.ifCond .ne 7, 3) := by decide +kernel
theorem dX11_track_33 : decode cX11_track 33 = .ok (.ldc2_w 366, 3) := by decide +kernel
theorem dX11_track_36 : decode cX11_track 36 = .ok (.lreturn, 1) := by decide +kernel
theorem dX11_track_37 : decode cX11_track 37 = .ok (.aload_n 0, 1) := by decide +kernel
theorem dX11_track_38 : decode cX11_track 38 = .ok (.getfield 77, 3) := by decide +kernel
theorem dX11_track_41 : decode cX11_track 41 = .ok (.aload 4, 2) := by decide +kernel
theorem dX11_track_43 : decode cX11_track 43 = .ok (.aload 5, 2) := by decide +kernel
theorem dX11_track_45 : decode cX11_track 45 = .ok (.iload_n 3, 1) := by decide +kernel
theorem dX11_track_46 : decode cX11_track 46 = .ok (.invokevirtual 368, 3) := by decide +kernel
theorem dX11_track_49 : decode cX11_track 49 = .ok (.aload_n 0, 1) := by decide +kernel
theorem dX11_track_50 : decode cX11_track 50 = .ok (.getfield 77, 3) := by decide +kernel
theorem dX11_track_53 : decode cX11_track 53 = .ok (.aload 4, 2) := by decide +kernel
theorem dX11_track_55 : decode cX11_track 55 = .ok (.aload 5, 2) := by decide +kernel
theorem dX11_track_57 : decode cX11_track 57 = .ok (.invokevirtual 372, 3) := by decide +kernel
theorem dX11_track_60 : decode cX11_track 60 = .ok (.lreturn, 1) := by decide +kernel
def w_X11_track (K : mK) (R : mR) (I : mI) (L : mL) (a1 : Int32) (a2 : Int32) (a3 : Int32) (post : Int64 → mR → mI → mL → Prop) : Prop := w_X11_houseAt I a1 (fun r1 => (r1 = none → w_X11_readingAt I a2 (fun r2 => (r2 = none → post (-1 : Int64) R I L) ∧ (∀ q3 : Nat, r2 = some q3 → post (-1 : Int64) R I L))) ∧ (∀ q4 : Nat, r1 = some q4 → w_X11_readingAt I a2 (fun r5 => (r5 = none → post (-1 : Int64) R I L) ∧ (∀ q6 : Nat, r5 = some q6 → w_X3_hasPerson I q4 a3 (fun b7 => (b7 = true → w_X10_follow I 89 q4 q6 a3 (fun I8 => w_X10_waysOf K R I8 L 89 q4 q6 (fun r9 R10 L11 => post r9 R10 I8 L11))) ∧ (b7 = false → post (-1 : Int64) R I L))))))
set_option maxRecDepth 100000 in
set_option maxHeartbeats 4000000 in
theorem c_X11_track {l : Launch} {D : va_G} {cA : Nat → ClassId} {Z : mZ} {bs : Ad} {n : Nat} {K : mK} {R : mR} {I : mI} {L : mL} {a1 : Int32} {a2 : Int32} {a3 : Int32} {post : Int64 → mR → mI → mL → Prop} (ho : isX11 K R ) (hw : w_X11_track K R I L a1 a2 a3 post) : Met l yX11_track (.code yX11_track cX11_track 6 (some .long) :: gw) ({ frames := 5, cells := 0, slots := 0, locals := 137 } : Room) (PreM D cA Z bs (n, K, R, I, L) [.ref (ad bs 0), .int a1, .int a2, .int a3]) (QL D cA bs (fun r u => ∃ R' I' L', u = (n, K, R', I', L') ∧ post r R' I' L')) 0 0 (Ab bs) := by
  refine m_met (by decide) (Nat.le_of_ble_eq_true rfl) (fun p e s m below meth c ls E hr hlk hM hS hl => ?_)
  have E : Ev p s m _ c cX11_track 6 RX11 D cA Z bs := E
  have hl : lv_has ls 6 [(0, .ref (ad bs 0)), (1, .int a1), (2, .int a2), (3, .int a3)] := hl
  have hx := E.1.1
  have hb := E.1.2.1
  generalize hHe : s.heap = H at hM ⊢
  have hS : va_S (Ab bs) s.heap H [] := by rw [← hHe]; exact va_S.rf
  clear hHe
  refine lv_aload_n hx hb dX11_track_0 rfl (lv_at hl 0 rfl) ?_
  refine lv_iload_n hx hb dX11_track_1 rfl (lv_at hl 1 rfl) ?_
  refine m_co (m_runV E hM hS cs_X11_153 ho.1 (by decide) rfl rfl (c_X11_houseAt ho hw) rfl rfl ⟨Nat.le_of_ble_eq_true rfl, Nat.le_of_ble_eq_true rfl⟩ rfl hl.1 rfl (Nat.le_of_ble_eq_true rfl) dX11_track_2 ⟨Nat.le_of_ble_eq_true rfl, Nat.le_of_ble_eq_true rfl⟩) hS (fun r1 u H locs hp hM hS => ?_)
  obtain ⟨rfl, hw, hqr1⟩ := hp
  rcases r1 with _ | q4
  · have hw := hw.1 rfl
    refine lv_astoreN (lv' := [(4, .null), (0, .ref (ad bs 0)), (1, .int a1), (2, .int a2), (3, .int a3)]) hx hb dX11_track_5 hl (by decide) rfl (fun ls hl => ?_)
    refine lv_aload_n hx hb dX11_track_7 rfl (lv_at hl 1 rfl) ?_
    refine lv_iload_n hx hb dX11_track_8 rfl (lv_at hl 3 rfl) ?_
    refine m_co (m_runV E hM hS cs_X11_342 ho.1 (by decide) rfl rfl (c_X11_readingAt ho hw) rfl rfl ⟨Nat.le_of_ble_eq_true rfl, Nat.le_of_ble_eq_true rfl⟩ rfl hl.1 rfl (Nat.le_of_ble_eq_true rfl) dX11_track_9 ⟨Nat.le_of_ble_eq_true rfl, Nat.le_of_ble_eq_true rfl⟩) hS (fun r2 u H locs hp hM hS => ?_)
    obtain ⟨rfl, hw, hqr2⟩ := hp
    rcases r2 with _ | q3
    · have hw := hw.1 rfl
      refine lv_astoreN (lv' := [(5, .null), (4, .null), (0, .ref (ad bs 0)), (1, .int a1), (2, .int a2), (3, .int a3)]) hx hb dX11_track_12 hl (by decide) rfl (fun ls hl => ?_)
      refine lv_aloadN hx hb dX11_track_14 (lv_at hl 1 rfl) ?_
      refine lv_ifnullN (tgt := 33) hx hb dX11_track_16 (by decide) ?_
      refine lv_ldc2 (v := (-1)) hx hb E.1.2.2.2.1 (E.1.2.2.2.2 _ (gw_of 1109 (by decide +kernel) (by decide +kernel))) dX11_track_33 ?_
      exact m_retl hx hb hr hlk hM hS ⟨_, _, _, rfl, hw⟩ dX11_track_36
    · have hq3 := hqr2 _ rfl
      have hw := hw.2 q3 rfl
      refine lv_astore (lv' := [(5, .ref (ad bs q3)), (4, .null), (0, .ref (ad bs 0)), (1, .int a1), (2, .int a2), (3, .int a3)]) hx hb dX11_track_12 hl (by decide) rfl (fun ls hl => ?_)
      refine lv_aloadN hx hb dX11_track_14 (lv_at hl 1 rfl) ?_
      refine lv_ifnullN (tgt := 33) hx hb dX11_track_16 (by decide) ?_
      refine lv_ldc2 (v := (-1)) hx hb E.1.2.2.2.1 (E.1.2.2.2.2 _ (gw_of 1109 (by decide +kernel) (by decide +kernel))) dX11_track_33 ?_
      exact m_retl hx hb hr hlk hM hS ⟨_, _, _, rfl, hw⟩ dX11_track_36
  · have hq4 := hqr1 _ rfl
    have hw := hw.2 q4 rfl
    refine lv_astore (lv' := [(4, .ref (ad bs q4)), (0, .ref (ad bs 0)), (1, .int a1), (2, .int a2), (3, .int a3)]) hx hb dX11_track_5 hl (by decide) rfl (fun ls hl => ?_)
    refine lv_aload_n hx hb dX11_track_7 rfl (lv_at hl 1 rfl) ?_
    refine lv_iload_n hx hb dX11_track_8 rfl (lv_at hl 3 rfl) ?_
    refine m_co (m_runV E hM hS cs_X11_342 ho.1 (by decide) rfl rfl (c_X11_readingAt ho hw) rfl rfl ⟨Nat.le_of_ble_eq_true rfl, Nat.le_of_ble_eq_true rfl⟩ rfl hl.1 rfl (Nat.le_of_ble_eq_true rfl) dX11_track_9 ⟨Nat.le_of_ble_eq_true rfl, Nat.le_of_ble_eq_true rfl⟩) hS (fun r5 u H locs hp hM hS => ?_)
    obtain ⟨rfl, hw, hqr5⟩ := hp
    rcases r5 with _ | q6
    · have hw := hw.1 rfl
      refine lv_astoreN (lv' := [(5, .null), (4, .ref (ad bs q4)), (0, .ref (ad bs 0)), (1, .int a1), (2, .int a2), (3, .int a3)]) hx hb dX11_track_12 hl (by decide) rfl (fun ls hl => ?_)
      refine lv_aload hx hb dX11_track_14 (lv_at hl 1 rfl) ?_
      refine lv_ifnull hx hb dX11_track_16 ?_
      refine lv_aloadN hx hb dX11_track_19 (lv_at hl 0 rfl) ?_
      refine lv_ifnullN (tgt := 33) hx hb dX11_track_21 (by decide) ?_
      refine lv_ldc2 (v := (-1)) hx hb E.1.2.2.2.1 (E.1.2.2.2.2 _ (gw_of 1109 (by decide +kernel) (by decide +kernel))) dX11_track_33 ?_
      exact m_retl hx hb hr hlk hM hS ⟨_, _, _, rfl, hw⟩ dX11_track_36
    · have hq6 := hqr5 _ rfl
      have hw := hw.2 q6 rfl
      refine lv_astore (lv' := [(5, .ref (ad bs q6)), (4, .ref (ad bs q4)), (0, .ref (ad bs 0)), (1, .int a1), (2, .int a2), (3, .int a3)]) hx hb dX11_track_12 hl (by decide) rfl (fun ls hl => ?_)
      refine lv_aload hx hb dX11_track_14 (lv_at hl 1 rfl) ?_
      refine lv_ifnull hx hb dX11_track_16 ?_
      refine lv_aload hx hb dX11_track_19 (lv_at hl 0 rfl) ?_
      refine lv_ifnull hx hb dX11_track_21 ?_
      refine lv_aload hx hb dX11_track_24 (lv_at hl 1 rfl) ?_
      refine lv_iload_n hx hb dX11_track_26 rfl (lv_at hl 5 rfl) ?_
      refine m_ci (m_runV E hM hS cs_X11_204 hq4.1 (by decide) rfl rfl (c_X3_hasPerson hq4 hw) rfl rfl ⟨Nat.le_of_ble_eq_true rfl, Nat.le_of_ble_eq_true rfl⟩ rfl hl.1 rfl (Nat.le_of_ble_eq_true rfl) dX11_track_27 ⟨Nat.le_of_ble_eq_true rfl, Nat.le_of_ble_eq_true rfl⟩) hS (fun r9 u H locs hp hM hS => ?_)
      obtain ⟨b7, rfl, rfl, hw⟩ := hp
      refine lv_if_ne (tgt := 37) hx hb dX11_track_30 (by decide) (fun cq => ?_) (fun cq => ?_)
      · have hw := hw.1 (bI_t cq)
        refine lv_aload_n hx hb dX11_track_37 rfl (lv_at hl 2 rfl) ?_
        refine m_getr E hM fs_X11_77 ho.1 ho.2.2.2.2.2.2.2.2.2.2.1 dX11_track_38 ?_
        refine lv_aload hx hb dX11_track_41 (lv_at hl 1 rfl) ?_
        refine lv_aload hx hb dX11_track_43 (lv_at hl 0 rfl) ?_
        refine lv_iload_n hx hb dX11_track_45 rfl (lv_at hl 5 rfl) ?_
        refine m_cv (m_runV E hM hS cs_X11_368 ho.2.2.2.2.2.2.2.2.2.2.2.1 (by decide) rfl rfl (c_X10_follow ho.2.2.2.2.2.2.2.2.2.2.2 hq4 hq6 hw) rfl rfl ⟨Nat.le_of_ble_eq_true rfl, Nat.le_of_ble_eq_true rfl⟩ rfl hl.1 rfl (Nat.le_of_ble_eq_true rfl) dX11_track_46 ⟨Nat.le_of_ble_eq_true rfl, Nat.le_of_ble_eq_true rfl⟩) hS (fun u H locs hp hM hS => ?_)
        obtain ⟨I8, rfl, hw⟩ := hp
        refine lv_aload_n hx hb dX11_track_49 rfl (lv_at hl 2 rfl) ?_
        refine m_getr E hM fs_X11_77 ho.1 ho.2.2.2.2.2.2.2.2.2.2.1 dX11_track_50 ?_
        refine lv_aload hx hb dX11_track_53 (lv_at hl 1 rfl) ?_
        refine lv_aload hx hb dX11_track_55 (lv_at hl 0 rfl) ?_
        refine m_cl (m_runV E hM hS cs_X11_372 ho.2.2.2.2.2.2.2.2.2.2.2.1 (by decide) rfl rfl (c_X10_waysOf ho.2.2.2.2.2.2.2.2.2.2.2 hq4 hq6 hw) rfl rfl ⟨Nat.le_of_ble_eq_true rfl, Nat.le_of_ble_eq_true rfl⟩ rfl hl.1 rfl (Nat.le_of_ble_eq_true rfl) dX11_track_57 ⟨Nat.le_of_ble_eq_true rfl, Nat.le_of_ble_eq_true rfl⟩) hS (fun r9 u H locs hp hM hS => ?_)
        obtain ⟨R10, L11, rfl, hw⟩ := hp
        exact m_retl hx hb hr hlk hM hS ⟨_, _, _, rfl, hw⟩ dX11_track_60
      · have hw := hw.2 (bI_f cq)
        refine lv_ldc2 (v := (-1)) hx hb E.1.2.2.2.1 (E.1.2.2.2.2 _ (gw_of 1109 (by decide +kernel) (by decide +kernel))) dX11_track_33 ?_
        exact m_retl hx hb hr hlk hM hS ⟨_, _, _, rfl, hw⟩ dX11_track_36
theorem dX11_spots_0 : decode cX11_spots 0 = .ok (.aload_n 0, 1) := by decide +kernel
theorem dX11_spots_1 : decode cX11_spots 1 = .ok (.iload_n 1, 1) := by decide +kernel
theorem dX11_spots_2 : decode cX11_spots 2 = .ok (.invokevirtual 153, 3) := by decide +kernel
theorem dX11_spots_5 : decode cX11_spots 5 = .ok (.astore 5, 2) := by decide +kernel
theorem dX11_spots_7 : decode cX11_spots 7 = .ok (.aload_n 0, 1) := by decide +kernel
theorem dX11_spots_8 : decode cX11_spots 8 = .ok (.iload_n 2, 1) := by decide +kernel
theorem dX11_spots_9 : decode cX11_spots 9 = .ok (.invokevirtual 342, 3) := by decide +kernel
theorem dX11_spots_12 : decode cX11_spots 12 = .ok (.astore 6, 2) := by decide +kernel
theorem dX11_spots_14 : decode cX11_spots 14 = .ok (.aload 5, 2) := by decide +kernel
theorem dX11_spots_16 : decode cX11_spots 16 = .ok (.ifnull 33, 3) := by decide +kernel
theorem dX11_spots_19 : decode cX11_spots 19 = .ok (.aload 6, 2) := by decide +kernel
theorem dX11_spots_21 : decode cX11_spots 21 = .ok (.ifnull 28, 3) := by decide +kernel
theorem dX11_spots_24 : decode cX11_spots 24 = .ok (.aload 5, 2) := by decide +kernel
theorem dX11_spots_26 : decode cX11_spots 26 = .ok (.iload_n 3, 1) := by decide +kernel
theorem dX11_spots_27 : decode cX11_spots 27 = .ok (.invokevirtual 204, 3) := by decide +kernel
theorem dX11_spots_30 : decode cX11_spots 30 = .ok (.ifCond .eq 19, 3) := by decide +kernel
theorem dX11_spots_33 : decode cX11_spots 33 = .ok (.iload 4, 2) := by decide +kernel
theorem dX11_spots_35 : decode cX11_spots 35 = .ok (.iconst (-1), 1) := by decide +kernel
theorem dX11_spots_36 : decode cX11_spots 36 = .ok (.if_icmp .eq 16, 3) := by decide +kernel
theorem dX11_spots_39 : decode cX11_spots 39 = .ok (.aload 6, 2) := by decide +kernel
theorem dX11_spots_41 : decode cX11_spots 41 = .ok (.iload 4, 2) := by decide +kernel
theorem dX11_spots_43 : decode cX11_spots 43 = .ok (.invokevirtual 355, 3) := by decide +kernel
theorem dX11_spots_46 : decode cX11_spots 46 = .ok (.ifCond .ne 6, 3) := by decide +kernel
theorem dX11_spots_49 : decode cX11_spots 49 = .ok (.bipush (-2), 2) := by decide +kernel
theorem dX11_spots_51 : decode cX11_spots 51 = .ok (.ireturn, 1) := by decide +kernel
theorem dX11_spots_52 : decode cX11_spots 52 = .ok (.aload_n 0, 1) := by decide +kernel
theorem dX11_spots_53 : decode cX11_spots 53 = .ok (.getfield 77, 3) := by decide +kernel
theorem dX11_spots_56 : decode cX11_spots 56 = .ok (.aload 5, 2) := by decide +kernel
theorem dX11_spots_58 : decode cX11_spots 58 = .ok (.aload 6, 2) := by decide +kernel
theorem dX11_spots_60 : decode cX11_spots 60 = .ok (.iload_n 3, 1) := by decide +kernel
theorem dX11_spots_61 : decode cX11_spots 61 = .ok (.invokevirtual 368, 3) := by decide +kernel
theorem dX11_spots_64 : decode cX11_spots 64 = .ok (.aload_n 0, 1) := by decide +kernel
theorem dX11_spots_65 : decode cX11_spots 65 = .ok (.getfield 77, 3) := by decide +kernel
theorem dX11_spots_68 : decode cX11_spots 68 = .ok (.aload 6, 2) := by decide +kernel
theorem dX11_spots_70 : decode cX11_spots 70 = .ok (.invokevirtual 376, 3) := by decide +kernel
theorem dX11_spots_73 : decode cX11_spots 73 = .ok (.iload 4, 2) := by decide +kernel
theorem dX11_spots_75 : decode cX11_spots 75 = .ok (.iconst (-1), 1) := by decide +kernel
theorem dX11_spots_76 : decode cX11_spots 76 = .ok (.if_icmp .ne 13, 3) := by decide +kernel
theorem dX11_spots_79 : decode cX11_spots 79 = .ok (.aload_n 0, 1) := by decide +kernel
theorem dX11_spots_80 : decode cX11_spots 80 = .ok (.getfield 77, 3) := by decide +kernel
theorem dX11_spots_83 : decode cX11_spots 83 = .ok (.invokevirtual 379, 3) := by decide +kernel
theorem dX11_spots_86 : decode cX11_spots 86 = .ok (.goto 12, 3) := by decide +kernel
theorem dX11_spots_89 : decode cX11_spots 89 = .ok (.aload_n 0, 1) := by decide +kernel
theorem dX11_spots_90 : decode cX11_spots 90 = .ok (.getfield 77, 3) := by decide +kernel
theorem dX11_spots_93 : decode cX11_spots 93 = .ok (.iload 4, 2) := by decide +kernel
theorem dX11_spots_95 : decode cX11_spots 95 = .ok (.invokevirtual 382, 3) := by decide +kernel
theorem dX11_spots_98 : decode cX11_spots 98 = .ok (.ireturn, 1) := by decide +kernel
def w_X11_spots_52 (a1 : Int32) (a2 : Int32) (a3 : Int32) (a4 : Int32) (post : Int32 → mI → Prop) (I : mI) (q6 : Nat) (q4 : Nat) : Prop := w_X10_follow I 89 q4 q6 a3 (fun I9 => w_X10_narrow I9 89 q6 (fun I10 => (¬ a4 = (-1) → w_X10_spotsOf I10 89 a4 (fun r11 => post r11 I10)) ∧ (a4 = (-1) → w_X10_sureCount I10 89 (fun r12 => post r12 I10))))
set_option maxRecDepth 100000 in
set_option maxHeartbeats 4000000 in
theorem s_X11_spots_52 {p : Program} {l : Launch} {e : Env} {s : State} {m : MethodId} {args : Array Value} {below : List Frame} {meth : Method} {c : Code} {D : va_G} {cA : Nat → ClassId} {Z : mZ} {bs : Ad} {n : Nat} {K : mK} {R : mR} {L : mL} (E : Ev p s m args c cX11_spots 7 RX11 D cA Z bs) (hr : meth.sig.returnType = (some .int)) (hlk : meth.locks = false) {a1 : Int32} {a2 : Int32} {a3 : Int32} {a4 : Int32} (ho : isX11 K R ) {post : Int32 → mI → Prop} {I : mI} {q6 : Nat} {q4 : Nat} {H : Heap} {locs : List Loc} {ls : Array Slot} (hq4 : isX3 K R q4) (hq6 : isX6 K R q6) (hw : w_X11_spots_52 a1 a2 a3 a4 post I q6 q4) (hM : mm D cA bs (n, K, R, I, L) H) (hS : va_S (Ab bs) s.heap H locs) (hl : lv_has ls 7 [(0, .ref (ad bs 0)), (3, .int a3), (4, .int a4), (5, .ref (ad bs q4)), (6, .ref (ad bs q6))]) : W p l e ({ frames := 5, cells := 0, slots := 0, locals := 137 } : Room) s m args below meth c H locs 0 0 (MQ below (QI D cA bs (fun r u => ∃ I', u = (n, K, R, I', L) ∧ post r I')) args s 0 0 (Ab bs)) (F0 m 52 ls []) := by
  have hx := E.1.1
  have hb := E.1.2.1
  refine lv_aload_n hx hb dX11_spots_52 rfl (lv_at hl 0 rfl) ?_
  refine m_getr E hM fs_X11_77 ho.1 ho.2.2.2.2.2.2.2.2.2.2.1 dX11_spots_53 ?_
  refine lv_aload hx hb dX11_spots_56 (lv_at hl 3 rfl) ?_
  refine lv_aload hx hb dX11_spots_58 (lv_at hl 4 rfl) ?_
  refine lv_iload_n hx hb dX11_spots_60 rfl (lv_at hl 1 rfl) ?_
  refine m_cv (m_runV E hM hS cs_X11_368 ho.2.2.2.2.2.2.2.2.2.2.2.1 (by decide) rfl rfl (c_X10_follow ho.2.2.2.2.2.2.2.2.2.2.2 hq4 hq6 hw) rfl rfl ⟨Nat.le_of_ble_eq_true rfl, Nat.le_of_ble_eq_true rfl⟩ rfl hl.1 rfl (Nat.le_of_ble_eq_true rfl) dX11_spots_61 ⟨Nat.le_of_ble_eq_true rfl, Nat.le_of_ble_eq_true rfl⟩) hS (fun u H locs hp hM hS => ?_)
  obtain ⟨I9, rfl, hw⟩ := hp
  refine lv_aload_n hx hb dX11_spots_64 rfl (lv_at hl 0 rfl) ?_
  refine m_getr E hM fs_X11_77 ho.1 ho.2.2.2.2.2.2.2.2.2.2.1 dX11_spots_65 ?_
  refine lv_aload hx hb dX11_spots_68 (lv_at hl 4 rfl) ?_
  refine m_cv (m_runV E hM hS cs_X11_376 ho.2.2.2.2.2.2.2.2.2.2.2.1 (by decide) rfl rfl (c_X10_narrow ho.2.2.2.2.2.2.2.2.2.2.2 hq6 hw) rfl rfl ⟨Nat.le_of_ble_eq_true rfl, Nat.le_of_ble_eq_true rfl⟩ rfl hl.1 rfl (Nat.le_of_ble_eq_true rfl) dX11_spots_70 ⟨Nat.le_of_ble_eq_true rfl, Nat.le_of_ble_eq_true rfl⟩) hS (fun u H locs hp hM hS => ?_)
  obtain ⟨I10, rfl, hw⟩ := hp
  refine lv_iload hx hb dX11_spots_73 (lv_at hl 2 rfl) ?_
  refine lv_iconst (v := (-1)) hx hb dX11_spots_75 (by decide) ?_
  refine lv_icmp_ne (tgt := 89) hx hb dX11_spots_76 (by decide) (fun cq => ?_) (fun cq => ?_)
  · have hw := hw.1 cq
    refine lv_aload_n hx hb dX11_spots_89 rfl (lv_at hl 0 rfl) ?_
    refine m_getr E hM fs_X11_77 ho.1 ho.2.2.2.2.2.2.2.2.2.2.1 dX11_spots_90 ?_
    refine lv_iload hx hb dX11_spots_93 (lv_at hl 2 rfl) ?_
    refine m_ci (m_runV E hM hS cs_X11_382 ho.2.2.2.2.2.2.2.2.2.2.2.1 (by decide) rfl rfl (c_X10_spotsOf ho.2.2.2.2.2.2.2.2.2.2.2 hw) rfl rfl ⟨Nat.le_of_ble_eq_true rfl, Nat.le_of_ble_eq_true rfl⟩ rfl hl.1 rfl (Nat.le_of_ble_eq_true rfl) dX11_spots_95 ⟨Nat.le_of_ble_eq_true rfl, Nat.le_of_ble_eq_true rfl⟩) hS (fun r11 u H locs hp hM hS => ?_)
    obtain ⟨rfl, hw⟩ := hp
    exact m_reti hx hb hr hlk hM hS ⟨_, rfl, hw⟩ dX11_spots_98
  · have hw := hw.2 cq
    refine lv_aload_n hx hb dX11_spots_79 rfl (lv_at hl 0 rfl) ?_
    refine m_getr E hM fs_X11_77 ho.1 ho.2.2.2.2.2.2.2.2.2.2.1 dX11_spots_80 ?_
    refine m_ci (m_runV E hM hS cs_X11_379 ho.2.2.2.2.2.2.2.2.2.2.2.1 (by decide) rfl rfl (c_X10_sureCount ho.2.2.2.2.2.2.2.2.2.2.2 hw) rfl rfl ⟨Nat.le_of_ble_eq_true rfl, Nat.le_of_ble_eq_true rfl⟩ rfl hl.1 rfl (Nat.le_of_ble_eq_true rfl) dX11_spots_83 ⟨Nat.le_of_ble_eq_true rfl, Nat.le_of_ble_eq_true rfl⟩) hS (fun r12 u H locs hp hM hS => ?_)
    obtain ⟨rfl, hw⟩ := hp
    refine lv_goto (tgt := 98) hx hb dX11_spots_86 (by decide) ?_
    exact m_reti hx hb hr hlk hM hS ⟨_, rfl, hw⟩ dX11_spots_98
def w_X11_spots (I : mI) (a1 : Int32) (a2 : Int32) (a3 : Int32) (a4 : Int32) (post : Int32 → mI → Prop) : Prop := w_X11_houseAt I a1 (fun r1 => (r1 = none → w_X11_readingAt I a2 (fun r2 => (r2 = none → post (-2) I) ∧ (∀ q3 : Nat, r2 = some q3 → post (-2) I))) ∧ (∀ q4 : Nat, r1 = some q4 → w_X11_readingAt I a2 (fun r5 => (r5 = none → post (-2) I) ∧ (∀ q6 : Nat, r5 = some q6 → w_X3_hasPerson I q4 a3 (fun b7 => (b7 = false → post (-2) I) ∧ (b7 = true → (a4 = (-1) → (w_X11_spots_52 a1 a2 a3 a4 post) I q6 q4) ∧ (¬ a4 = (-1) → w_X6_hasSound I q6 a4 (fun b8 => (b8 = true → (w_X11_spots_52 a1 a2 a3 a4 post) I q6 q4) ∧ (b8 = false → post (-2) I)))))))))
set_option maxRecDepth 100000 in
set_option maxHeartbeats 4000000 in
theorem c_X11_spots {l : Launch} {D : va_G} {cA : Nat → ClassId} {Z : mZ} {bs : Ad} {n : Nat} {K : mK} {R : mR} {I : mI} {L : mL} {a1 : Int32} {a2 : Int32} {a3 : Int32} {a4 : Int32} {post : Int32 → mI → Prop} (ho : isX11 K R ) (hw : w_X11_spots I a1 a2 a3 a4 post) : Met l yX11_spots (.code yX11_spots cX11_spots 7 (some .int) :: gw) ({ frames := 5, cells := 0, slots := 0, locals := 137 } : Room) (PreM D cA Z bs (n, K, R, I, L) [.ref (ad bs 0), .int a1, .int a2, .int a3, .int a4]) (QI D cA bs (fun r u => ∃ I', u = (n, K, R, I', L) ∧ post r I')) 0 0 (Ab bs) := by
  refine m_met (by decide) (Nat.le_of_ble_eq_true rfl) (fun p e s m below meth c ls E hr hlk hM hS hl => ?_)
  have E : Ev p s m _ c cX11_spots 7 RX11 D cA Z bs := E
  have hl : lv_has ls 7 [(0, .ref (ad bs 0)), (1, .int a1), (2, .int a2), (3, .int a3), (4, .int a4)] := hl
  have hx := E.1.1
  have hb := E.1.2.1
  generalize hHe : s.heap = H at hM ⊢
  have hS : va_S (Ab bs) s.heap H [] := by rw [← hHe]; exact va_S.rf
  clear hHe
  refine lv_aload_n hx hb dX11_spots_0 rfl (lv_at hl 0 rfl) ?_
  refine lv_iload_n hx hb dX11_spots_1 rfl (lv_at hl 1 rfl) ?_
  refine m_co (m_runV E hM hS cs_X11_153 ho.1 (by decide) rfl rfl (c_X11_houseAt ho hw) rfl rfl ⟨Nat.le_of_ble_eq_true rfl, Nat.le_of_ble_eq_true rfl⟩ rfl hl.1 rfl (Nat.le_of_ble_eq_true rfl) dX11_spots_2 ⟨Nat.le_of_ble_eq_true rfl, Nat.le_of_ble_eq_true rfl⟩) hS (fun r1 u H locs hp hM hS => ?_)
  obtain ⟨rfl, hw, hqr1⟩ := hp
  rcases r1 with _ | q4
  · have hw := hw.1 rfl
    refine lv_astoreN (lv' := [(5, .null), (0, .ref (ad bs 0)), (1, .int a1), (2, .int a2), (3, .int a3), (4, .int a4)]) hx hb dX11_spots_5 hl (by decide) rfl (fun ls hl => ?_)
    refine lv_aload_n hx hb dX11_spots_7 rfl (lv_at hl 1 rfl) ?_
    refine lv_iload_n hx hb dX11_spots_8 rfl (lv_at hl 3 rfl) ?_
    refine m_co (m_runV E hM hS cs_X11_342 ho.1 (by decide) rfl rfl (c_X11_readingAt ho hw) rfl rfl ⟨Nat.le_of_ble_eq_true rfl, Nat.le_of_ble_eq_true rfl⟩ rfl hl.1 rfl (Nat.le_of_ble_eq_true rfl) dX11_spots_9 ⟨Nat.le_of_ble_eq_true rfl, Nat.le_of_ble_eq_true rfl⟩) hS (fun r2 u H locs hp hM hS => ?_)
    obtain ⟨rfl, hw, hqr2⟩ := hp
    rcases r2 with _ | q3
    · have hw := hw.1 rfl
      refine lv_astoreN (lv' := [(6, .null), (5, .null), (0, .ref (ad bs 0)), (1, .int a1), (2, .int a2), (3, .int a3), (4, .int a4)]) hx hb dX11_spots_12 hl (by decide) rfl (fun ls hl => ?_)
      refine lv_aloadN hx hb dX11_spots_14 (lv_at hl 1 rfl) ?_
      refine lv_ifnullN (tgt := 49) hx hb dX11_spots_16 (by decide) ?_
      refine lv_bipush (v := (-2)) hx hb dX11_spots_49 (by decide) ?_
      exact m_reti hx hb hr hlk hM hS ⟨_, rfl, hw⟩ dX11_spots_51
    · have hq3 := hqr2 _ rfl
      have hw := hw.2 q3 rfl
      refine lv_astore (lv' := [(6, .ref (ad bs q3)), (5, .null), (0, .ref (ad bs 0)), (1, .int a1), (2, .int a2), (3, .int a3), (4, .int a4)]) hx hb dX11_spots_12 hl (by decide) rfl (fun ls hl => ?_)
      refine lv_aloadN hx hb dX11_spots_14 (lv_at hl 1 rfl) ?_
      refine lv_ifnullN (tgt := 49) hx hb dX11_spots_16 (by decide) ?_
      refine lv_bipush (v := (-2)) hx hb dX11_spots_49 (by decide) ?_
      exact m_reti hx hb hr hlk hM hS ⟨_, rfl, hw⟩ dX11_spots_51
  · have hq4 := hqr1 _ rfl
    have hw := hw.2 q4 rfl
    refine lv_astore (lv' := [(5, .ref (ad bs q4)), (0, .ref (ad bs 0)), (1, .int a1), (2, .int a2), (3, .int a3), (4, .int a4)]) hx hb dX11_spots_5 hl (by decide) rfl (fun ls hl => ?_)
    refine lv_aload_n hx hb dX11_spots_7 rfl (lv_at hl 1 rfl) ?_
    refine lv_iload_n hx hb dX11_spots_8 rfl (lv_at hl 3 rfl) ?_
    refine m_co (m_runV E hM hS cs_X11_342 ho.1 (by decide) rfl rfl (c_X11_readingAt ho hw) rfl rfl ⟨Nat.le_of_ble_eq_true rfl, Nat.le_of_ble_eq_true rfl⟩ rfl hl.1 rfl (Nat.le_of_ble_eq_true rfl) dX11_spots_9 ⟨Nat.le_of_ble_eq_true rfl, Nat.le_of_ble_eq_true rfl⟩) hS (fun r5 u H locs hp hM hS => ?_)
    obtain ⟨rfl, hw, hqr5⟩ := hp
    rcases r5 with _ | q6
    · have hw := hw.1 rfl
      refine lv_astoreN (lv' := [(6, .null), (5, .ref (ad bs q4)), (0, .ref (ad bs 0)), (1, .int a1), (2, .int a2), (3, .int a3), (4, .int a4)]) hx hb dX11_spots_12 hl (by decide) rfl (fun ls hl => ?_)
      refine lv_aload hx hb dX11_spots_14 (lv_at hl 1 rfl) ?_
      refine lv_ifnull hx hb dX11_spots_16 ?_
      refine lv_aloadN hx hb dX11_spots_19 (lv_at hl 0 rfl) ?_
      refine lv_ifnullN (tgt := 49) hx hb dX11_spots_21 (by decide) ?_
      refine lv_bipush (v := (-2)) hx hb dX11_spots_49 (by decide) ?_
      exact m_reti hx hb hr hlk hM hS ⟨_, rfl, hw⟩ dX11_spots_51
    · have hq6 := hqr5 _ rfl
      have hw := hw.2 q6 rfl
      refine lv_astore (lv' := [(6, .ref (ad bs q6)), (5, .ref (ad bs q4)), (0, .ref (ad bs 0)), (1, .int a1), (2, .int a2), (3, .int a3), (4, .int a4)]) hx hb dX11_spots_12 hl (by decide) rfl (fun ls hl => ?_)
      refine lv_aload hx hb dX11_spots_14 (lv_at hl 1 rfl) ?_
      refine lv_ifnull hx hb dX11_spots_16 ?_
      refine lv_aload hx hb dX11_spots_19 (lv_at hl 0 rfl) ?_
      refine lv_ifnull hx hb dX11_spots_21 ?_
      refine lv_aload hx hb dX11_spots_24 (lv_at hl 1 rfl) ?_
      refine lv_iload_n hx hb dX11_spots_26 rfl (lv_at hl 5 rfl) ?_
      refine m_ci (m_runV E hM hS cs_X11_204 hq4.1 (by decide) rfl rfl (c_X3_hasPerson hq4 hw) rfl rfl ⟨Nat.le_of_ble_eq_true rfl, Nat.le_of_ble_eq_true rfl⟩ rfl hl.1 rfl (Nat.le_of_ble_eq_true rfl) dX11_spots_27 ⟨Nat.le_of_ble_eq_true rfl, Nat.le_of_ble_eq_true rfl⟩) hS (fun r9 u H locs hp hM hS => ?_)
      obtain ⟨b7, rfl, rfl, hw⟩ := hp
      refine lv_if_eq (tgt := 49) hx hb dX11_spots_30 (by decide) (fun cq => ?_) (fun cq => ?_)
      · have hw := hw.1 (bI_f cq)
        refine lv_bipush (v := (-2)) hx hb dX11_spots_49 (by decide) ?_
        exact m_reti hx hb hr hlk hM hS ⟨_, rfl, hw⟩ dX11_spots_51
      · have hw := hw.2 (bI_t cq)
        refine lv_iload hx hb dX11_spots_33 (lv_at hl 6 rfl) ?_
        refine lv_iconst (v := (-1)) hx hb dX11_spots_35 (by decide) ?_
        refine lv_icmp_eq (tgt := 52) hx hb dX11_spots_36 (by decide) (fun cq => ?_) (fun cq => ?_)
        · have hw := hw.1 cq
          exact s_X11_spots_52 E hr hlk ho hq4 hq6 hw hM hS (lv_sub hl [2, 5, 6, 1, 0] rfl)
        · have hw := hw.2 cq
          refine lv_aload hx hb dX11_spots_39 (lv_at hl 0 rfl) ?_
          refine lv_iload hx hb dX11_spots_41 (lv_at hl 6 rfl) ?_
          refine m_ci (m_runV E hM hS cs_X11_355 hq6.1 (by decide) rfl rfl (c_X6_hasSound hq6 hw) rfl rfl ⟨Nat.le_of_ble_eq_true rfl, Nat.le_of_ble_eq_true rfl⟩ rfl hl.1 rfl (Nat.le_of_ble_eq_true rfl) dX11_spots_43 ⟨Nat.le_of_ble_eq_true rfl, Nat.le_of_ble_eq_true rfl⟩) hS (fun r9 u H locs hp hM hS => ?_)
          obtain ⟨b8, rfl, rfl, hw⟩ := hp
          refine lv_if_ne (tgt := 52) hx hb dX11_spots_46 (by decide) (fun cq => ?_) (fun cq => ?_)
          · have hw := hw.1 (bI_t cq)
            exact s_X11_spots_52 E hr hlk ho hq4 hq6 hw hM hS (lv_sub hl [2, 5, 6, 1, 0] rfl)
          · have hw := hw.2 (bI_f cq)
            refine lv_bipush (v := (-2)) hx hb dX11_spots_49 (by decide) ?_
            exact m_reti hx hb hr hlk hM hS ⟨_, rfl, hw⟩ dX11_spots_51
theorem dX11_drawn_0 : decode cX11_drawn 0 = .ok (.aload_n 0, 1) := by decide +kernel
theorem dX11_drawn_1 : decode cX11_drawn 1 = .ok (.iload_n 1, 1) := by decide +kernel
theorem dX11_drawn_2 : decode cX11_drawn 2 = .ok (.invokevirtual 199, 3) := by decide +kernel
theorem dX11_drawn_5 : decode cX11_drawn 5 = .ok (.astore 5, 2) := by decide +kernel
theorem dX11_drawn_7 : decode cX11_drawn 7 = .ok (.aload 5, 2) := by decide +kernel
theorem dX11_drawn_9 : decode cX11_drawn 9 = .ok (.ifnull 13, 3) := by decide +kernel
theorem dX11_drawn_12 : decode cX11_drawn 12 = .ok (.iload_n 3, 1) := by decide +kernel
theorem dX11_drawn_13 : decode cX11_drawn 13 = .ok (.ifCond .lt 9, 3) := by decide +kernel
theorem dX11_drawn_16 : decode cX11_drawn 16 = .ok (.iload_n 3, 1) := by decide +kernel
theorem dX11_drawn_17 : decode cX11_drawn 17 = .ok (.bipush 100, 2) := by decide +kernel
theorem dX11_drawn_19 : decode cX11_drawn 19 = .ok (.if_icmp .le 5, 3) := by decide +kernel
theorem dX11_drawn_22 : decode cX11_drawn 22 = .ok (.iconst (-1), 1) := by decide +kernel
theorem dX11_drawn_23 : decode cX11_drawn 23 = .ok (.ireturn, 1) := by decide +kernel
theorem dX11_drawn_24 : decode cX11_drawn 24 = .ok (.aload_n 0, 1) := by decide +kernel
theorem dX11_drawn_25 : decode cX11_drawn 25 = .ok (.getfield 70, 3) := by decide +kernel
theorem dX11_drawn_28 : decode cX11_drawn 28 = .ok (.aload 5, 2) := by decide +kernel
theorem dX11_drawn_30 : decode cX11_drawn 30 = .ok (.iload_n 2, 1) := by decide +kernel
theorem dX11_drawn_31 : decode cX11_drawn 31 = .ok (.iload_n 3, 1) := by decide +kernel
theorem dX11_drawn_32 : decode cX11_drawn 32 = .ok (.invokevirtual 385, 3) := by decide +kernel
theorem dX11_drawn_35 : decode cX11_drawn 35 = .ok (.iload 4, 2) := by decide +kernel
theorem dX11_drawn_37 : decode cX11_drawn 37 = .ok (.ifCond .ne 11, 3) := by decide +kernel
theorem dX11_drawn_40 : decode cX11_drawn 40 = .ok (.aload_n 0, 1) := by decide +kernel
theorem dX11_drawn_41 : decode cX11_drawn 41 = .ok (.getfield 70, 3) := by decide +kernel
theorem dX11_drawn_44 : decode cX11_drawn 44 = .ok (.getfield 389, 3) := by decide +kernel
theorem dX11_drawn_47 : decode cX11_drawn 47 = .ok (.ireturn, 1) := by decide +kernel
theorem dX11_drawn_48 : decode cX11_drawn 48 = .ok (.iload 4, 2) := by decide +kernel
theorem dX11_drawn_50 : decode cX11_drawn 50 = .ok (.iconst 1, 1) := by decide +kernel
theorem dX11_drawn_51 : decode cX11_drawn 51 = .ok (.if_icmp .ne 11, 3) := by decide +kernel
theorem dX11_drawn_54 : decode cX11_drawn 54 = .ok (.aload_n 0, 1) := by decide +kernel
theorem dX11_drawn_55 : decode cX11_drawn 55 = .ok (.getfield 70, 3) := by decide +kernel
theorem dX11_drawn_58 : decode cX11_drawn 58 = .ok (.invokevirtual 390, 3) := by decide +kernel
theorem dX11_drawn_61 : decode cX11_drawn 61 = .ok (.ireturn, 1) := by decide +kernel
theorem dX11_drawn_62 : decode cX11_drawn 62 = .ok (.iload 4, 2) := by decide +kernel
theorem dX11_drawn_64 : decode cX11_drawn 64 = .ok (.bipush 20, 2) := by decide +kernel
theorem dX11_drawn_66 : decode cX11_drawn 66 = .ok (.if_icmp .lt 28, 3) := by decide +kernel
theorem dX11_drawn_69 : decode cX11_drawn 69 = .ok (.aload_n 0, 1) := by decide +kernel
theorem dX11_drawn_70 : decode cX11_drawn 70 = .ok (.getfield 70, 3) := by decide +kernel
theorem dX11_drawn_73 : decode cX11_drawn 73 = .ok (.getfield 393, 3) := by decide +kernel
theorem dX11_drawn_76 : decode cX11_drawn 76 = .ok (.iload 4, 2) := by decide +kernel
theorem dX11_drawn_78 : decode cX11_drawn 78 = .ok (.bipush 20, 2) := by decide +kernel
theorem dX11_drawn_80 : decode cX11_drawn 80 = .ok (.isub, 1) := by decide +kernel
theorem dX11_drawn_81 : decode cX11_drawn 81 = .ok (.aload 5, 2) := by decide +kernel
theorem dX11_drawn_83 : decode cX11_drawn 83 = .ok (.getfield 203, 3) := by decide +kernel
theorem dX11_drawn_86 : decode cX11_drawn 86 = .ok (.getfield 175, 3) := by decide +kernel
theorem dX11_drawn_89 : decode cX11_drawn 89 = .ok (.iconst (-1), 1) := by decide +kernel
theorem dX11_drawn_90 : decode cX11_drawn 90 = .ok (.invokestatic 164, 3) := by decide +kernel
theorem dX11_drawn_93 : decode cX11_drawn 93 = .ok (.ireturn, 1) := by decide +kernel
theorem dX11_drawn_94 : decode cX11_drawn 94 = .ok (.aload_n 0, 1) := by decide +kernel
theorem dX11_drawn_95 : decode cX11_drawn 95 = .ok (.getfield 70, 3) := by decide +kernel
theorem dX11_drawn_98 : decode cX11_drawn 98 = .ok (.getfield 396, 3) := by decide +kernel
theorem dX11_drawn_101 : decode cX11_drawn 101 = .ok (.iload 4, 2) := by decide +kernel
theorem dX11_drawn_103 : decode cX11_drawn 103 = .ok (.bipush 10, 2) := by decide +kernel
theorem dX11_drawn_105 : decode cX11_drawn 105 = .ok (.isub, 1) := by decide +kernel
theorem dX11_drawn_106 : decode cX11_drawn 106 = .ok (.aload 5, 2) := by decide +kernel
theorem dX11_drawn_108 : decode cX11_drawn 108 = .ok (.getfield 203, 3) := by decide +kernel
theorem dX11_drawn_111 : decode cX11_drawn 111 = .ok (.getfield 196, 3) := by decide +kernel
theorem dX11_drawn_114 : decode cX11_drawn 114 = .ok (.iconst (-1), 1) := by decide +kernel
theorem dX11_drawn_115 : decode cX11_drawn 115 = .ok (.invokestatic 164, 3) := by decide +kernel
theorem dX11_drawn_118 : decode cX11_drawn 118 = .ok (.ireturn, 1) := by decide +kernel
def w_X11_drawn (I : mI) (a1 : Int32) (a2 : Int32) (a3 : Int32) (a4 : Int32) (post : Int32 → mI → Prop) : Prop := w_X11_eveningAt I a1 (fun r1 I2 => (r1 = none → post (-1) I2) ∧ (∀ q3 : Nat, r1 = some q3 → (a3 < 0 → post (-1) I2) ∧ (¬ a3 < 0 → (a3 ≤ 100 → w_X1_play I2 84 q3 (hE q3) a2 a3 (fun I4 => (¬ a4 = 0 → (¬ a4 = 1 → (a4 < 20 → w_X11_pick I4 85 6 (a4 - 10) (I4 (hE q3) 3) (-1) (fun r5 => post r5 I4)) ∧ (¬ a4 < 20 → w_X11_pick I4 86 6 (a4 - 20) (I4 (hE q3) 2) (-1) (fun r6 => post r6 I4))) ∧ (a4 = 1 → w_X1_allNotes I4 84 (fun r7 => post r7 I4))) ∧ (a4 = 0 → post (I4 84 0) I4))) ∧ (¬ a3 ≤ 100 → post (-1) I2))))
set_option maxRecDepth 100000 in
set_option maxHeartbeats 4000000 in
theorem c_X11_drawn {l : Launch} {D : va_G} {cA : Nat → ClassId} {Z : mZ} {bs : Ad} {n : Nat} {K : mK} {R : mR} {I : mI} {L : mL} {a1 : Int32} {a2 : Int32} {a3 : Int32} {a4 : Int32} {post : Int32 → mI → Prop} (ho : isX11 K R ) (hw : w_X11_drawn I a1 a2 a3 a4 post) : Met l yX11_drawn (.code yX11_drawn cX11_drawn 6 (some .int) :: gw) ({ frames := 5, cells := 17, slots := 6542, locals := 132 } : Room) (PreM D cA Z bs (n, K, R, I, L) [.ref (ad bs 0), .int a1, .int a2, .int a3, .int a4]) (QIX D cA bs K R (fun r u => ∃ K' I', u = (n, K', R, I', L) ∧ post r I')) 17 6542 (Ab bs) := by
  refine m_met (by decide) (Nat.le_of_ble_eq_true rfl) (fun p e s m below meth c ls E hr hlk hM hS hl => ?_)
  have E : Ev p s m _ c cX11_drawn 6 RX11 D cA Z bs := E
  have hl : lv_has ls 6 [(0, .ref (ad bs 0)), (1, .int a1), (2, .int a2), (3, .int a3), (4, .int a4)] := hl
  have hx := E.1.1
  have hb := E.1.2.1
  generalize hHe : s.heap = H at hM ⊢
  have hS : va_S (Ab bs) s.heap H [] := by rw [← hHe]; exact va_S.rf
  clear hHe
  have hx0 := EX_rf bs K R
  refine lv_aload_n hx hb dX11_drawn_0 rfl (lv_at hl 0 rfl) ?_
  refine lv_iload_n hx hb dX11_drawn_1 rfl (lv_at hl 1 rfl) ?_
  refine m_cox (m_runV E hM hS cs_X11_199 ho.1 (by decide) rfl rfl (c_X11_eveningAt ho hw) rfl rfl ⟨Nat.le_of_ble_eq_true rfl, Nat.le_of_ble_eq_true rfl⟩ rfl hl.1 rfl (Nat.le_of_ble_eq_true rfl) dX11_drawn_2 ⟨Nat.le_of_ble_eq_true rfl, Nat.le_of_ble_eq_true rfl⟩) hS (fun r1 bs u H locs hx1 hp hM hS => ?_)
  obtain ⟨K, I2, rfl, hw, hqr1⟩ := hp
  have hx1 : EX _ _ R bs K := hx1
  have e0 := hx1.2.1 0 (by unfold lve; rw [ho.1]; decide)
  have E := EX_E hx1 E
  have hl : lv_has ls 6 [(0, .ref (ad bs 0)), (2, .int a2), (3, .int a3), (4, .int a4)] := by rw [e0]; exact lv_sub hl [0, 2, 3, 4] rfl
  have ho := hx1.2.2.2 ho
  have hx0 := EX_tr hx0 hx1
  clear e0 hx1
  rcases r1 with _ | q3
  · have hw := hw.1 rfl
    refine lv_astoreN (lv' := [(5, .null), (0, .ref (ad bs 0)), (2, .int a2), (3, .int a3), (4, .int a4)]) hx hb dX11_drawn_5 hl (by decide) rfl (fun ls hl => ?_)
    refine lv_aloadN hx hb dX11_drawn_7 (lv_at hl 0 rfl) ?_
    refine lv_ifnullN (tgt := 22) hx hb dX11_drawn_9 (by decide) ?_
    refine lv_iconst (v := (-1)) hx hb dX11_drawn_22 (by decide) ?_
    refine W.widen (k := 17) (n := 6542) (Nat.le_of_ble_eq_true rfl) (Nat.le_of_ble_eq_true rfl) ?_
    exact m_retix hx hb hr hlk hx0 hM hS ⟨_, _, rfl, hw⟩ dX11_drawn_23
  · have hq3 := hqr1 _ rfl
    have hw := hw.2 q3 rfl
    refine lv_astore (lv' := [(5, .ref (ad bs q3)), (0, .ref (ad bs 0)), (2, .int a2), (3, .int a3), (4, .int a4)]) hx hb dX11_drawn_5 hl (by decide) rfl (fun ls hl => ?_)
    refine lv_aload hx hb dX11_drawn_7 (lv_at hl 0 rfl) ?_
    refine lv_ifnull hx hb dX11_drawn_9 ?_
    refine lv_iload_n hx hb dX11_drawn_12 rfl (lv_at hl 3 rfl) ?_
    refine lv_if_lt (tgt := 22) hx hb dX11_drawn_13 (by decide) (fun cq => ?_) (fun cq => ?_)
    · have hw := hw.1 cq
      refine lv_iconst (v := (-1)) hx hb dX11_drawn_22 (by decide) ?_
      refine W.widen (k := 17) (n := 6542) (Nat.le_of_ble_eq_true rfl) (Nat.le_of_ble_eq_true rfl) ?_
      exact m_retix hx hb hr hlk hx0 hM hS ⟨_, _, rfl, hw⟩ dX11_drawn_23
    · have hw := hw.2 cq
      refine lv_iload_n hx hb dX11_drawn_16 rfl (lv_at hl 3 rfl) ?_
      refine lv_bipush (v := 100) hx hb dX11_drawn_17 (by decide) ?_
      refine lv_icmp_le (tgt := 24) hx hb dX11_drawn_19 (by decide) (fun cq => ?_) (fun cq => ?_)
      · have hw := hw.1 cq
        refine lv_aload_n hx hb dX11_drawn_24 rfl (lv_at hl 1 rfl) ?_
        refine m_getr E hM fs_X11_70 ho.1 ho.2.2.2.2.2.2.2.2.2.1.1 dX11_drawn_25 ?_
        refine lv_aload hx hb dX11_drawn_28 (lv_at hl 0 rfl) ?_
        refine lv_iload_n hx hb dX11_drawn_30 rfl (lv_at hl 2 rfl) ?_
        refine lv_iload_n hx hb dX11_drawn_31 rfl (lv_at hl 3 rfl) ?_
        refine m_cv (m_runV E hM hS cs_X11_385 ho.2.2.2.2.2.2.2.2.2.1.2.1 (by decide) rfl rfl (c_X1_play ho.2.2.2.2.2.2.2.2.2.1.2 hq3 hw) rfl rfl ⟨Nat.le_of_ble_eq_true rfl, Nat.le_of_ble_eq_true rfl⟩ rfl hl.1 rfl (Nat.le_of_ble_eq_true rfl) dX11_drawn_32 ⟨Nat.le_of_ble_eq_true rfl, Nat.le_of_ble_eq_true rfl⟩) hS (fun u H locs hp hM hS => ?_)
        obtain ⟨I4, rfl, hw⟩ := hp
        refine lv_iload hx hb dX11_drawn_35 (lv_at hl 4 rfl) ?_
        refine lv_if_ne (tgt := 48) hx hb dX11_drawn_37 (by decide) (fun cq => ?_) (fun cq => ?_)
        · have hw := hw.1 cq
          refine lv_iload hx hb dX11_drawn_48 (lv_at hl 4 rfl) ?_
          refine lv_iconst (v := 1) hx hb dX11_drawn_50 (by decide) ?_
          refine lv_icmp_ne (tgt := 62) hx hb dX11_drawn_51 (by decide) (fun cq => ?_) (fun cq => ?_)
          · have hw := hw.1 cq
            refine lv_iload hx hb dX11_drawn_62 (lv_at hl 4 rfl) ?_
            refine lv_bipush (v := 20) hx hb dX11_drawn_64 (by decide) ?_
            refine lv_icmp_lt (tgt := 94) hx hb dX11_drawn_66 (by decide) (fun cq => ?_) (fun cq => ?_)
            · have hw := hw.1 cq
              refine lv_aload_n hx hb dX11_drawn_94 rfl (lv_at hl 1 rfl) ?_
              refine m_getr E hM fs_X11_70 ho.1 ho.2.2.2.2.2.2.2.2.2.1.1 dX11_drawn_95 ?_
              refine m_getr E hM fs_X11_396 ho.2.2.2.2.2.2.2.2.2.1.2.1 (isO_at ho.2.2.2.2.2.2.2.2.2.1.2 0 rfl).1 dX11_drawn_98 ?_
              refine lv_iload hx hb dX11_drawn_101 (lv_at hl 4 rfl) ?_
              refine lv_bipush (v := 10) hx hb dX11_drawn_103 (by decide) ?_
              refine lv_isub hx hb dX11_drawn_105 ?_
              refine lv_aload hx hb dX11_drawn_106 (lv_at hl 0 rfl) ?_
              refine m_getr E hM fs_X11_203 hq3.1.1 hq3.2.1 dX11_drawn_108 ?_
              refine m_geti E hM fs_X11_196 hq3.2.2.1 dX11_drawn_111 ?_
              refine lv_iconst (v := (-1)) hx hb dX11_drawn_114 (by decide) ?_
              refine m_ci (m_runS E hM hS cs_X11_164 (c_X11_pick ((isO_at ho.2.2.2.2.2.2.2.2.2.1.2 0 rfl).2) hw) rfl rfl ⟨Nat.le_of_ble_eq_true rfl, Nat.le_of_ble_eq_true rfl⟩ rfl hl.1 rfl (Nat.le_of_ble_eq_true rfl) dX11_drawn_115 ⟨Nat.le_of_ble_eq_true rfl, Nat.le_of_ble_eq_true rfl⟩) hS (fun r5 u H locs hp hM hS => ?_)
              obtain ⟨rfl, hw⟩ := hp
              refine W.widen (k := 17) (n := 6542) (Nat.le_of_ble_eq_true rfl) (Nat.le_of_ble_eq_true rfl) ?_
              exact m_retix hx hb hr hlk hx0 hM hS ⟨_, _, rfl, hw⟩ dX11_drawn_118
            · have hw := hw.2 cq
              refine lv_aload_n hx hb dX11_drawn_69 rfl (lv_at hl 1 rfl) ?_
              refine m_getr E hM fs_X11_70 ho.1 ho.2.2.2.2.2.2.2.2.2.1.1 dX11_drawn_70 ?_
              refine m_getr E hM fs_X11_393 ho.2.2.2.2.2.2.2.2.2.1.2.1 (isO_at ho.2.2.2.2.2.2.2.2.2.1.2 1 rfl).1 dX11_drawn_73 ?_
              refine lv_iload hx hb dX11_drawn_76 (lv_at hl 4 rfl) ?_
              refine lv_bipush (v := 20) hx hb dX11_drawn_78 (by decide) ?_
              refine lv_isub hx hb dX11_drawn_80 ?_
              refine lv_aload hx hb dX11_drawn_81 (lv_at hl 0 rfl) ?_
              refine m_getr E hM fs_X11_203 hq3.1.1 hq3.2.1 dX11_drawn_83 ?_
              refine m_geti E hM fs_X11_175 hq3.2.2.1 dX11_drawn_86 ?_
              refine lv_iconst (v := (-1)) hx hb dX11_drawn_89 (by decide) ?_
              refine m_ci (m_runS E hM hS cs_X11_164 (c_X11_pick ((isO_at ho.2.2.2.2.2.2.2.2.2.1.2 1 rfl).2) hw) rfl rfl ⟨Nat.le_of_ble_eq_true rfl, Nat.le_of_ble_eq_true rfl⟩ rfl hl.1 rfl (Nat.le_of_ble_eq_true rfl) dX11_drawn_90 ⟨Nat.le_of_ble_eq_true rfl, Nat.le_of_ble_eq_true rfl⟩) hS (fun r6 u H locs hp hM hS => ?_)
              obtain ⟨rfl, hw⟩ := hp
              refine W.widen (k := 17) (n := 6542) (Nat.le_of_ble_eq_true rfl) (Nat.le_of_ble_eq_true rfl) ?_
              exact m_retix hx hb hr hlk hx0 hM hS ⟨_, _, rfl, hw⟩ dX11_drawn_93
          · have hw := hw.2 cq
            refine lv_aload_n hx hb dX11_drawn_54 rfl (lv_at hl 1 rfl) ?_
            refine m_getr E hM fs_X11_70 ho.1 ho.2.2.2.2.2.2.2.2.2.1.1 dX11_drawn_55 ?_
            refine m_ci (m_runV E hM hS cs_X11_390 ho.2.2.2.2.2.2.2.2.2.1.2.1 (by decide) rfl rfl (c_X1_allNotes ho.2.2.2.2.2.2.2.2.2.1.2 hw) rfl rfl ⟨Nat.le_of_ble_eq_true rfl, Nat.le_of_ble_eq_true rfl⟩ rfl hl.1 rfl (Nat.le_of_ble_eq_true rfl) dX11_drawn_58 ⟨Nat.le_of_ble_eq_true rfl, Nat.le_of_ble_eq_true rfl⟩) hS (fun r7 u H locs hp hM hS => ?_)
            obtain ⟨rfl, hw⟩ := hp
            refine W.widen (k := 17) (n := 6542) (Nat.le_of_ble_eq_true rfl) (Nat.le_of_ble_eq_true rfl) ?_
            exact m_retix hx hb hr hlk hx0 hM hS ⟨_, _, rfl, hw⟩ dX11_drawn_61
        · have hw := hw.2 cq
          refine lv_aload_n hx hb dX11_drawn_40 rfl (lv_at hl 1 rfl) ?_
          refine m_getr E hM fs_X11_70 ho.1 ho.2.2.2.2.2.2.2.2.2.1.1 dX11_drawn_41 ?_
          refine m_geti E hM fs_X11_389 ho.2.2.2.2.2.2.2.2.2.1.2.1 dX11_drawn_44 ?_
          refine W.widen (k := 17) (n := 6542) (Nat.le_of_ble_eq_true rfl) (Nat.le_of_ble_eq_true rfl) ?_
          exact m_retix hx hb hr hlk hx0 hM hS ⟨_, _, rfl, hw⟩ dX11_drawn_47
      · have hw := hw.2 cq
        refine lv_iconst (v := (-1)) hx hb dX11_drawn_22 (by decide) ?_
        refine W.widen (k := 17) (n := 6542) (Nat.le_of_ble_eq_true rfl) (Nat.le_of_ble_eq_true rfl) ?_
        exact m_retix hx hb hr hlk hx0 hM hS ⟨_, _, rfl, hw⟩ dX11_drawn_23
theorem dX11_ring_0 : decode cX11_ring 0 = .ok (.aload_n 0, 1) := by decide +kernel
theorem dX11_ring_1 : decode cX11_ring 1 = .ok (.iload_n 1, 1) := by decide +kernel
theorem dX11_ring_2 : decode cX11_ring 2 = .ok (.invokevirtual 199, 3) := by decide +kernel
theorem dX11_ring_5 : decode cX11_ring 5 = .ok (.astore_n 3, 1) := by decide +kernel
theorem dX11_ring_6 : decode cX11_ring 6 = .ok (.aload_n 3, 1) := by decide +kernel
theorem dX11_ring_7 : decode cX11_ring 7 = .ok (.ifnull 10, 3) := by decide +kernel
theorem dX11_ring_10 : decode cX11_ring 10 = .ok (.aload_n 3, 1) := by decide +kernel
theorem dX11_ring_11 : decode cX11_ring 11 = .ok (.getfield 238, 3) := by decide +kernel
theorem dX11_ring_14 : decode cX11_ring 14 = .ok (.ifCond .ne 5, 3) := by decide +kernel
theorem dX11_ring_17 : decode cX11_ring 17 = .ok (.iconst (-1), 1) := by decide +kernel
theorem dX11_ring_18 : decode cX11_ring 18 = .ok (.ireturn, 1) := by decide +kernel
theorem dX11_ring_19 : decode cX11_ring 19 = .ok (.iload_n 2, 1) := by decide +kernel
theorem dX11_ring_20 : decode cX11_ring 20 = .ok (.iconst (-1), 1) := by decide +kernel
theorem dX11_ring_21 : decode cX11_ring 21 = .ok (.if_icmp .ne 10, 3) := by decide +kernel
theorem dX11_ring_24 : decode cX11_ring 24 = .ok (.aload_n 3, 1) := by decide +kernel
theorem dX11_ring_25 : decode cX11_ring 25 = .ok (.invokevirtual 399, 3) := by decide +kernel
theorem dX11_ring_28 : decode cX11_ring 28 = .ok (.goto 16, 3) := by decide +kernel
theorem dX11_ring_31 : decode cX11_ring 31 = .ok (.aload_n 3, 1) := by decide +kernel
theorem dX11_ring_32 : decode cX11_ring 32 = .ok (.getfield 402, 3) := by decide +kernel
theorem dX11_ring_35 : decode cX11_ring 35 = .ok (.iload_n 2, 1) := by decide +kernel
theorem dX11_ring_36 : decode cX11_ring 36 = .ok (.aload_n 3, 1) := by decide +kernel
theorem dX11_ring_37 : decode cX11_ring 37 = .ok (.getfield 238, 3) := by decide +kernel
theorem dX11_ring_40 : decode cX11_ring 40 = .ok (.iconst (-1), 1) := by decide +kernel
theorem dX11_ring_41 : decode cX11_ring 41 = .ok (.invokestatic 164, 3) := by decide +kernel
theorem dX11_ring_44 : decode cX11_ring 44 = .ok (.ireturn, 1) := by decide +kernel
def w_X11_ring (I : mI) (a1 : Int32) (a2 : Int32) (post : Int32 → mI → Prop) : Prop := w_X11_eveningAt I a1 (fun r1 I2 => (r1 = none → post (-1) I2) ∧ (∀ q3 : Nat, r1 = some q3 → (¬ (I2 q3 2) = 0 → (¬ a2 = (-1) → w_X11_pick I2 (q3 + 9) 600 a2 (I2 q3 2) (-1) (fun r4 => post r4 I2)) ∧ (a2 = (-1) → w_X2_longestRing I2 q3 (hE q3) (fun r5 => post r5 I2))) ∧ ((I2 q3 2) = 0 → post (-1) I2)))
set_option maxRecDepth 100000 in
set_option maxHeartbeats 4000000 in
theorem c_X11_ring {l : Launch} {D : va_G} {cA : Nat → ClassId} {Z : mZ} {bs : Ad} {n : Nat} {K : mK} {R : mR} {I : mI} {L : mL} {a1 : Int32} {a2 : Int32} {post : Int32 → mI → Prop} (ho : isX11 K R ) (hw : w_X11_ring I a1 a2 post) : Met l yX11_ring (.code yX11_ring cX11_ring 4 (some .int) :: gw) ({ frames := 5, cells := 17, slots := 6542, locals := 132 } : Room) (PreM D cA Z bs (n, K, R, I, L) [.ref (ad bs 0), .int a1, .int a2]) (QIX D cA bs K R (fun r u => ∃ K' I', u = (n, K', R, I', L) ∧ post r I')) 17 6542 (Ab bs) := by
  refine m_met (by decide) (Nat.le_of_ble_eq_true rfl) (fun p e s m below meth c ls E hr hlk hM hS hl => ?_)
  have E : Ev p s m _ c cX11_ring 4 RX11 D cA Z bs := E
  have hl : lv_has ls 4 [(0, .ref (ad bs 0)), (1, .int a1), (2, .int a2)] := hl
  have hx := E.1.1
  have hb := E.1.2.1
  generalize hHe : s.heap = H at hM ⊢
  have hS : va_S (Ab bs) s.heap H [] := by rw [← hHe]; exact va_S.rf
  clear hHe
  have hx0 := EX_rf bs K R
  refine lv_aload_n hx hb dX11_ring_0 rfl (lv_at hl 0 rfl) ?_
  refine lv_iload_n hx hb dX11_ring_1 rfl (lv_at hl 1 rfl) ?_
  refine m_cox (m_runV E hM hS cs_X11_199 ho.1 (by decide) rfl rfl (c_X11_eveningAt ho hw) rfl rfl ⟨Nat.le_of_ble_eq_true rfl, Nat.le_of_ble_eq_true rfl⟩ rfl hl.1 rfl (Nat.le_of_ble_eq_true rfl) dX11_ring_2 ⟨Nat.le_of_ble_eq_true rfl, Nat.le_of_ble_eq_true rfl⟩) hS (fun r1 bs u H locs hx1 hp hM hS => ?_)
  obtain ⟨K, I2, rfl, hw, hqr1⟩ := hp
  have hx1 : EX _ _ R bs K := hx1
  have e0 := hx1.2.1 0 (by unfold lve; rw [ho.1]; decide)
  have E := EX_E hx1 E
  have hl : lv_has ls 4 [(2, .int a2)] := by exact lv_sub hl [2] rfl
  have ho := hx1.2.2.2 ho
  have hx0 := EX_tr hx0 hx1
  clear e0 hx1
  rcases r1 with _ | q3
  · have hw := hw.1 rfl
    refine lv_astore_nN (lv' := [(3, .null), (2, .int a2)]) hx hb dX11_ring_5 rfl hl (by decide) rfl (fun ls hl => ?_)
    refine lv_aload_nN hx hb dX11_ring_6 rfl (lv_at hl 0 rfl) ?_
    refine lv_ifnullN (tgt := 17) hx hb dX11_ring_7 (by decide) ?_
    refine lv_iconst (v := (-1)) hx hb dX11_ring_17 (by decide) ?_
    refine W.widen (k := 17) (n := 6542) (Nat.le_of_ble_eq_true rfl) (Nat.le_of_ble_eq_true rfl) ?_
    exact m_retix hx hb hr hlk hx0 hM hS ⟨_, _, rfl, hw⟩ dX11_ring_18
  · have hq3 := hqr1 _ rfl
    have hw := hw.2 q3 rfl
    refine lv_astore_n (lv' := [(3, .ref (ad bs q3)), (2, .int a2)]) hx hb dX11_ring_5 rfl hl (by decide) rfl (fun ls hl => ?_)
    refine lv_aload_n hx hb dX11_ring_6 rfl (lv_at hl 0 rfl) ?_
    refine lv_ifnull hx hb dX11_ring_7 ?_
    refine lv_aload_n hx hb dX11_ring_10 rfl (lv_at hl 0 rfl) ?_
    refine m_geti E hM fs_X11_238 hq3.1.1 dX11_ring_11 ?_
    refine lv_if_ne (tgt := 19) hx hb dX11_ring_14 (by decide) (fun cq => ?_) (fun cq => ?_)
    · have hw := hw.1 cq
      refine lv_iload_n hx hb dX11_ring_19 rfl (lv_at hl 1 rfl) ?_
      refine lv_iconst (v := (-1)) hx hb dX11_ring_20 (by decide) ?_
      refine lv_icmp_ne (tgt := 31) hx hb dX11_ring_21 (by decide) (fun cq => ?_) (fun cq => ?_)
      · have hw := hw.1 cq
        refine lv_aload_n hx hb dX11_ring_31 rfl (lv_at hl 0 rfl) ?_
        refine m_getr E hM fs_X11_402 hq3.1.1 (isO_at hq3.1 8 rfl).1 dX11_ring_32 ?_
        refine lv_iload_n hx hb dX11_ring_35 rfl (lv_at hl 1 rfl) ?_
        refine lv_aload_n hx hb dX11_ring_36 rfl (lv_at hl 0 rfl) ?_
        refine m_geti E hM fs_X11_238 hq3.1.1 dX11_ring_37 ?_
        refine lv_iconst (v := (-1)) hx hb dX11_ring_40 (by decide) ?_
        refine m_ci (m_runS E hM hS cs_X11_164 (c_X11_pick ((isO_at hq3.1 8 rfl).2) hw) rfl rfl ⟨Nat.le_of_ble_eq_true rfl, Nat.le_of_ble_eq_true rfl⟩ rfl hl.1 rfl (Nat.le_of_ble_eq_true rfl) dX11_ring_41 ⟨Nat.le_of_ble_eq_true rfl, Nat.le_of_ble_eq_true rfl⟩) hS (fun r4 u H locs hp hM hS => ?_)
        obtain ⟨rfl, hw⟩ := hp
        refine W.widen (k := 17) (n := 6542) (Nat.le_of_ble_eq_true rfl) (Nat.le_of_ble_eq_true rfl) ?_
        exact m_retix hx hb hr hlk hx0 hM hS ⟨_, _, rfl, hw⟩ dX11_ring_44
      · have hw := hw.2 cq
        refine lv_aload_n hx hb dX11_ring_24 rfl (lv_at hl 0 rfl) ?_
        refine m_ci (m_runV E hM hS cs_X11_399 hq3.1.1 (by decide) rfl rfl (c_X2_longestRing hq3 hw) rfl rfl ⟨Nat.le_of_ble_eq_true rfl, Nat.le_of_ble_eq_true rfl⟩ rfl hl.1 rfl (Nat.le_of_ble_eq_true rfl) dX11_ring_25 ⟨Nat.le_of_ble_eq_true rfl, Nat.le_of_ble_eq_true rfl⟩) hS (fun r5 u H locs hp hM hS => ?_)
        obtain ⟨rfl, hw⟩ := hp
        refine lv_goto (tgt := 44) hx hb dX11_ring_28 (by decide) ?_
        refine W.widen (k := 17) (n := 6542) (Nat.le_of_ble_eq_true rfl) (Nat.le_of_ble_eq_true rfl) ?_
        exact m_retix hx hb hr hlk hx0 hM hS ⟨_, _, rfl, hw⟩ dX11_ring_44
    · have hw := hw.2 cq
      refine lv_iconst (v := (-1)) hx hb dX11_ring_17 (by decide) ?_
      refine W.widen (k := 17) (n := 6542) (Nat.le_of_ble_eq_true rfl) (Nat.le_of_ble_eq_true rfl) ?_
      exact m_retix hx hb hr hlk hx0 hM hS ⟨_, _, rfl, hw⟩ dX11_ring_18
theorem dX11_meet_0 : decode cX11_meet 0 = .ok (.aload_n 0, 1) := by decide +kernel
theorem dX11_meet_1 : decode cX11_meet 1 = .ok (.iload_n 1, 1) := by decide +kernel
theorem dX11_meet_2 : decode cX11_meet 2 = .ok (.invokevirtual 199, 3) := by decide +kernel
theorem dX11_meet_5 : decode cX11_meet 5 = .ok (.astore 5, 2) := by decide +kernel
theorem dX11_meet_7 : decode cX11_meet 7 = .ok (.aload 5, 2) := by decide +kernel
theorem dX11_meet_9 : decode cX11_meet 9 = .ok (.ifnull 32, 3) := by decide +kernel
theorem dX11_meet_12 : decode cX11_meet 12 = .ok (.iload_n 2, 1) := by decide +kernel
theorem dX11_meet_13 : decode cX11_meet 13 = .ok (.iload_n 3, 1) := by decide +kernel
theorem dX11_meet_14 : decode cX11_meet 14 = .ok (.if_icmp .eq 27, 3) := by decide +kernel
theorem dX11_meet_17 : decode cX11_meet 17 = .ok (.aload 5, 2) := by decide +kernel
theorem dX11_meet_19 : decode cX11_meet 19 = .ok (.getfield 203, 3) := by decide +kernel
theorem dX11_meet_22 : decode cX11_meet 22 = .ok (.iload_n 2, 1) := by decide +kernel
theorem dX11_meet_23 : decode cX11_meet 23 = .ok (.invokevirtual 204, 3) := by decide +kernel
theorem dX11_meet_26 : decode cX11_meet 26 = .ok (.ifCond .eq 15, 3) := by decide +kernel
theorem dX11_meet_29 : decode cX11_meet 29 = .ok (.aload 5, 2) := by decide +kernel
theorem dX11_meet_31 : decode cX11_meet 31 = .ok (.getfield 203, 3) := by decide +kernel
theorem dX11_meet_34 : decode cX11_meet 34 = .ok (.iload_n 3, 1) := by decide +kernel
theorem dX11_meet_35 : decode cX11_meet 35 = .ok (.invokevirtual 204, 3) := by decide +kernel
theorem dX11_meet_38 : decode cX11_meet 38 = .ok (.ifCond .ne 5, 3) := by decide +kernel
theorem dX11_meet_41 : decode cX11_meet 41 = .ok (.iconst (-1), 1) := by decide +kernel
theorem dX11_meet_42 : decode cX11_meet 42 = .ok (.ireturn, 1) := by decide +kernel
theorem dX11_meet_43 : decode cX11_meet 43 = .ok (.iload 4, 2) := by decide +kernel
theorem dX11_meet_45 : decode cX11_meet 45 = .ok (.ifCond .eq 13, 3) := by decide +kernel
theorem dX11_meet_48 : decode cX11_meet 48 = .ok (.aload 5, 2) := by decide +kernel
theorem dX11_meet_50 : decode cX11_meet 50 = .ok (.iload_n 2, 1) := by decide +kernel
theorem dX11_meet_51 : decode cX11_meet 51 = .ok (.iload_n 3, 1) := by decide +kernel
theorem dX11_meet_52 : decode cX11_meet 52 = .ok (.invokevirtual 405, 3) := by decide +kernel
theorem dX11_meet_55 : decode cX11_meet 55 = .ok (.goto 10, 3) := by decide +kernel
theorem dX11_meet_58 : decode cX11_meet 58 = .ok (.aload 5, 2) := by decide +kernel
theorem dX11_meet_60 : decode cX11_meet 60 = .ok (.iload_n 2, 1) := by decide +kernel
theorem dX11_meet_61 : decode cX11_meet 61 = .ok (.iload_n 3, 1) := by decide +kernel
theorem dX11_meet_62 : decode cX11_meet 62 = .ok (.invokevirtual 408, 3) := by decide +kernel
theorem dX11_meet_65 : decode cX11_meet 65 = .ok (.ireturn, 1) := by decide +kernel
def w_X11_meet (I : mI) (a1 : Int32) (a2 : Int32) (a3 : Int32) (a4 : Int32) (post : Int32 → mI → Prop) : Prop := w_X11_eveningAt I a1 (fun r1 I2 => (r1 = none → post (-1) I2) ∧ (∀ q3 : Nat, r1 = some q3 → (a2 = a3 → post (-1) I2) ∧ (¬ a2 = a3 → w_X3_hasPerson I2 (hE q3) a2 (fun b4 => (b4 = false → post (-1) I2) ∧ (b4 = true → w_X3_hasPerson I2 (hE q3) a3 (fun b5 => (b5 = true → (a4 = 0 → w_X2_firstMeeting I2 q3 (hE q3) a2 a3 (fun r6 => post r6 I2)) ∧ (¬ a4 = 0 → w_X2_passes I2 q3 (hE q3) a2 a3 (fun r7 => post r7 I2))) ∧ (b5 = false → post (-1) I2)))))))
set_option maxRecDepth 100000 in
set_option maxHeartbeats 4000000 in
theorem c_X11_meet {l : Launch} {D : va_G} {cA : Nat → ClassId} {Z : mZ} {bs : Ad} {n : Nat} {K : mK} {R : mR} {I : mI} {L : mL} {a1 : Int32} {a2 : Int32} {a3 : Int32} {a4 : Int32} {post : Int32 → mI → Prop} (ho : isX11 K R ) (hw : w_X11_meet I a1 a2 a3 a4 post) : Met l yX11_meet (.code yX11_meet cX11_meet 6 (some .int) :: gw) ({ frames := 5, cells := 17, slots := 6542, locals := 132 } : Room) (PreM D cA Z bs (n, K, R, I, L) [.ref (ad bs 0), .int a1, .int a2, .int a3, .int a4]) (QIX D cA bs K R (fun r u => ∃ K' I', u = (n, K', R, I', L) ∧ post r I')) 17 6542 (Ab bs) := by
  refine m_met (by decide) (Nat.le_of_ble_eq_true rfl) (fun p e s m below meth c ls E hr hlk hM hS hl => ?_)
  have E : Ev p s m _ c cX11_meet 6 RX11 D cA Z bs := E
  have hl : lv_has ls 6 [(0, .ref (ad bs 0)), (1, .int a1), (2, .int a2), (3, .int a3), (4, .int a4)] := hl
  have hx := E.1.1
  have hb := E.1.2.1
  generalize hHe : s.heap = H at hM ⊢
  have hS : va_S (Ab bs) s.heap H [] := by rw [← hHe]; exact va_S.rf
  clear hHe
  have hx0 := EX_rf bs K R
  refine lv_aload_n hx hb dX11_meet_0 rfl (lv_at hl 0 rfl) ?_
  refine lv_iload_n hx hb dX11_meet_1 rfl (lv_at hl 1 rfl) ?_
  refine m_cox (m_runV E hM hS cs_X11_199 ho.1 (by decide) rfl rfl (c_X11_eveningAt ho hw) rfl rfl ⟨Nat.le_of_ble_eq_true rfl, Nat.le_of_ble_eq_true rfl⟩ rfl hl.1 rfl (Nat.le_of_ble_eq_true rfl) dX11_meet_2 ⟨Nat.le_of_ble_eq_true rfl, Nat.le_of_ble_eq_true rfl⟩) hS (fun r1 bs u H locs hx1 hp hM hS => ?_)
  obtain ⟨K, I2, rfl, hw, hqr1⟩ := hp
  have hx1 : EX _ _ R bs K := hx1
  have e0 := hx1.2.1 0 (by unfold lve; rw [ho.1]; decide)
  have E := EX_E hx1 E
  have hl : lv_has ls 6 [(2, .int a2), (3, .int a3), (4, .int a4)] := by exact lv_sub hl [2, 3, 4] rfl
  have ho := hx1.2.2.2 ho
  have hx0 := EX_tr hx0 hx1
  clear e0 hx1
  rcases r1 with _ | q3
  · have hw := hw.1 rfl
    refine lv_astoreN (lv' := [(5, .null), (2, .int a2), (3, .int a3), (4, .int a4)]) hx hb dX11_meet_5 hl (by decide) rfl (fun ls hl => ?_)
    refine lv_aloadN hx hb dX11_meet_7 (lv_at hl 0 rfl) ?_
    refine lv_ifnullN (tgt := 41) hx hb dX11_meet_9 (by decide) ?_
    refine lv_iconst (v := (-1)) hx hb dX11_meet_41 (by decide) ?_
    refine W.widen (k := 17) (n := 6542) (Nat.le_of_ble_eq_true rfl) (Nat.le_of_ble_eq_true rfl) ?_
    exact m_retix hx hb hr hlk hx0 hM hS ⟨_, _, rfl, hw⟩ dX11_meet_42
  · have hq3 := hqr1 _ rfl
    have hw := hw.2 q3 rfl
    refine lv_astore (lv' := [(5, .ref (ad bs q3)), (2, .int a2), (3, .int a3), (4, .int a4)]) hx hb dX11_meet_5 hl (by decide) rfl (fun ls hl => ?_)
    refine lv_aload hx hb dX11_meet_7 (lv_at hl 0 rfl) ?_
    refine lv_ifnull hx hb dX11_meet_9 ?_
    refine lv_iload_n hx hb dX11_meet_12 rfl (lv_at hl 1 rfl) ?_
    refine lv_iload_n hx hb dX11_meet_13 rfl (lv_at hl 2 rfl) ?_
    refine lv_icmp_eq (tgt := 41) hx hb dX11_meet_14 (by decide) (fun cq => ?_) (fun cq => ?_)
    · have hw := hw.1 cq
      refine lv_iconst (v := (-1)) hx hb dX11_meet_41 (by decide) ?_
      refine W.widen (k := 17) (n := 6542) (Nat.le_of_ble_eq_true rfl) (Nat.le_of_ble_eq_true rfl) ?_
      exact m_retix hx hb hr hlk hx0 hM hS ⟨_, _, rfl, hw⟩ dX11_meet_42
    · have hw := hw.2 cq
      refine lv_aload hx hb dX11_meet_17 (lv_at hl 0 rfl) ?_
      refine m_getr E hM fs_X11_203 hq3.1.1 hq3.2.1 dX11_meet_19 ?_
      refine lv_iload_n hx hb dX11_meet_22 rfl (lv_at hl 1 rfl) ?_
      refine m_ci (m_runV E hM hS cs_X11_204 hq3.2.2.1 (by decide) rfl rfl (c_X3_hasPerson hq3.2.2 hw) rfl rfl ⟨Nat.le_of_ble_eq_true rfl, Nat.le_of_ble_eq_true rfl⟩ rfl hl.1 rfl (Nat.le_of_ble_eq_true rfl) dX11_meet_23 ⟨Nat.le_of_ble_eq_true rfl, Nat.le_of_ble_eq_true rfl⟩) hS (fun r9 u H locs hp hM hS => ?_)
      obtain ⟨b4, rfl, rfl, hw⟩ := hp
      refine lv_if_eq (tgt := 41) hx hb dX11_meet_26 (by decide) (fun cq => ?_) (fun cq => ?_)
      · have hw := hw.1 (bI_f cq)
        refine lv_iconst (v := (-1)) hx hb dX11_meet_41 (by decide) ?_
        refine W.widen (k := 17) (n := 6542) (Nat.le_of_ble_eq_true rfl) (Nat.le_of_ble_eq_true rfl) ?_
        exact m_retix hx hb hr hlk hx0 hM hS ⟨_, _, rfl, hw⟩ dX11_meet_42
      · have hw := hw.2 (bI_t cq)
        refine lv_aload hx hb dX11_meet_29 (lv_at hl 0 rfl) ?_
        refine m_getr E hM fs_X11_203 hq3.1.1 hq3.2.1 dX11_meet_31 ?_
        refine lv_iload_n hx hb dX11_meet_34 rfl (lv_at hl 2 rfl) ?_
        refine m_ci (m_runV E hM hS cs_X11_204 hq3.2.2.1 (by decide) rfl rfl (c_X3_hasPerson hq3.2.2 hw) rfl rfl ⟨Nat.le_of_ble_eq_true rfl, Nat.le_of_ble_eq_true rfl⟩ rfl hl.1 rfl (Nat.le_of_ble_eq_true rfl) dX11_meet_35 ⟨Nat.le_of_ble_eq_true rfl, Nat.le_of_ble_eq_true rfl⟩) hS (fun r9 u H locs hp hM hS => ?_)
        obtain ⟨b5, rfl, rfl, hw⟩ := hp
        refine lv_if_ne (tgt := 43) hx hb dX11_meet_38 (by decide) (fun cq => ?_) (fun cq => ?_)
        · have hw := hw.1 (bI_t cq)
          refine lv_iload hx hb dX11_meet_43 (lv_at hl 3 rfl) ?_
          refine lv_if_eq (tgt := 58) hx hb dX11_meet_45 (by decide) (fun cq => ?_) (fun cq => ?_)
          · have hw := hw.1 cq
            refine lv_aload hx hb dX11_meet_58 (lv_at hl 0 rfl) ?_
            refine lv_iload_n hx hb dX11_meet_60 rfl (lv_at hl 1 rfl) ?_
            refine lv_iload_n hx hb dX11_meet_61 rfl (lv_at hl 2 rfl) ?_
            refine m_ci (m_runV E hM hS cs_X11_408 hq3.1.1 (by decide) rfl rfl (c_X2_firstMeeting hq3 hw) rfl rfl ⟨Nat.le_of_ble_eq_true rfl, Nat.le_of_ble_eq_true rfl⟩ rfl hl.1 rfl (Nat.le_of_ble_eq_true rfl) dX11_meet_62 ⟨Nat.le_of_ble_eq_true rfl, Nat.le_of_ble_eq_true rfl⟩) hS (fun r6 u H locs hp hM hS => ?_)
            obtain ⟨rfl, hw⟩ := hp
            refine W.widen (k := 17) (n := 6542) (Nat.le_of_ble_eq_true rfl) (Nat.le_of_ble_eq_true rfl) ?_
            exact m_retix hx hb hr hlk hx0 hM hS ⟨_, _, rfl, hw⟩ dX11_meet_65
          · have hw := hw.2 cq
            refine lv_aload hx hb dX11_meet_48 (lv_at hl 0 rfl) ?_
            refine lv_iload_n hx hb dX11_meet_50 rfl (lv_at hl 1 rfl) ?_
            refine lv_iload_n hx hb dX11_meet_51 rfl (lv_at hl 2 rfl) ?_
            refine m_ci (m_runV E hM hS cs_X11_405 hq3.1.1 (by decide) rfl rfl (c_X2_passes hq3 hw) rfl rfl ⟨Nat.le_of_ble_eq_true rfl, Nat.le_of_ble_eq_true rfl⟩ rfl hl.1 rfl (Nat.le_of_ble_eq_true rfl) dX11_meet_52 ⟨Nat.le_of_ble_eq_true rfl, Nat.le_of_ble_eq_true rfl⟩) hS (fun r7 u H locs hp hM hS => ?_)
            obtain ⟨rfl, hw⟩ := hp
            refine lv_goto (tgt := 65) hx hb dX11_meet_55 (by decide) ?_
            refine W.widen (k := 17) (n := 6542) (Nat.le_of_ble_eq_true rfl) (Nat.le_of_ble_eq_true rfl) ?_
            exact m_retix hx hb hr hlk hx0 hM hS ⟨_, _, rfl, hw⟩ dX11_meet_65
        · have hw := hw.2 (bI_f cq)
          refine lv_iconst (v := (-1)) hx hb dX11_meet_41 (by decide) ?_
          refine W.widen (k := 17) (n := 6542) (Nat.le_of_ble_eq_true rfl) (Nat.le_of_ble_eq_true rfl) ?_
          exact m_retix hx hb hr hlk hx0 hM hS ⟨_, _, rfl, hw⟩ dX11_meet_42
theorem dX11_lookAtAll_0 : decode cX11_lookAtAll 0 = .ok (.iload_n 1, 1) := by decide +kernel
theorem dX11_lookAtAll_1 : decode cX11_lookAtAll 1 = .ok (.tableswitch 45 0 2 #[27, 32, 37], 27) := by decide +kernel
theorem dX11_lookAtAll_28 : decode cX11_lookAtAll 28 = .ok (.aload_n 0, 1) := by decide +kernel
theorem dX11_lookAtAll_29 : decode cX11_lookAtAll 29 = .ok (.invokevirtual 427, 3) := by decide +kernel
theorem dX11_lookAtAll_32 : decode cX11_lookAtAll 32 = .ok (.ireturn, 1) := by decide +kernel
theorem dX11_lookAtAll_33 : decode cX11_lookAtAll 33 = .ok (.aload_n 0, 1) := by decide +kernel
theorem dX11_lookAtAll_34 : decode cX11_lookAtAll 34 = .ok (.invokevirtual 430, 3) := by decide +kernel
theorem dX11_lookAtAll_37 : decode cX11_lookAtAll 37 = .ok (.ireturn, 1) := by decide +kernel
theorem dX11_lookAtAll_38 : decode cX11_lookAtAll 38 = .ok (.aload_n 0, 1) := by decide +kernel
theorem dX11_lookAtAll_39 : decode cX11_lookAtAll 39 = .ok (.getfield 203, 3) := by decide +kernel
theorem dX11_lookAtAll_42 : decode cX11_lookAtAll 42 = .ok (.invokevirtual 433, 3) := by decide +kernel
theorem dX11_lookAtAll_45 : decode cX11_lookAtAll 45 = .ok (.ireturn, 1) := by decide +kernel
theorem dX11_lookAtAll_46 : decode cX11_lookAtAll 46 = .ok (.bipush (-2), 2) := by decide +kernel
theorem dX11_lookAtAll_48 : decode cX11_lookAtAll 48 = .ok (.ireturn, 1) := by decide +kernel
def w_X11_lookAtAll (I : mI) (a1 : Nat) (a1h : Nat) (a2 : Int32) (post : Int32 → mI → Prop) : Prop := (a2 = 0 → w_X2_longestHush I a1 a1h (fun r1 => post r1 I)) ∧ (a2 = 1 → w_X2_busiestStep I a1 a1h (fun r2 I3 => post r2 I3)) ∧ (a2 = 2 → w_X3_copies I a1h (fun r4 => post r4 I)) ∧ (¬ a2 = 0 → ¬ a2 = 1 → ¬ a2 = 2 → post (-2) I)
set_option maxRecDepth 100000 in
set_option maxHeartbeats 4000000 in
theorem c_X11_lookAtAll {l : Launch} {D : va_G} {cA : Nat → ClassId} {Z : mZ} {bs : Ad} {n : Nat} {K : mK} {R : mR} {I : mI} {L : mL} {a1 : Nat} {a1h : Nat} {a2 : Int32} {post : Int32 → mI → Prop} (ha1 : isX2 K R a1 a1h) (hw : w_X11_lookAtAll I a1 a1h a2 post) : Met l yX11_lookAtAll (.code yX11_lookAtAll cX11_lookAtAll 2 (some .int) :: gw) ({ frames := 3, cells := 0, slots := 0, locals := 71 } : Room) (PreM D cA Z bs (n, K, R, I, L) [.ref (ad bs a1), .int a2]) (QI D cA bs (fun r u => ∃ I', u = (n, K, R, I', L) ∧ post r I')) 0 0 (Ab bs) := by
  refine m_met (by decide) (Nat.le_of_ble_eq_true rfl) (fun p e s m below meth c ls E hr hlk hM hS hl => ?_)
  have E : Ev p s m _ c cX11_lookAtAll 2 RX11 D cA Z bs := E
  have hl : lv_has ls 2 [(0, .ref (ad bs a1)), (1, .int a2)] := hl
  have hx := E.1.1
  have hb := E.1.2.1
  generalize hHe : s.heap = H at hM ⊢
  have hS : va_S (Ab bs) s.heap H [] := by rw [← hHe]; exact va_S.rf
  clear hHe
  refine lv_iload_n hx hb dX11_lookAtAll_0 rfl (lv_at hl 1 rfl) ?_
  by_cases cq0 : a2 = 0
  · have hw := hw.1 cq0
    refine lv_tableIn (tgt := 28) hx hb dX11_lookAtAll_1 (by rw [cq0]; decide) (by rw [cq0]; decide) (by rw [cq0]; rfl) (by decide) ?_
    refine lv_aload_n hx hb dX11_lookAtAll_28 rfl (lv_at hl 0 rfl) ?_
    refine m_ci (m_runV E hM hS cs_X11_427 ha1.1.1 (by decide) rfl rfl (c_X2_longestHush ha1 hw) rfl rfl ⟨Nat.le_of_ble_eq_true rfl, Nat.le_of_ble_eq_true rfl⟩ rfl hl.1 rfl (Nat.le_of_ble_eq_true rfl) dX11_lookAtAll_29 ⟨Nat.le_of_ble_eq_true rfl, Nat.le_of_ble_eq_true rfl⟩) hS (fun r1 u H locs hp hM hS => ?_)
    obtain ⟨rfl, hw⟩ := hp
    exact m_reti hx hb hr hlk hM hS ⟨_, rfl, hw⟩ dX11_lookAtAll_32
  by_cases cq1 : a2 = 1
  · have hw := hw.2.1 cq1
    refine lv_tableIn (tgt := 33) hx hb dX11_lookAtAll_1 (by rw [cq1]; decide) (by rw [cq1]; decide) (by rw [cq1]; rfl) (by decide) ?_
    refine lv_aload_n hx hb dX11_lookAtAll_33 rfl (lv_at hl 0 rfl) ?_
    refine m_ci (m_runV E hM hS cs_X11_430 ha1.1.1 (by decide) rfl rfl (c_X2_busiestStep ha1 hw) rfl rfl ⟨Nat.le_of_ble_eq_true rfl, Nat.le_of_ble_eq_true rfl⟩ rfl hl.1 rfl (Nat.le_of_ble_eq_true rfl) dX11_lookAtAll_34 ⟨Nat.le_of_ble_eq_true rfl, Nat.le_of_ble_eq_true rfl⟩) hS (fun r2 u H locs hp hM hS => ?_)
    obtain ⟨I3, rfl, hw⟩ := hp
    exact m_reti hx hb hr hlk hM hS ⟨_, rfl, hw⟩ dX11_lookAtAll_37
  by_cases cq2 : a2 = 2
  · have hw := hw.2.2.1 cq2
    refine lv_tableIn (tgt := 38) hx hb dX11_lookAtAll_1 (by rw [cq2]; decide) (by rw [cq2]; decide) (by rw [cq2]; rfl) (by decide) ?_
    refine lv_aload_n hx hb dX11_lookAtAll_38 rfl (lv_at hl 0 rfl) ?_
    refine m_getr E hM fs_X11_203 ha1.1.1 ha1.2.1 dX11_lookAtAll_39 ?_
    refine m_ci (m_runV E hM hS cs_X11_433 ha1.2.2.1 (by decide) rfl rfl (c_X3_copies ha1.2.2 hw) rfl rfl ⟨Nat.le_of_ble_eq_true rfl, Nat.le_of_ble_eq_true rfl⟩ rfl hl.1 rfl (Nat.le_of_ble_eq_true rfl) dX11_lookAtAll_42 ⟨Nat.le_of_ble_eq_true rfl, Nat.le_of_ble_eq_true rfl⟩) hS (fun r4 u H locs hp hM hS => ?_)
    obtain ⟨rfl, hw⟩ := hp
    exact m_reti hx hb hr hlk hM hS ⟨_, rfl, hw⟩ dX11_lookAtAll_45
  have hw := hw.2.2.2 cq0 cq1 cq2
  refine lv_tableOut (tgt := 46) hx hb dX11_lookAtAll_1 (by have hn0 := lv_neT cq0 (a := 0) (by decide); have hn1 := lv_neT cq1 (a := 1) (by decide); have hn2 := lv_neT cq2 (a := 2) (by decide); omega) (by decide) ?_
  refine lv_bipush (v := (-2)) hx hb dX11_lookAtAll_46 (by decide) ?_
  exact m_reti hx hb hr hlk hM hS ⟨_, rfl, hw⟩ dX11_lookAtAll_48
theorem dX11_bestBegin_0 : decode cX11_bestBegin 0 = .ok (.aload_n 1, 1) := by decide +kernel
theorem dX11_bestBegin_1 : decode cX11_bestBegin 1 = .ok (.getfield 203, 3) := by decide +kernel
theorem dX11_bestBegin_4 : decode cX11_bestBegin 4 = .ok (.iload_n 2, 1) := by decide +kernel
theorem dX11_bestBegin_5 : decode cX11_bestBegin 5 = .ok (.invokevirtual 436, 3) := by decide +kernel
theorem dX11_bestBegin_8 : decode cX11_bestBegin 8 = .ok (.ifCond .ne 5, 3) := by decide +kernel
theorem dX11_bestBegin_11 : decode cX11_bestBegin 11 = .ok (.iconst (-1), 1) := by decide +kernel
theorem dX11_bestBegin_12 : decode cX11_bestBegin 12 = .ok (.ireturn, 1) := by decide +kernel
theorem dX11_bestBegin_13 : decode cX11_bestBegin 13 = .ok (.aload_n 0, 1) := by decide +kernel
theorem dX11_bestBegin_14 : decode cX11_bestBegin 14 = .ok (.getfield 42, 3) := by decide +kernel
theorem dX11_bestBegin_17 : decode cX11_bestBegin 17 = .ok (.aload_n 1, 1) := by decide +kernel
theorem dX11_bestBegin_18 : decode cX11_bestBegin 18 = .ok (.iload_n 2, 1) := by decide +kernel
theorem dX11_bestBegin_19 : decode cX11_bestBegin 19 = .ok (.iconst 0, 1) := by decide +kernel
theorem dX11_bestBegin_20 : decode cX11_bestBegin 20 = .ok (.bipush 100, 2) := by decide +kernel
theorem dX11_bestBegin_22 : decode cX11_bestBegin 22 = .ok (.invokevirtual 312, 3) := by decide +kernel
theorem dX11_bestBegin_25 : decode cX11_bestBegin 25 = .ok (.aload_n 0, 1) := by decide +kernel
theorem dX11_bestBegin_26 : decode cX11_bestBegin 26 = .ok (.getfield 56, 3) := by decide +kernel
theorem dX11_bestBegin_29 : decode cX11_bestBegin 29 = .ok (.aload_n 1, 1) := by decide +kernel
theorem dX11_bestBegin_30 : decode cX11_bestBegin 30 = .ok (.aload_n 0, 1) := by decide +kernel
theorem dX11_bestBegin_31 : decode cX11_bestBegin 31 = .ok (.getfield 42, 3) := by decide +kernel
theorem dX11_bestBegin_34 : decode cX11_bestBegin 34 = .ok (.iload_n 2, 1) := by decide +kernel
theorem dX11_bestBegin_35 : decode cX11_bestBegin 35 = .ok (.invokevirtual 439, 3) := by decide +kernel
theorem dX11_bestBegin_38 : decode cX11_bestBegin 38 = .ok (.ireturn, 1) := by decide +kernel
def w_X11_bestBegin (I : mI) (a1 : Nat) (a1h : Nat) (a2 : Int32) (post : Int32 → mI → Prop) : Prop := w_X3_walks I a1h a2 (fun b1 => (b1 = true → w_X4_watch I 66 a1 a1h a2 0 100 (fun I2 => w_X0_best I2 75 a1 a1h 66 a2 (fun r3 I4 => post r3 I4))) ∧ (b1 = false → post (-1) I))
set_option maxRecDepth 100000 in
set_option maxHeartbeats 4000000 in
theorem c_X11_bestBegin {l : Launch} {D : va_G} {cA : Nat → ClassId} {Z : mZ} {bs : Ad} {n : Nat} {K : mK} {R : mR} {I : mI} {L : mL} {a1 : Nat} {a1h : Nat} {a2 : Int32} {post : Int32 → mI → Prop} (ho : isX11 K R ) (ha1 : isX2 K R a1 a1h) (hw : w_X11_bestBegin I a1 a1h a2 post) : Met l yX11_bestBegin (.code yX11_bestBegin cX11_bestBegin 3 (some .int) :: gw) ({ frames := 5, cells := 0, slots := 0, locals := 148 } : Room) (PreM D cA Z bs (n, K, R, I, L) [.ref (ad bs 0), .ref (ad bs a1), .int a2]) (QI D cA bs (fun r u => ∃ I', u = (n, K, R, I', L) ∧ post r I')) 0 0 (Ab bs) := by
  refine m_met (by decide) (Nat.le_of_ble_eq_true rfl) (fun p e s m below meth c ls E hr hlk hM hS hl => ?_)
  have E : Ev p s m _ c cX11_bestBegin 3 RX11 D cA Z bs := E
  have hl : lv_has ls 3 [(0, .ref (ad bs 0)), (1, .ref (ad bs a1)), (2, .int a2)] := hl
  have hx := E.1.1
  have hb := E.1.2.1
  generalize hHe : s.heap = H at hM ⊢
  have hS : va_S (Ab bs) s.heap H [] := by rw [← hHe]; exact va_S.rf
  clear hHe
  refine lv_aload_n hx hb dX11_bestBegin_0 rfl (lv_at hl 1 rfl) ?_
  refine m_getr E hM fs_X11_203 ha1.1.1 ha1.2.1 dX11_bestBegin_1 ?_
  refine lv_iload_n hx hb dX11_bestBegin_4 rfl (lv_at hl 2 rfl) ?_
  refine m_ci (m_runV E hM hS cs_X11_436 ha1.2.2.1 (by decide) rfl rfl (c_X3_walks ha1.2.2 hw) rfl rfl ⟨Nat.le_of_ble_eq_true rfl, Nat.le_of_ble_eq_true rfl⟩ rfl hl.1 rfl (Nat.le_of_ble_eq_true rfl) dX11_bestBegin_5 ⟨Nat.le_of_ble_eq_true rfl, Nat.le_of_ble_eq_true rfl⟩) hS (fun r9 u H locs hp hM hS => ?_)
  obtain ⟨b1, rfl, rfl, hw⟩ := hp
  refine lv_if_ne (tgt := 13) hx hb dX11_bestBegin_8 (by decide) (fun cq => ?_) (fun cq => ?_)
  · have hw := hw.1 (bI_t cq)
    refine lv_aload_n hx hb dX11_bestBegin_13 rfl (lv_at hl 0 rfl) ?_
    refine m_getr E hM fs_X11_42 ho.1 ho.2.2.2.2.2.1.1 dX11_bestBegin_14 ?_
    refine lv_aload_n hx hb dX11_bestBegin_17 rfl (lv_at hl 1 rfl) ?_
    refine lv_iload_n hx hb dX11_bestBegin_18 rfl (lv_at hl 2 rfl) ?_
    refine lv_iconst (v := 0) hx hb dX11_bestBegin_19 (by decide) ?_
    refine lv_bipush (v := 100) hx hb dX11_bestBegin_20 (by decide) ?_
    refine m_cv (m_runV E hM hS cs_X11_312 ho.2.2.2.2.2.1.2.1 (by decide) rfl rfl (c_X4_watch ho.2.2.2.2.2.1.2 ha1 hw) rfl rfl ⟨Nat.le_of_ble_eq_true rfl, Nat.le_of_ble_eq_true rfl⟩ rfl hl.1 rfl (Nat.le_of_ble_eq_true rfl) dX11_bestBegin_22 ⟨Nat.le_of_ble_eq_true rfl, Nat.le_of_ble_eq_true rfl⟩) hS (fun u H locs hp hM hS => ?_)
    obtain ⟨I2, rfl, hw⟩ := hp
    refine lv_aload_n hx hb dX11_bestBegin_25 rfl (lv_at hl 0 rfl) ?_
    refine m_getr E hM fs_X11_56 ho.1 ho.2.2.2.2.2.2.2.1.1 dX11_bestBegin_26 ?_
    refine lv_aload_n hx hb dX11_bestBegin_29 rfl (lv_at hl 1 rfl) ?_
    refine lv_aload_n hx hb dX11_bestBegin_30 rfl (lv_at hl 0 rfl) ?_
    refine m_getr E hM fs_X11_42 ho.1 ho.2.2.2.2.2.1.1 dX11_bestBegin_31 ?_
    refine lv_iload_n hx hb dX11_bestBegin_34 rfl (lv_at hl 2 rfl) ?_
    refine m_ci (m_runV E hM hS cs_X11_439 ho.2.2.2.2.2.2.2.1.2.1 (by decide) rfl rfl (c_X0_best ho.2.2.2.2.2.2.2.1.2 ha1 ho.2.2.2.2.2.1.2 hw) rfl rfl ⟨Nat.le_of_ble_eq_true rfl, Nat.le_of_ble_eq_true rfl⟩ rfl hl.1 rfl (Nat.le_of_ble_eq_true rfl) dX11_bestBegin_35 ⟨Nat.le_of_ble_eq_true rfl, Nat.le_of_ble_eq_true rfl⟩) hS (fun r3 u H locs hp hM hS => ?_)
    obtain ⟨I4, rfl, hw⟩ := hp
    exact m_reti hx hb hr hlk hM hS ⟨_, rfl, hw⟩ dX11_bestBegin_38
  · have hw := hw.2 (bI_f cq)
    refine lv_iconst (v := (-1)) hx hb dX11_bestBegin_11 (by decide) ?_
    exact m_reti hx hb hr hlk hM hS ⟨_, rfl, hw⟩ dX11_bestBegin_12
theorem dX11_look_0 : decode cX11_look 0 = .ok (.aload_n 0, 1) := by decide +kernel
theorem dX11_look_1 : decode cX11_look 1 = .ok (.iload_n 1, 1) := by decide +kernel
theorem dX11_look_2 : decode cX11_look 2 = .ok (.invokevirtual 199, 3) := by decide +kernel
theorem dX11_look_5 : decode cX11_look 5 = .ok (.astore_n 3, 1) := by decide +kernel
theorem dX11_look_6 : decode cX11_look 6 = .ok (.aload_n 3, 1) := by decide +kernel
theorem dX11_look_7 : decode cX11_look 7 = .ok (.ifnull 7, 3) := by decide +kernel
theorem dX11_look_10 : decode cX11_look 10 = .ok (.iload_n 2, 1) := by decide +kernel
theorem dX11_look_11 : decode cX11_look 11 = .ok (.ifCond .ge 6, 3) := by decide +kernel
theorem dX11_look_14 : decode cX11_look 14 = .ok (.bipush (-2), 2) := by decide +kernel
theorem dX11_look_16 : decode cX11_look 16 = .ok (.ireturn, 1) := by decide +kernel
theorem dX11_look_17 : decode cX11_look 17 = .ok (.iload_n 2, 1) := by decide +kernel
theorem dX11_look_18 : decode cX11_look 18 = .ok (.bipush 10, 2) := by decide +kernel
theorem dX11_look_20 : decode cX11_look 20 = .ok (.irem, 1) := by decide +kernel
theorem dX11_look_21 : decode cX11_look 21 = .ok (.istore 4, 2) := by decide +kernel
theorem dX11_look_23 : decode cX11_look 23 = .ok (.iload_n 2, 1) := by decide +kernel
theorem dX11_look_24 : decode cX11_look 24 = .ok (.bipush 10, 2) := by decide +kernel
theorem dX11_look_26 : decode cX11_look 26 = .ok (.idiv, 1) := by decide +kernel
theorem dX11_look_27 : decode cX11_look 27 = .ok (.tableswitch 136 0 4 #[33, 39, 63, 87, 111], 33) := by decide +kernel
theorem dX11_look_60 : decode cX11_look 60 = .ok (.aload_n 3, 1) := by decide +kernel
theorem dX11_look_61 : decode cX11_look 61 = .ok (.iload_n 2, 1) := by decide +kernel
theorem dX11_look_62 : decode cX11_look 62 = .ok (.invokestatic 411, 3) := by decide +kernel
theorem dX11_look_65 : decode cX11_look 65 = .ok (.ireturn, 1) := by decide +kernel
theorem dX11_look_66 : decode cX11_look 66 = .ok (.aload_n 3, 1) := by decide +kernel
theorem dX11_look_67 : decode cX11_look 67 = .ok (.getfield 203, 3) := by decide +kernel
theorem dX11_look_70 : decode cX11_look 70 = .ok (.iload 4, 2) := by decide +kernel
theorem dX11_look_72 : decode cX11_look 72 = .ok (.invokevirtual 263, 3) := by decide +kernel
theorem dX11_look_75 : decode cX11_look 75 = .ok (.ifCond .eq 12, 3) := by decide +kernel
theorem dX11_look_78 : decode cX11_look 78 = .ok (.aload_n 3, 1) := by decide +kernel
theorem dX11_look_79 : decode cX11_look 79 = .ok (.iload 4, 2) := by decide +kernel
theorem dX11_look_81 : decode cX11_look 81 = .ok (.invokevirtual 415, 3) := by decide +kernel
theorem dX11_look_84 : decode cX11_look 84 = .ok (.goto 5, 3) := by decide +kernel
theorem dX11_look_87 : decode cX11_look 87 = .ok (.bipush (-2), 2) := by decide +kernel
theorem dX11_look_89 : decode cX11_look 89 = .ok (.ireturn, 1) := by decide +kernel
theorem dX11_look_90 : decode cX11_look 90 = .ok (.aload_n 3, 1) := by decide +kernel
theorem dX11_look_91 : decode cX11_look 91 = .ok (.getfield 203, 3) := by decide +kernel
theorem dX11_look_94 : decode cX11_look 94 = .ok (.iload 4, 2) := by decide +kernel
theorem dX11_look_96 : decode cX11_look 96 = .ok (.invokevirtual 263, 3) := by decide +kernel
theorem dX11_look_99 : decode cX11_look 99 = .ok (.ifCond .eq 12, 3) := by decide +kernel
theorem dX11_look_102 : decode cX11_look 102 = .ok (.aload_n 3, 1) := by decide +kernel
theorem dX11_look_103 : decode cX11_look 103 = .ok (.iload 4, 2) := by decide +kernel
theorem dX11_look_105 : decode cX11_look 105 = .ok (.invokevirtual 418, 3) := by decide +kernel
theorem dX11_look_108 : decode cX11_look 108 = .ok (.goto 5, 3) := by decide +kernel
theorem dX11_look_111 : decode cX11_look 111 = .ok (.bipush (-2), 2) := by decide +kernel
theorem dX11_look_113 : decode cX11_look 113 = .ok (.ireturn, 1) := by decide +kernel
theorem dX11_look_114 : decode cX11_look 114 = .ok (.aload_n 3, 1) := by decide +kernel
theorem dX11_look_115 : decode cX11_look 115 = .ok (.getfield 203, 3) := by decide +kernel
theorem dX11_look_118 : decode cX11_look 118 = .ok (.iload 4, 2) := by decide +kernel
theorem dX11_look_120 : decode cX11_look 120 = .ok (.invokevirtual 204, 3) := by decide +kernel
theorem dX11_look_123 : decode cX11_look 123 = .ok (.ifCond .eq 12, 3) := by decide +kernel
theorem dX11_look_126 : decode cX11_look 126 = .ok (.aload_n 3, 1) := by decide +kernel
theorem dX11_look_127 : decode cX11_look 127 = .ok (.iload 4, 2) := by decide +kernel
theorem dX11_look_129 : decode cX11_look 129 = .ok (.invokevirtual 421, 3) := by decide +kernel
theorem dX11_look_132 : decode cX11_look 132 = .ok (.goto 5, 3) := by decide +kernel
theorem dX11_look_135 : decode cX11_look 135 = .ok (.bipush (-2), 2) := by decide +kernel
theorem dX11_look_137 : decode cX11_look 137 = .ok (.ireturn, 1) := by decide +kernel
theorem dX11_look_138 : decode cX11_look 138 = .ok (.aload_n 3, 1) := by decide +kernel
theorem dX11_look_139 : decode cX11_look 139 = .ok (.getfield 203, 3) := by decide +kernel
theorem dX11_look_142 : decode cX11_look 142 = .ok (.iload 4, 2) := by decide +kernel
theorem dX11_look_144 : decode cX11_look 144 = .ok (.invokevirtual 204, 3) := by decide +kernel
theorem dX11_look_147 : decode cX11_look 147 = .ok (.ifCond .eq 13, 3) := by decide +kernel
theorem dX11_look_150 : decode cX11_look 150 = .ok (.aload_n 0, 1) := by decide +kernel
theorem dX11_look_151 : decode cX11_look 151 = .ok (.aload_n 3, 1) := by decide +kernel
theorem dX11_look_152 : decode cX11_look 152 = .ok (.iload 4, 2) := by decide +kernel
theorem dX11_look_154 : decode cX11_look 154 = .ok (.invokevirtual 424, 3) := by decide +kernel
theorem dX11_look_157 : decode cX11_look 157 = .ok (.goto 5, 3) := by decide +kernel
theorem dX11_look_160 : decode cX11_look 160 = .ok (.bipush (-2), 2) := by decide +kernel
theorem dX11_look_162 : decode cX11_look 162 = .ok (.ireturn, 1) := by decide +kernel
theorem dX11_look_163 : decode cX11_look 163 = .ok (.bipush (-2), 2) := by decide +kernel
theorem dX11_look_165 : decode cX11_look 165 = .ok (.ireturn, 1) := by decide +kernel
def w_X11_look (I : mI) (a1 : Int32) (a2 : Int32) (post : Int32 → mI → Prop) : Prop := w_X11_eveningAt I a1 (fun r1 I2 => (r1 = none → post (-2) I2) ∧ (∀ q3 : Nat, r1 = some q3 → (0 ≤ a2 → ∀ x4, x4 = (irem a2 10) → ∀ x5, x5 = (a2 / 10) → (x5 = 0 → w_X11_lookAtAll I2 q3 (hE q3) a2 (fun r6 I7 => post r6 I7)) ∧ (x5 = 1 → w_X3_hasFlat I2 (hE q3) x4 (fun b8 => (b8 = false → post (-2) I2) ∧ (b8 = true → w_X2_shoesHeard I2 q3 (hE q3) x4 (fun r9 => post r9 I2)))) ∧ (x5 = 2 → w_X3_hasFlat I2 (hE q3) x4 (fun b10 => (b10 = false → post (-2) I2) ∧ (b10 = true → w_X2_quietestStep I2 q3 (hE q3) x4 (fun r11 I12 => post r11 I12)))) ∧ (x5 = 3 → w_X3_hasPerson I2 (hE q3) x4 (fun b13 => (b13 = false → post (-2) I2) ∧ (b13 = true → w_X2_loudestUnheardShoe I2 q3 (hE q3) x4 (fun r14 => post r14 I2)))) ∧ (x5 = 4 → w_X3_hasPerson I2 (hE q3) x4 (fun b15 => (b15 = false → post (-2) I2) ∧ (b15 = true → w_X11_bestBegin I2 q3 (hE q3) x4 (fun r16 I17 => post r16 I17)))) ∧ (¬ x5 = 0 → ¬ x5 = 1 → ¬ x5 = 2 → ¬ x5 = 3 → ¬ x5 = 4 → post (-2) I2)) ∧ (¬ 0 ≤ a2 → post (-2) I2)))
set_option maxRecDepth 100000 in
set_option maxHeartbeats 4000000 in
theorem c_X11_look {l : Launch} {D : va_G} {cA : Nat → ClassId} {Z : mZ} {bs : Ad} {n : Nat} {K : mK} {R : mR} {I : mI} {L : mL} {a1 : Int32} {a2 : Int32} {post : Int32 → mI → Prop} (ho : isX11 K R ) (hw : w_X11_look I a1 a2 post) : Met l yX11_look (.code yX11_look cX11_look 5 (some .int) :: gw) ({ frames := 6, cells := 17, slots := 6542, locals := 170 } : Room) (PreM D cA Z bs (n, K, R, I, L) [.ref (ad bs 0), .int a1, .int a2]) (QIX D cA bs K R (fun r u => ∃ K' I', u = (n, K', R, I', L) ∧ post r I')) 17 6542 (Ab bs) := by
  refine m_met (by decide) (Nat.le_of_ble_eq_true rfl) (fun p e s m below meth c ls E hr hlk hM hS hl => ?_)
  have E : Ev p s m _ c cX11_look 5 RX11 D cA Z bs := E
  have hl : lv_has ls 5 [(0, .ref (ad bs 0)), (1, .int a1), (2, .int a2)] := hl
  have hx := E.1.1
  have hb := E.1.2.1
  generalize hHe : s.heap = H at hM ⊢
  have hS : va_S (Ab bs) s.heap H [] := by rw [← hHe]; exact va_S.rf
  clear hHe
  have hx0 := EX_rf bs K R
  refine lv_aload_n hx hb dX11_look_0 rfl (lv_at hl 0 rfl) ?_
  refine lv_iload_n hx hb dX11_look_1 rfl (lv_at hl 1 rfl) ?_
  refine m_cox (m_runV E hM hS cs_X11_199 ho.1 (by decide) rfl rfl (c_X11_eveningAt ho hw) rfl rfl ⟨Nat.le_of_ble_eq_true rfl, Nat.le_of_ble_eq_true rfl⟩ rfl hl.1 rfl (Nat.le_of_ble_eq_true rfl) dX11_look_2 ⟨Nat.le_of_ble_eq_true rfl, Nat.le_of_ble_eq_true rfl⟩) hS (fun r1 bs u H locs hx1 hp hM hS => ?_)
  obtain ⟨K, I2, rfl, hw, hqr1⟩ := hp
  have hx1 : EX _ _ R bs K := hx1
  have e0 := hx1.2.1 0 (by unfold lve; rw [ho.1]; decide)
  have E := EX_E hx1 E
  have hl : lv_has ls 5 [(0, .ref (ad bs 0)), (2, .int a2)] := by rw [e0]; exact lv_sub hl [0, 2] rfl
  have ho := hx1.2.2.2 ho
  have hx0 := EX_tr hx0 hx1
  clear e0 hx1
  rcases r1 with _ | q3
  · have hw := hw.1 rfl
    refine lv_astore_nN (lv' := [(3, .null), (0, .ref (ad bs 0)), (2, .int a2)]) hx hb dX11_look_5 rfl hl (by decide) rfl (fun ls hl => ?_)
    refine lv_aload_nN hx hb dX11_look_6 rfl (lv_at hl 0 rfl) ?_
    refine lv_ifnullN (tgt := 14) hx hb dX11_look_7 (by decide) ?_
    refine lv_bipush (v := (-2)) hx hb dX11_look_14 (by decide) ?_
    refine W.widen (k := 17) (n := 6542) (Nat.le_of_ble_eq_true rfl) (Nat.le_of_ble_eq_true rfl) ?_
    exact m_retix hx hb hr hlk hx0 hM hS ⟨_, _, rfl, hw⟩ dX11_look_16
  · have hq3 := hqr1 _ rfl
    have hw := hw.2 q3 rfl
    refine lv_astore_n (lv' := [(3, .ref (ad bs q3)), (0, .ref (ad bs 0)), (2, .int a2)]) hx hb dX11_look_5 rfl hl (by decide) rfl (fun ls hl => ?_)
    refine lv_aload_n hx hb dX11_look_6 rfl (lv_at hl 0 rfl) ?_
    refine lv_ifnull hx hb dX11_look_7 ?_
    refine lv_iload_n hx hb dX11_look_10 rfl (lv_at hl 2 rfl) ?_
    refine lv_if_ge (tgt := 17) hx hb dX11_look_11 (by decide) (fun cq => ?_) (fun cq => ?_)
    · have hw := hw.1 cq
      refine lv_iload_n hx hb dX11_look_17 rfl (lv_at hl 2 rfl) ?_
      refine lv_bipush (v := 10) hx hb dX11_look_18 (by decide) ?_
      refine lv_irem hx hb dX11_look_20 (by decide) ?_
      refine lv_topi (fun x4 ex4 => ?_)
      have hw := hw x4 ex4
      refine lv_istore (lv' := [(4, .int x4), (3, .ref (ad bs q3)), (0, .ref (ad bs 0)), (2, .int a2)]) hx hb dX11_look_21 hl (by decide) rfl (fun ls hl => ?_)
      refine lv_iload_n hx hb dX11_look_23 rfl (lv_at hl 3 rfl) ?_
      refine lv_bipush (v := 10) hx hb dX11_look_24 (by decide) ?_
      refine lv_idiv hx hb dX11_look_26 (by decide) ?_
      refine lv_topi (fun x5 ex5 => ?_)
      have hw := hw x5 ex5
      by_cases cq0 : x5 = 0
      · have hw := hw.1 cq0
        refine lv_tableIn (tgt := 60) hx hb dX11_look_27 (by rw [cq0]; decide) (by rw [cq0]; decide) (by rw [cq0]; rfl) (by decide) ?_
        refine lv_aload_n hx hb dX11_look_60 rfl (lv_at hl 1 rfl) ?_
        refine lv_iload_n hx hb dX11_look_61 rfl (lv_at hl 3 rfl) ?_
        refine m_ci (m_runS E hM hS cs_X11_411 (c_X11_lookAtAll hq3 hw) rfl rfl ⟨Nat.le_of_ble_eq_true rfl, Nat.le_of_ble_eq_true rfl⟩ rfl hl.1 rfl (Nat.le_of_ble_eq_true rfl) dX11_look_62 ⟨Nat.le_of_ble_eq_true rfl, Nat.le_of_ble_eq_true rfl⟩) hS (fun r6 u H locs hp hM hS => ?_)
        obtain ⟨I7, rfl, hw⟩ := hp
        refine W.widen (k := 17) (n := 6542) (Nat.le_of_ble_eq_true rfl) (Nat.le_of_ble_eq_true rfl) ?_
        exact m_retix hx hb hr hlk hx0 hM hS ⟨_, _, rfl, hw⟩ dX11_look_65
      by_cases cq1 : x5 = 1
      · have hw := hw.2.1 cq1
        refine lv_tableIn (tgt := 66) hx hb dX11_look_27 (by rw [cq1]; decide) (by rw [cq1]; decide) (by rw [cq1]; rfl) (by decide) ?_
        refine lv_aload_n hx hb dX11_look_66 rfl (lv_at hl 1 rfl) ?_
        refine m_getr E hM fs_X11_203 hq3.1.1 hq3.2.1 dX11_look_67 ?_
        refine lv_iload hx hb dX11_look_70 (lv_at hl 0 rfl) ?_
        refine m_ci (m_runV E hM hS cs_X11_263 hq3.2.2.1 (by decide) rfl rfl (c_X3_hasFlat hq3.2.2 hw) rfl rfl ⟨Nat.le_of_ble_eq_true rfl, Nat.le_of_ble_eq_true rfl⟩ rfl hl.1 rfl (Nat.le_of_ble_eq_true rfl) dX11_look_72 ⟨Nat.le_of_ble_eq_true rfl, Nat.le_of_ble_eq_true rfl⟩) hS (fun r9 u H locs hp hM hS => ?_)
        obtain ⟨b8, rfl, rfl, hw⟩ := hp
        refine lv_if_eq (tgt := 87) hx hb dX11_look_75 (by decide) (fun cq => ?_) (fun cq => ?_)
        · have hw := hw.1 (bI_f cq)
          refine lv_bipush (v := (-2)) hx hb dX11_look_87 (by decide) ?_
          refine W.widen (k := 17) (n := 6542) (Nat.le_of_ble_eq_true rfl) (Nat.le_of_ble_eq_true rfl) ?_
          exact m_retix hx hb hr hlk hx0 hM hS ⟨_, _, rfl, hw⟩ dX11_look_89
        · have hw := hw.2 (bI_t cq)
          refine lv_aload_n hx hb dX11_look_78 rfl (lv_at hl 1 rfl) ?_
          refine lv_iload hx hb dX11_look_79 (lv_at hl 0 rfl) ?_
          refine m_ci (m_runV E hM hS cs_X11_415 hq3.1.1 (by decide) rfl rfl (c_X2_shoesHeard hq3 hw) rfl rfl ⟨Nat.le_of_ble_eq_true rfl, Nat.le_of_ble_eq_true rfl⟩ rfl hl.1 rfl (Nat.le_of_ble_eq_true rfl) dX11_look_81 ⟨Nat.le_of_ble_eq_true rfl, Nat.le_of_ble_eq_true rfl⟩) hS (fun r9 u H locs hp hM hS => ?_)
          obtain ⟨rfl, hw⟩ := hp
          refine lv_goto (tgt := 89) hx hb dX11_look_84 (by decide) ?_
          refine W.widen (k := 17) (n := 6542) (Nat.le_of_ble_eq_true rfl) (Nat.le_of_ble_eq_true rfl) ?_
          exact m_retix hx hb hr hlk hx0 hM hS ⟨_, _, rfl, hw⟩ dX11_look_89
      by_cases cq2 : x5 = 2
      · have hw := hw.2.2.1 cq2
        refine lv_tableIn (tgt := 90) hx hb dX11_look_27 (by rw [cq2]; decide) (by rw [cq2]; decide) (by rw [cq2]; rfl) (by decide) ?_
        refine lv_aload_n hx hb dX11_look_90 rfl (lv_at hl 1 rfl) ?_
        refine m_getr E hM fs_X11_203 hq3.1.1 hq3.2.1 dX11_look_91 ?_
        refine lv_iload hx hb dX11_look_94 (lv_at hl 0 rfl) ?_
        refine m_ci (m_runV E hM hS cs_X11_263 hq3.2.2.1 (by decide) rfl rfl (c_X3_hasFlat hq3.2.2 hw) rfl rfl ⟨Nat.le_of_ble_eq_true rfl, Nat.le_of_ble_eq_true rfl⟩ rfl hl.1 rfl (Nat.le_of_ble_eq_true rfl) dX11_look_96 ⟨Nat.le_of_ble_eq_true rfl, Nat.le_of_ble_eq_true rfl⟩) hS (fun r9 u H locs hp hM hS => ?_)
        obtain ⟨b10, rfl, rfl, hw⟩ := hp
        refine lv_if_eq (tgt := 111) hx hb dX11_look_99 (by decide) (fun cq => ?_) (fun cq => ?_)
        · have hw := hw.1 (bI_f cq)
          refine lv_bipush (v := (-2)) hx hb dX11_look_111 (by decide) ?_
          refine W.widen (k := 17) (n := 6542) (Nat.le_of_ble_eq_true rfl) (Nat.le_of_ble_eq_true rfl) ?_
          exact m_retix hx hb hr hlk hx0 hM hS ⟨_, _, rfl, hw⟩ dX11_look_113
        · have hw := hw.2 (bI_t cq)
          refine lv_aload_n hx hb dX11_look_102 rfl (lv_at hl 1 rfl) ?_
          refine lv_iload hx hb dX11_look_103 (lv_at hl 0 rfl) ?_
          refine m_ci (m_runV E hM hS cs_X11_418 hq3.1.1 (by decide) rfl rfl (c_X2_quietestStep hq3 hw) rfl rfl ⟨Nat.le_of_ble_eq_true rfl, Nat.le_of_ble_eq_true rfl⟩ rfl hl.1 rfl (Nat.le_of_ble_eq_true rfl) dX11_look_105 ⟨Nat.le_of_ble_eq_true rfl, Nat.le_of_ble_eq_true rfl⟩) hS (fun r11 u H locs hp hM hS => ?_)
          obtain ⟨I12, rfl, hw⟩ := hp
          refine lv_goto (tgt := 113) hx hb dX11_look_108 (by decide) ?_
          refine W.widen (k := 17) (n := 6542) (Nat.le_of_ble_eq_true rfl) (Nat.le_of_ble_eq_true rfl) ?_
          exact m_retix hx hb hr hlk hx0 hM hS ⟨_, _, rfl, hw⟩ dX11_look_113
      by_cases cq3 : x5 = 3
      · have hw := hw.2.2.2.1 cq3
        refine lv_tableIn (tgt := 114) hx hb dX11_look_27 (by rw [cq3]; decide) (by rw [cq3]; decide) (by rw [cq3]; rfl) (by decide) ?_
        refine lv_aload_n hx hb dX11_look_114 rfl (lv_at hl 1 rfl) ?_
        refine m_getr E hM fs_X11_203 hq3.1.1 hq3.2.1 dX11_look_115 ?_
        refine lv_iload hx hb dX11_look_118 (lv_at hl 0 rfl) ?_
        refine m_ci (m_runV E hM hS cs_X11_204 hq3.2.2.1 (by decide) rfl rfl (c_X3_hasPerson hq3.2.2 hw) rfl rfl ⟨Nat.le_of_ble_eq_true rfl, Nat.le_of_ble_eq_true rfl⟩ rfl hl.1 rfl (Nat.le_of_ble_eq_true rfl) dX11_look_120 ⟨Nat.le_of_ble_eq_true rfl, Nat.le_of_ble_eq_true rfl⟩) hS (fun r9 u H locs hp hM hS => ?_)
        obtain ⟨b13, rfl, rfl, hw⟩ := hp
        refine lv_if_eq (tgt := 135) hx hb dX11_look_123 (by decide) (fun cq => ?_) (fun cq => ?_)
        · have hw := hw.1 (bI_f cq)
          refine lv_bipush (v := (-2)) hx hb dX11_look_135 (by decide) ?_
          refine W.widen (k := 17) (n := 6542) (Nat.le_of_ble_eq_true rfl) (Nat.le_of_ble_eq_true rfl) ?_
          exact m_retix hx hb hr hlk hx0 hM hS ⟨_, _, rfl, hw⟩ dX11_look_137
        · have hw := hw.2 (bI_t cq)
          refine lv_aload_n hx hb dX11_look_126 rfl (lv_at hl 1 rfl) ?_
          refine lv_iload hx hb dX11_look_127 (lv_at hl 0 rfl) ?_
          refine m_ci (m_runV E hM hS cs_X11_421 hq3.1.1 (by decide) rfl rfl (c_X2_loudestUnheardShoe hq3 hw) rfl rfl ⟨Nat.le_of_ble_eq_true rfl, Nat.le_of_ble_eq_true rfl⟩ rfl hl.1 rfl (Nat.le_of_ble_eq_true rfl) dX11_look_129 ⟨Nat.le_of_ble_eq_true rfl, Nat.le_of_ble_eq_true rfl⟩) hS (fun r14 u H locs hp hM hS => ?_)
          obtain ⟨rfl, hw⟩ := hp
          refine lv_goto (tgt := 137) hx hb dX11_look_132 (by decide) ?_
          refine W.widen (k := 17) (n := 6542) (Nat.le_of_ble_eq_true rfl) (Nat.le_of_ble_eq_true rfl) ?_
          exact m_retix hx hb hr hlk hx0 hM hS ⟨_, _, rfl, hw⟩ dX11_look_137
      by_cases cq4 : x5 = 4
      · have hw := hw.2.2.2.2.1 cq4
        refine lv_tableIn (tgt := 138) hx hb dX11_look_27 (by rw [cq4]; decide) (by rw [cq4]; decide) (by rw [cq4]; rfl) (by decide) ?_
        refine lv_aload_n hx hb dX11_look_138 rfl (lv_at hl 1 rfl) ?_
        refine m_getr E hM fs_X11_203 hq3.1.1 hq3.2.1 dX11_look_139 ?_
        refine lv_iload hx hb dX11_look_142 (lv_at hl 0 rfl) ?_
        refine m_ci (m_runV E hM hS cs_X11_204 hq3.2.2.1 (by decide) rfl rfl (c_X3_hasPerson hq3.2.2 hw) rfl rfl ⟨Nat.le_of_ble_eq_true rfl, Nat.le_of_ble_eq_true rfl⟩ rfl hl.1 rfl (Nat.le_of_ble_eq_true rfl) dX11_look_144 ⟨Nat.le_of_ble_eq_true rfl, Nat.le_of_ble_eq_true rfl⟩) hS (fun r9 u H locs hp hM hS => ?_)
        obtain ⟨b15, rfl, rfl, hw⟩ := hp
        refine lv_if_eq (tgt := 160) hx hb dX11_look_147 (by decide) (fun cq => ?_) (fun cq => ?_)
        · have hw := hw.1 (bI_f cq)
          refine lv_bipush (v := (-2)) hx hb dX11_look_160 (by decide) ?_
          refine W.widen (k := 17) (n := 6542) (Nat.le_of_ble_eq_true rfl) (Nat.le_of_ble_eq_true rfl) ?_
          exact m_retix hx hb hr hlk hx0 hM hS ⟨_, _, rfl, hw⟩ dX11_look_162
        · have hw := hw.2 (bI_t cq)
          refine lv_aload_n hx hb dX11_look_150 rfl (lv_at hl 2 rfl) ?_
          refine lv_aload_n hx hb dX11_look_151 rfl (lv_at hl 1 rfl) ?_
          refine lv_iload hx hb dX11_look_152 (lv_at hl 0 rfl) ?_
          refine m_ci (m_runV E hM hS cs_X11_424 ho.1 (by decide) rfl rfl (c_X11_bestBegin ho hq3 hw) rfl rfl ⟨Nat.le_of_ble_eq_true rfl, Nat.le_of_ble_eq_true rfl⟩ rfl hl.1 rfl (Nat.le_of_ble_eq_true rfl) dX11_look_154 ⟨Nat.le_of_ble_eq_true rfl, Nat.le_of_ble_eq_true rfl⟩) hS (fun r16 u H locs hp hM hS => ?_)
          obtain ⟨I17, rfl, hw⟩ := hp
          refine lv_goto (tgt := 162) hx hb dX11_look_157 (by decide) ?_
          refine W.widen (k := 17) (n := 6542) (Nat.le_of_ble_eq_true rfl) (Nat.le_of_ble_eq_true rfl) ?_
          exact m_retix hx hb hr hlk hx0 hM hS ⟨_, _, rfl, hw⟩ dX11_look_162
      have hw := hw.2.2.2.2.2 cq0 cq1 cq2 cq3 cq4
      refine lv_tableOut (tgt := 163) hx hb dX11_look_27 (by have hn0 := lv_neT cq0 (a := 0) (by decide); have hn1 := lv_neT cq1 (a := 1) (by decide); have hn2 := lv_neT cq2 (a := 2) (by decide); have hn3 := lv_neT cq3 (a := 3) (by decide); have hn4 := lv_neT cq4 (a := 4) (by decide); omega) (by decide) ?_
      refine lv_bipush (v := (-2)) hx hb dX11_look_163 (by decide) ?_
      refine W.widen (k := 17) (n := 6542) (Nat.le_of_ble_eq_true rfl) (Nat.le_of_ble_eq_true rfl) ?_
      exact m_retix hx hb hr hlk hx0 hM hS ⟨_, _, rfl, hw⟩ dX11_look_165
    · have hw := hw.2 cq
      refine lv_bipush (v := (-2)) hx hb dX11_look_14 (by decide) ?_
      refine W.widen (k := 17) (n := 6542) (Nat.le_of_ble_eq_true rfl) (Nat.le_of_ble_eq_true rfl) ?_
      exact m_retix hx hb hr hlk hx0 hM hS ⟨_, _, rfl, hw⟩ dX11_look_16
theorem dX11_count_0 : decode cX11_count 0 = .ok (.aload_n 0, 1) := by decide +kernel
theorem dX11_count_1 : decode cX11_count 1 = .ok (.iload_n 1, 1) := by decide +kernel
theorem dX11_count_2 : decode cX11_count 2 = .ok (.invokevirtual 108, 3) := by decide +kernel
theorem dX11_count_5 : decode cX11_count 5 = .ok (.ireturn, 1) := by decide +kernel
def w_X11_count (I : mI) (a1 : Int32) (post : Int32 → Prop) : Prop := w_X11_howMany I a1 (fun r1 => post r1)
set_option maxRecDepth 100000 in
set_option maxHeartbeats 4000000 in
theorem c_X11_count {l : Launch} {D : va_G} {cA : Nat → ClassId} {Z : mZ} {bs : Ad} {n : Nat} {K : mK} {R : mR} {I : mI} {L : mL} {a1 : Int32} {post : Int32 → Prop} (ho : isX11 K R ) (hw : w_X11_count I a1 post) : Met l yX11_count (.code yX11_count cX11_count 2 (some .int) :: gw) ({ frames := 1, cells := 0, slots := 0, locals := 21 } : Room) (PreM D cA Z bs (n, K, R, I, L) [.ref (ad bs 0), .int a1]) (QI D cA bs (fun r u => u = (n, K, R, I, L) ∧ post r)) 0 0 (Ab bs) := by
  refine m_met (by decide) (Nat.le_of_ble_eq_true rfl) (fun p e s m below meth c ls E hr hlk hM hS hl => ?_)
  have E : Ev p s m _ c cX11_count 2 RX11 D cA Z bs := E
  have hl : lv_has ls 2 [(0, .ref (ad bs 0)), (1, .int a1)] := hl
  have hx := E.1.1
  have hb := E.1.2.1
  generalize hHe : s.heap = H at hM ⊢
  have hS : va_S (Ab bs) s.heap H [] := by rw [← hHe]; exact va_S.rf
  clear hHe
  refine lv_aload_n hx hb dX11_count_0 rfl (lv_at hl 0 rfl) ?_
  refine lv_iload_n hx hb dX11_count_1 rfl (lv_at hl 1 rfl) ?_
  refine m_ci (m_runV E hM hS cs_X11_108 ho.1 (by decide) rfl rfl (c_X11_howMany ho hw) rfl rfl ⟨Nat.le_of_ble_eq_true rfl, Nat.le_of_ble_eq_true rfl⟩ rfl hl.1 rfl (Nat.le_of_ble_eq_true rfl) dX11_count_2 ⟨Nat.le_of_ble_eq_true rfl, Nat.le_of_ble_eq_true rfl⟩) hS (fun r1 u H locs hp hM hS => ?_)
  obtain ⟨rfl, hw⟩ := hp
  exact m_reti hx hb hr hlk hM hS ⟨rfl, hw⟩ dX11_count_5
theorem dX11_again_0 : decode cX11_again 0 = .ok (.iload_n 1, 1) := by decide +kernel
theorem dX11_again_1 : decode cX11_again 1 = .ok (.ifCond .lt 17, 3) := by decide +kernel
theorem dX11_again_4 : decode cX11_again 4 = .ok (.iload_n 1, 1) := by decide +kernel
theorem dX11_again_5 : decode cX11_again 5 = .ok (.iconst 3, 1) := by decide +kernel
theorem dX11_again_6 : decode cX11_again 6 = .ok (.if_icmp .ge 12, 3) := by decide +kernel
theorem dX11_again_9 : decode cX11_again 9 = .ok (.aload_n 0, 1) := by decide +kernel
theorem dX11_again_10 : decode cX11_again 10 = .ok (.getfield 16, 3) := by decide +kernel
theorem dX11_again_13 : decode cX11_again 13 = .ok (.iload_n 1, 1) := by decide +kernel
theorem dX11_again_14 : decode cX11_again 14 = .ok (.aaload, 1) := by decide +kernel
theorem dX11_again_15 : decode cX11_again 15 = .ok (.ifnonnull 5, 3) := by decide +kernel
theorem dX11_again_18 : decode cX11_again 18 = .ok (.iconst 0, 1) := by decide +kernel
theorem dX11_again_19 : decode cX11_again 19 = .ok (.ireturn, 1) := by decide +kernel
theorem dX11_again_20 : decode cX11_again 20 = .ok (.aload_n 0, 1) := by decide +kernel
theorem dX11_again_21 : decode cX11_again 21 = .ok (.getfield 12, 3) := by decide +kernel
theorem dX11_again_24 : decode cX11_again 24 = .ok (.aload_n 0, 1) := by decide +kernel
theorem dX11_again_25 : decode cX11_again 25 = .ok (.getfield 16, 3) := by decide +kernel
theorem dX11_again_28 : decode cX11_again 28 = .ok (.iload_n 1, 1) := by decide +kernel
theorem dX11_again_29 : decode cX11_again 29 = .ok (.aaload, 1) := by decide +kernel
theorem dX11_again_30 : decode cX11_again 30 = .ok (.invokevirtual 443, 3) := by decide +kernel
theorem dX11_again_33 : decode cX11_again 33 = .ok (.iconst 0, 1) := by decide +kernel
theorem dX11_again_34 : decode cX11_again 34 = .ok (.istore_n 2, 1) := by decide +kernel
theorem dX11_again_35 : decode cX11_again 35 = .ok (.iload_n 2, 1) := by decide +kernel
theorem dX11_again_36 : decode cX11_again 36 = .ok (.iconst 2, 1) := by decide +kernel
theorem dX11_again_37 : decode cX11_again 37 = .ok (.if_icmp .ge 14, 3) := by decide +kernel
theorem dX11_again_40 : decode cX11_again 40 = .ok (.aload_n 0, 1) := by decide +kernel
theorem dX11_again_41 : decode cX11_again 41 = .ok (.iload_n 2, 1) := by decide +kernel
theorem dX11_again_42 : decode cX11_again 42 = .ok (.invokevirtual 134, 3) := by decide +kernel
theorem dX11_again_45 : decode cX11_again 45 = .ok (.iinc 2 1, 3) := by decide +kernel
theorem dX11_again_48 : decode cX11_again 48 = .ok (.goto (-13), 3) := by decide +kernel
theorem dX11_again_51 : decode cX11_again 51 = .ok (.iconst 1, 1) := by decide +kernel
theorem dX11_again_52 : decode cX11_again 52 = .ok (.ireturn, 1) := by decide +kernel
def w_X11_again_35 (K : mK) (R : mR) (a1 : Int32) (post : Bool → mI → Prop) (I : mI) (v2 : Int32) : Prop := ∀ ZZ : (mI → Int32 → Prop), (∀ (I : mI) (v2 : Int32), ((2 ≤ v2 → post true I) ∧ (¬ 2 ≤ v2 → w_X11_forgetEvening I v2 (fun I4 => ∀ x5, x5 = v2 + 1 → ZZ I4 x5))) → ZZ I v2) → ZZ I v2
set_option maxRecDepth 100000 in
set_option maxHeartbeats 4000000 in
theorem s_X11_again_35 {p : Program} {l : Launch} {e : Env} {s : State} {m : MethodId} {args : Array Value} {below : List Frame} {meth : Method} {c : Code} {D : va_G} {cA : Nat → ClassId} {Z : mZ} {bs : Ad} {n : Nat} {K : mK} {R : mR} {L : mL} (E : Ev p s m args c cX11_again 3 RX11 D cA Z bs) (hr : meth.sig.returnType = (some .boolean)) (hlk : meth.locks = false) {a1 : Int32} (ho : isX11 K R ) {post : Bool → mI → Prop} {I : mI} {v2 : Int32} {H : Heap} {locs : List Loc} {ls : Array Slot} (hw : w_X11_again_35 K R a1 post I v2) (hM : mm D cA bs (n, K, R, I, L) H) (hS : va_S (Ab bs) s.heap H locs) (hl : lv_has ls 3 [(0, .ref (ad bs 0)), (2, .int v2)]) : W p l e ({ frames := 3, cells := 0, slots := 0, locals := 123 } : Room) s m args below meth c H locs 0 0 (MQ below (QI D cA bs (fun r u => ∃ b, r = bI b ∧ ∃ I', u = (n, K, R, I', L) ∧ post b I')) args s 0 0 (Ab bs)) (F0 m 35 ls []) := by
  have hx := E.1.1
  have hb := E.1.2.1
  refine hw (fun I v2 => ∀ (H : Heap) (locs : List Loc) (ls : Array Slot), mm D cA bs (n, K, R, I, L) H → va_S (Ab bs) s.heap H locs → lv_has ls 3 [(0, .ref (ad bs 0)), (2, .int v2)] → W p l e ({ frames := 3, cells := 0, slots := 0, locals := 123 } : Room) s m args below meth c H locs 0 0 (MQ below (QI D cA bs (fun r u => ∃ b, r = bI b ∧ ∃ I', u = (n, K, R, I', L) ∧ post b I')) args s 0 0 (Ab bs)) (F0 m 35 ls [])) ?_ H locs ls hM hS hl
  clear hw hM hS hl
  intro I v2 hw H locs ls hM hS hl
  refine lv_iload_n hx hb dX11_again_35 rfl (lv_at hl 1 rfl) ?_
  refine lv_iconst (v := 2) hx hb dX11_again_36 (by decide) ?_
  refine lv_icmp_ge (tgt := 51) hx hb dX11_again_37 (by decide) (fun cq => ?_) (fun cq => ?_)
  · have hw := hw.1 cq
    refine lv_iconst (v := 1) hx hb dX11_again_51 (by decide) ?_
    exact m_retz hx hb hr hlk (Or.inr rfl) hM hS ⟨true, rfl, _, rfl, hw⟩ dX11_again_52
  · have hw := hw.2 cq
    refine lv_aload_n hx hb dX11_again_40 rfl (lv_at hl 0 rfl) ?_
    refine lv_iload_n hx hb dX11_again_41 rfl (lv_at hl 1 rfl) ?_
    refine m_cv (m_runV E hM hS cs_X11_134 ho.1 (by decide) rfl rfl (c_X11_forgetEvening ho hw) rfl rfl ⟨Nat.le_of_ble_eq_true rfl, Nat.le_of_ble_eq_true rfl⟩ rfl hl.1 rfl (Nat.le_of_ble_eq_true rfl) dX11_again_42 ⟨Nat.le_of_ble_eq_true rfl, Nat.le_of_ble_eq_true rfl⟩) hS (fun u H locs hp hM hS => ?_)
    obtain ⟨I4, rfl, hw⟩ := hp
    obtain ⟨x5, ex5⟩ : ∃ y : Int32, y = v2 + 1 := ⟨_, rfl⟩
    have hw := hw x5 ex5
    refine lv_iinc (v := x5) (lv' := [(2, .int x5), (0, .ref (ad bs 0))]) hx hb dX11_again_45 hl (k := 1) rfl (by rw [ex5]; rfl) (by decide) rfl (fun ls hl => ?_)
    refine lv_goto (tgt := 35) hx hb dX11_again_48 (by decide) ?_
    exact hw H locs ls  hM hS (lv_sub hl [1, 0] rfl)
def w_X11_again (K : mK) (R : mR) (I : mI) (a1 : Int32) (post : Bool → mI → Prop) : Prop := (a1 < 0 → post false I) ∧ (¬ a1 < 0 → (3 ≤ a1 → post false I) ∧ (¬ 3 ≤ a1 → vp_in a1 3 ∧ (R 43 a1.toNatClampNeg = none → post false I) ∧ (∀ q1, R 43 a1.toNatClampNeg = some q1 → isX8 K R q1 ∧ vp_in a1 3 ∧ (R 43 a1.toNatClampNeg = none → False) ∧ (∀ q2, R 43 a1.toNatClampNeg = some q2 → isX8 K R q2 ∧ w_X8_copyFrom I 1 q2 (fun I3 => (w_X11_again_35 K R a1 post) I3 0)))))
set_option maxRecDepth 100000 in
set_option maxHeartbeats 4000000 in
theorem c_X11_again {l : Launch} {D : va_G} {cA : Nat → ClassId} {Z : mZ} {bs : Ad} {n : Nat} {K : mK} {R : mR} {I : mI} {L : mL} {a1 : Int32} {post : Bool → mI → Prop} (ho : isX11 K R ) (hw : w_X11_again K R I a1 post) : Met l yX11_again (.code yX11_again cX11_again 3 (some .boolean) :: gw) ({ frames := 3, cells := 0, slots := 0, locals := 123 } : Room) (PreM D cA Z bs (n, K, R, I, L) [.ref (ad bs 0), .int a1]) (QI D cA bs (fun r u => ∃ b, r = bI b ∧ ∃ I', u = (n, K, R, I', L) ∧ post b I')) 0 0 (Ab bs) := by
  refine m_met (by decide) (Nat.le_of_ble_eq_true rfl) (fun p e s m below meth c ls E hr hlk hM hS hl => ?_)
  have E : Ev p s m _ c cX11_again 3 RX11 D cA Z bs := E
  have hl : lv_has ls 3 [(0, .ref (ad bs 0)), (1, .int a1)] := hl
  have hx := E.1.1
  have hb := E.1.2.1
  generalize hHe : s.heap = H at hM ⊢
  have hS : va_S (Ab bs) s.heap H [] := by rw [← hHe]; exact va_S.rf
  clear hHe
  refine lv_iload_n hx hb dX11_again_0 rfl (lv_at hl 1 rfl) ?_
  refine lv_if_lt (tgt := 18) hx hb dX11_again_1 (by decide) (fun cq => ?_) (fun cq => ?_)
  · have hw := hw.1 cq
    refine lv_iconst (v := 0) hx hb dX11_again_18 (by decide) ?_
    exact m_retz hx hb hr hlk (Or.inl rfl) hM hS ⟨false, rfl, _, rfl, hw⟩ dX11_again_19
  · have hw := hw.2 cq
    refine lv_iload_n hx hb dX11_again_4 rfl (lv_at hl 1 rfl) ?_
    refine lv_iconst (v := 3) hx hb dX11_again_5 (by decide) ?_
    refine lv_icmp_ge (tgt := 18) hx hb dX11_again_6 (by decide) (fun cq => ?_) (fun cq => ?_)
    · have hw := hw.1 cq
      refine lv_iconst (v := 0) hx hb dX11_again_18 (by decide) ?_
      exact m_retz hx hb hr hlk (Or.inl rfl) hM hS ⟨false, rfl, _, rfl, hw⟩ dX11_again_19
    · have hw := hw.2 cq
      refine lv_aload_n hx hb dX11_again_9 rfl (lv_at hl 0 rfl) ?_
      refine m_getr E hM fs_X11_16 ho.1 ho.2.2.1.1 dX11_again_10 ?_
      refine lv_iload_n hx hb dX11_again_13 rfl (lv_at hl 1 rfl) ?_
      obtain ⟨hv, hw⟩ := hw
      rcases hq9 : R 43 a1.toNatClampNeg with _ | q1
      · have hw := hw.1 hq9
        refine m_aaldN E hM ho.2.2.1.2 (by simp) hv hq9 dX11_again_14 ?_
        refine lv_ifnonnullN hx hb dX11_again_15 ?_
        refine lv_iconst (v := 0) hx hb dX11_again_18 (by decide) ?_
        exact m_retz hx hb hr hlk (Or.inl rfl) hM hS ⟨false, rfl, _, rfl, hw⟩ dX11_again_19
      · obtain ⟨hsq1, hw⟩ := hw.2 q1 hq9
        refine m_aaldS E hM ho.2.2.1.2 (by simp) hv hq9 dX11_again_14 ?_
        refine lv_ifnonnull (tgt := 20) hx hb dX11_again_15 (by decide) ?_
        refine lv_aload_n hx hb dX11_again_20 rfl (lv_at hl 0 rfl) ?_
        refine m_getr E hM fs_X11_12 ho.1 ho.2.1.1 dX11_again_21 ?_
        refine lv_aload_n hx hb dX11_again_24 rfl (lv_at hl 0 rfl) ?_
        refine m_getr E hM fs_X11_16 ho.1 ho.2.2.1.1 dX11_again_25 ?_
        refine lv_iload_n hx hb dX11_again_28 rfl (lv_at hl 1 rfl) ?_
        obtain ⟨hv, hw⟩ := hw
        rcases hq9 : R 43 a1.toNatClampNeg with _ | q2
        · have hw := hw.1 hq9
          refine m_aaldN E hM ho.2.2.1.2 (by simp) hv hq9 dX11_again_29 ?_
          exact False.elim hw
        · obtain ⟨hsq2, hw⟩ := hw.2 q2 hq9
          refine m_aaldS E hM ho.2.2.1.2 (by simp) hv hq9 dX11_again_29 ?_
          refine m_cv (m_runV E hM hS cs_X11_443 ho.2.1.2.1.1 (by decide) rfl rfl (c_X8_copyFrom ho.2.1.2 hsq2 hw) rfl rfl ⟨Nat.le_of_ble_eq_true rfl, Nat.le_of_ble_eq_true rfl⟩ rfl hl.1 rfl (Nat.le_of_ble_eq_true rfl) dX11_again_30 ⟨Nat.le_of_ble_eq_true rfl, Nat.le_of_ble_eq_true rfl⟩) hS (fun u H locs hp hM hS => ?_)
          obtain ⟨I3, rfl, hw⟩ := hp
          refine lv_iconst (v := 0) hx hb dX11_again_33 (by decide) ?_
          refine lv_istore_n (lv' := [(2, .int 0), (0, .ref (ad bs 0)), (1, .int a1)]) hx hb dX11_again_34 rfl hl (by decide) rfl (fun ls hl => ?_)
          exact s_X11_again_35 E hr hlk ho  hw hM hS (lv_sub hl [1, 0] rfl)
