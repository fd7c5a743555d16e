/-! methods that make objects -/
theorem cl_X8_19 : Cond.classLink RX8 19 "EchoStair$House" ∈ gw := gw_of 36 (by decide +kernel) (by decide +kernel)
theorem cl_X8_25 : Cond.classLink RX8 25 "EchoStair$Reading" ∈ gw := gw_of 38 (by decide +kernel) (by decide +kernel)
theorem cl_X11_9 : Cond.classLink RX11 9 "EchoStair$Told" ∈ gw := gw_of 30 (by decide +kernel) (by decide +kernel)
theorem cl_X11_33 : Cond.classLink RX11 33 "EchoStair$Evening" ∈ gw := gw_of 292 (by decide +kernel) (by decide +kernel)
theorem dX3_init_0 : decode cX3_init 0 = .ok (.aload_n 0, 1) := by decide +kernel
theorem dX3_init_1 : decode cX3_init 1 = .ok (.invokespecial 3, 3) := by decide +kernel
theorem dX3_init_4 : decode cX3_init 4 = .ok (.aload_n 0, 1) := by decide +kernel
theorem dX3_init_5 : decode cX3_init 5 = .ok (.bipush 24, 2) := by decide +kernel
theorem dX3_init_7 : decode cX3_init 7 = .ok (.newarray .int, 2) := by decide +kernel
theorem dX3_init_9 : decode cX3_init 9 = .ok (.putfield 9, 3) := by decide +kernel
theorem dX3_init_12 : decode cX3_init 12 = .ok (.aload_n 0, 1) := by decide +kernel
theorem dX3_init_13 : decode cX3_init 13 = .ok (.bipush 6, 2) := by decide +kernel
theorem dX3_init_15 : decode cX3_init 15 = .ok (.newarray .int, 2) := by decide +kernel
theorem dX3_init_17 : decode cX3_init 17 = .ok (.putfield 15, 3) := by decide +kernel
theorem dX3_init_20 : decode cX3_init 20 = .ok (.aload_n 0, 1) := by decide +kernel
theorem dX3_init_21 : decode cX3_init 21 = .ok (.bipush 6, 2) := by decide +kernel
theorem dX3_init_23 : decode cX3_init 23 = .ok (.newarray .int, 2) := by decide +kernel
theorem dX3_init_25 : decode cX3_init 25 = .ok (.putfield 18, 3) := by decide +kernel
theorem dX3_init_28 : decode cX3_init 28 = .ok (.aload_n 0, 1) := by decide +kernel
theorem dX3_init_29 : decode cX3_init 29 = .ok (.bipush 6, 2) := by decide +kernel
theorem dX3_init_31 : decode cX3_init 31 = .ok (.newarray .int, 2) := by decide +kernel
theorem dX3_init_33 : decode cX3_init 33 = .ok (.putfield 21, 3) := by decide +kernel
theorem dX3_init_36 : decode cX3_init 36 = .ok (.aload_n 0, 1) := by decide +kernel
theorem dX3_init_37 : decode cX3_init 37 = .ok (.bipush 6, 2) := by decide +kernel
theorem dX3_init_39 : decode cX3_init 39 = .ok (.newarray .int, 2) := by decide +kernel
theorem dX3_init_41 : decode cX3_init 41 = .ok (.putfield 24, 3) := by decide +kernel
theorem dX3_init_44 : decode cX3_init 44 = .ok (.aload_n 0, 1) := by decide +kernel
theorem dX3_init_45 : decode cX3_init 45 = .ok (.bipush 6, 2) := by decide +kernel
theorem dX3_init_47 : decode cX3_init 47 = .ok (.newarray .int, 2) := by decide +kernel
theorem dX3_init_49 : decode cX3_init 49 = .ok (.putfield 27, 3) := by decide +kernel
theorem dX3_init_52 : decode cX3_init 52 = .ok (.aload_n 0, 1) := by decide +kernel
theorem dX3_init_53 : decode cX3_init 53 = .ok (.bipush 6, 2) := by decide +kernel
theorem dX3_init_55 : decode cX3_init 55 = .ok (.newarray .int, 2) := by decide +kernel
theorem dX3_init_57 : decode cX3_init 57 = .ok (.putfield 30, 3) := by decide +kernel
theorem dX3_init_60 : decode cX3_init 60 = .ok (.aload_n 0, 1) := by decide +kernel
theorem dX3_init_61 : decode cX3_init 61 = .ok (.bipush 6, 2) := by decide +kernel
theorem dX3_init_63 : decode cX3_init 63 = .ok (.newarray .int, 2) := by decide +kernel
theorem dX3_init_65 : decode cX3_init 65 = .ok (.putfield 33, 3) := by decide +kernel
theorem dX3_init_68 : decode cX3_init 68 = .ok (.aload_n 0, 1) := by decide +kernel
theorem dX3_init_69 : decode cX3_init 69 = .ok (.bipush 6, 2) := by decide +kernel
theorem dX3_init_71 : decode cX3_init 71 = .ok (.newarray .int, 2) := by decide +kernel
theorem dX3_init_73 : decode cX3_init 73 = .ok (.putfield 36, 3) := by decide +kernel
theorem dX3_init_76 : decode cX3_init 76 = .ok (.aload_n 0, 1) := by decide +kernel
theorem dX3_init_77 : decode cX3_init 77 = .ok (.bipush 48, 2) := by decide +kernel
theorem dX3_init_79 : decode cX3_init 79 = .ok (.newarray .int, 2) := by decide +kernel
theorem dX3_init_81 : decode cX3_init 81 = .ok (.putfield 39, 3) := by decide +kernel
theorem dX3_init_84 : decode cX3_init 84 = .ok (.aload_n 0, 1) := by decide +kernel
theorem dX3_init_85 : decode cX3_init 85 = .ok (.bipush 8, 2) := by decide +kernel
theorem dX3_init_87 : decode cX3_init 87 = .ok (.newarray .int, 2) := by decide +kernel
theorem dX3_init_89 : decode cX3_init 89 = .ok (.putfield 42, 3) := by decide +kernel
theorem dX3_init_92 : decode cX3_init 92 = .ok (.aload_n 0, 1) := by decide +kernel
theorem dX3_init_93 : decode cX3_init 93 = .ok (.bipush 8, 2) := by decide +kernel
theorem dX3_init_95 : decode cX3_init 95 = .ok (.newarray .int, 2) := by decide +kernel
theorem dX3_init_97 : decode cX3_init 97 = .ok (.putfield 45, 3) := by decide +kernel
theorem dX3_init_100 : decode cX3_init 100 = .ok (.aload_n 0, 1) := by decide +kernel
theorem dX3_init_101 : decode cX3_init 101 = .ok (.bipush 8, 2) := by decide +kernel
theorem dX3_init_103 : decode cX3_init 103 = .ok (.newarray .int, 2) := by decide +kernel
theorem dX3_init_105 : decode cX3_init 105 = .ok (.putfield 48, 3) := by decide +kernel
theorem dX3_init_108 : decode cX3_init 108 = .ok (.return_, 1) := by decide +kernel
def w_X3_init (n : Nat) (K : mK) (R : mR) (I : mI) (L : mL) (o : Nat) (post : mK → mR → mI → mL → Prop) : Prop := ∀ K1 R2 I3 L4, al K R I L n (14, 24) K1 R2 I3 L4 → (K1 o).1 = 3 ∧ K1 n = (14, 24) ∧ ∀ R5, R5 = up2 R2 o 5 (some n) → ∀ K6 R7 I8 L9, al K1 R5 I3 L4 (n + 1) (14, 6) K6 R7 I8 L9 → (K6 o).1 = 3 ∧ K6 (n + 1) = (14, 6) ∧ ∀ R10, R10 = up2 R7 o 6 (some (n + 1)) → ∀ K11 R12 I13 L14, al K6 R10 I8 L9 (n + 2) (14, 6) K11 R12 I13 L14 → (K11 o).1 = 3 ∧ K11 (n + 2) = (14, 6) ∧ ∀ R15, R15 = up2 R12 o 7 (some (n + 2)) → ∀ K16 R17 I18 L19, al K11 R15 I13 L14 (n + 3) (14, 6) K16 R17 I18 L19 → (K16 o).1 = 3 ∧ K16 (n + 3) = (14, 6) ∧ ∀ R20, R20 = up2 R17 o 8 (some (n + 3)) → ∀ K21 R22 I23 L24, al K16 R20 I18 L19 (n + 4) (14, 6) K21 R22 I23 L24 → (K21 o).1 = 3 ∧ K21 (n + 4) = (14, 6) ∧ ∀ R25, R25 = up2 R22 o 9 (some (n + 4)) → ∀ K26 R27 I28 L29, al K21 R25 I23 L24 (n + 5) (14, 6) K26 R27 I28 L29 → (K26 o).1 = 3 ∧ K26 (n + 5) = (14, 6) ∧ ∀ R30, R30 = up2 R27 o 10 (some (n + 5)) → ∀ K31 R32 I33 L34, al K26 R30 I28 L29 (n + 6) (14, 6) K31 R32 I33 L34 → (K31 o).1 = 3 ∧ K31 (n + 6) = (14, 6) ∧ ∀ R35, R35 = up2 R32 o 11 (some (n + 6)) → ∀ K36 R37 I38 L39, al K31 R35 I33 L34 (n + 7) (14, 6) K36 R37 I38 L39 → (K36 o).1 = 3 ∧ K36 (n + 7) = (14, 6) ∧ ∀ R40, R40 = up2 R37 o 12 (some (n + 7)) → ∀ K41 R42 I43 L44, al K36 R40 I38 L39 (n + 8) (14, 6) K41 R42 I43 L44 → (K41 o).1 = 3 ∧ K41 (n + 8) = (14, 6) ∧ ∀ R45, R45 = up2 R42 o 13 (some (n + 8)) → ∀ K46 R47 I48 L49, al K41 R45 I43 L44 (n + 9) (14, 48) K46 R47 I48 L49 → (K46 o).1 = 3 ∧ K46 (n + 9) = (14, 48) ∧ ∀ R50, R50 = up2 R47 o 14 (some (n + 9)) → ∀ K51 R52 I53 L54, al K46 R50 I48 L49 (n + 10) (14, 8) K51 R52 I53 L54 → (K51 o).1 = 3 ∧ K51 (n + 10) = (14, 8) ∧ ∀ R55, R55 = up2 R52 o 15 (some (n + 10)) → ∀ K56 R57 I58 L59, al K51 R55 I53 L54 (n + 11) (14, 8) K56 R57 I58 L59 → (K56 o).1 = 3 ∧ K56 (n + 11) = (14, 8) ∧ ∀ R60, R60 = up2 R57 o 16 (some (n + 11)) → ∀ K61 R62 I63 L64, al K56 R60 I58 L59 (n + 12) (14, 8) K61 R62 I63 L64 → (K61 o).1 = 3 ∧ K61 (n + 12) = (14, 8) ∧ ∀ R65, R65 = up2 R62 o 17 (some (n + 12)) → post K61 R65 I63 L64
set_option maxRecDepth 100000 in
set_option maxHeartbeats 4000000 in
theorem c_X3_init {l : Launch} {D : va_G} {cA : Nat → ClassId} {Z : mZ} {bs : Ad} {n : Nat} {K : mK} {R : mR} {I : mI} {L : mL} {o : Nat} {post : mK → mR → mI → mL → Prop} (ob0 : (K o).1 = 3) (hw : w_X3_init n K R I L o post) : Met l yX3_init (.code yX3_init cX3_init 1 none :: gw) ({ frames := 1, cells := 13, slots := 144, locals := 40 } : Room) (PreM D cA Z bs (n, K, R, I, L) [.ref (ad bs o)]) (QV D cA bs (fun u => ∃ K' R' I' L', u = (n + 13, K', R', I', L') ∧ post K' R' I' L')) 13 144 (Ab bs) := by
  refine m_metN (by decide) (Nat.le_of_ble_eq_true rfl) (fun p e s m below meth c ls E hr hlk hnm hM hS hl => ?_)
  have E : Ev p s m _ c cX3_init 1 RX3 D cA Z bs := E
  have hl : lv_has ls 1 [(0, .ref (ad bs o))] := hl
  have hnm : meth.name = "<init>" := hnm
  have hx := E.1.1
  have hb := E.1.2.1
  generalize hHe : s.heap = H at hM ⊢
  have hS : va_S (Ab bs) s.heap H [] := by rw [← hHe]; exact va_S.rf
  clear hHe
  refine lv_aload_n hx hb dX3_init_0 rfl (lv_at hl 0 rfl) ?_
  refine W.objInit hx hb E.1.2.2.2.1 (E.1.2.2.2.2 _ oi_X3) (E.1.2.2.2.2 _ oi_inst) (E.1.2.2.2.2 _ oi_code) rfl (by rw [E.1.2.2.1]; exact hl.1) rfl dX3_init_1 (Nat.le_of_ble_eq_true rfl) (Nat.le_of_ble_eq_true rfl) ?_
  refine W.eq (g2 := F0 m 4 ls []) rfl ?_
  refine lv_aload_n hx hb dX3_init_4 rfl (lv_at hl 0 rfl) ?_
  refine lv_bipush (v := 24) hx hb dX3_init_5 (by decide) ?_
  refine m_newa E hM hS (atype := .int) (ty := .int) (k := 14) (t0 := 1) (N := 24) rfl (by simp) ac_int rfl (by decide) (by decide) (by decide) (Nat.le_of_ble_eq_true rfl) (Nat.le_of_ble_eq_true rfl) dX3_init_7 (fun K1 R2 I3 L4 H ea hM hS => ?_)
  have hw := hw K1 R2 I3 L4 ea
  obtain ⟨ob1, hw⟩ := hw
  obtain ⟨ob2, hw⟩ := hw
  refine m_putr E hM hS fp_X3_9 (fun _ => ⟨hnm, rfl⟩) ob1 (by rw [ob2]; decide) rfl rfl dX3_init_9 (fun R5 H locs eR5 hM hS => ?_)
  have hw := hw R5 eR5
  refine lv_aload_n hx hb dX3_init_12 rfl (lv_at hl 0 rfl) ?_
  refine lv_bipush (v := 6) hx hb dX3_init_13 (by decide) ?_
  refine m_newa E hM hS (atype := .int) (ty := .int) (k := 14) (t0 := 1) (N := 6) rfl (by simp) ac_int rfl (by decide) (by decide) (by decide) (Nat.le_of_ble_eq_true rfl) (Nat.le_of_ble_eq_true rfl) dX3_init_15 (fun K6 R7 I8 L9 H ea hM hS => ?_)
  have hw := hw K6 R7 I8 L9 ea
  obtain ⟨ob3, hw⟩ := hw
  obtain ⟨ob4, hw⟩ := hw
  refine m_putr E hM hS fp_X3_15 (fun _ => ⟨hnm, rfl⟩) ob3 (by rw [ob4]; decide) rfl rfl dX3_init_17 (fun R10 H locs eR10 hM hS => ?_)
  have hw := hw R10 eR10
  refine lv_aload_n hx hb dX3_init_20 rfl (lv_at hl 0 rfl) ?_
  refine lv_bipush (v := 6) hx hb dX3_init_21 (by decide) ?_
  refine m_newa E hM hS (atype := .int) (ty := .int) (k := 14) (t0 := 1) (N := 6) rfl (by simp) ac_int rfl (by decide) (by decide) (by decide) (Nat.le_of_ble_eq_true rfl) (Nat.le_of_ble_eq_true rfl) dX3_init_23 (fun K11 R12 I13 L14 H ea hM hS => ?_)
  have hw := hw K11 R12 I13 L14 ea
  obtain ⟨ob5, hw⟩ := hw
  obtain ⟨ob6, hw⟩ := hw
  refine m_putr E hM hS fp_X3_18 (fun _ => ⟨hnm, rfl⟩) ob5 (by rw [ob6]; decide) rfl rfl dX3_init_25 (fun R15 H locs eR15 hM hS => ?_)
  have hw := hw R15 eR15
  refine lv_aload_n hx hb dX3_init_28 rfl (lv_at hl 0 rfl) ?_
  refine lv_bipush (v := 6) hx hb dX3_init_29 (by decide) ?_
  refine m_newa E hM hS (atype := .int) (ty := .int) (k := 14) (t0 := 1) (N := 6) rfl (by simp) ac_int rfl (by decide) (by decide) (by decide) (Nat.le_of_ble_eq_true rfl) (Nat.le_of_ble_eq_true rfl) dX3_init_31 (fun K16 R17 I18 L19 H ea hM hS => ?_)
  have hw := hw K16 R17 I18 L19 ea
  obtain ⟨ob7, hw⟩ := hw
  obtain ⟨ob8, hw⟩ := hw
  refine m_putr E hM hS fp_X3_21 (fun _ => ⟨hnm, rfl⟩) ob7 (by rw [ob8]; decide) rfl rfl dX3_init_33 (fun R20 H locs eR20 hM hS => ?_)
  have hw := hw R20 eR20
  refine lv_aload_n hx hb dX3_init_36 rfl (lv_at hl 0 rfl) ?_
  refine lv_bipush (v := 6) hx hb dX3_init_37 (by decide) ?_
  refine m_newa E hM hS (atype := .int) (ty := .int) (k := 14) (t0 := 1) (N := 6) rfl (by simp) ac_int rfl (by decide) (by decide) (by decide) (Nat.le_of_ble_eq_true rfl) (Nat.le_of_ble_eq_true rfl) dX3_init_39 (fun K21 R22 I23 L24 H ea hM hS => ?_)
  have hw := hw K21 R22 I23 L24 ea
  obtain ⟨ob9, hw⟩ := hw
  obtain ⟨ob10, hw⟩ := hw
  refine m_putr E hM hS fp_X3_24 (fun _ => ⟨hnm, rfl⟩) ob9 (by rw [ob10]; decide) rfl rfl dX3_init_41 (fun R25 H locs eR25 hM hS => ?_)
  have hw := hw R25 eR25
  refine lv_aload_n hx hb dX3_init_44 rfl (lv_at hl 0 rfl) ?_
  refine lv_bipush (v := 6) hx hb dX3_init_45 (by decide) ?_
  refine m_newa E hM hS (atype := .int) (ty := .int) (k := 14) (t0 := 1) (N := 6) rfl (by simp) ac_int rfl (by decide) (by decide) (by decide) (Nat.le_of_ble_eq_true rfl) (Nat.le_of_ble_eq_true rfl) dX3_init_47 (fun K26 R27 I28 L29 H ea hM hS => ?_)
  have hw := hw K26 R27 I28 L29 ea
  obtain ⟨ob11, hw⟩ := hw
  obtain ⟨ob12, hw⟩ := hw
  refine m_putr E hM hS fp_X3_27 (fun _ => ⟨hnm, rfl⟩) ob11 (by rw [ob12]; decide) rfl rfl dX3_init_49 (fun R30 H locs eR30 hM hS => ?_)
  have hw := hw R30 eR30
  refine lv_aload_n hx hb dX3_init_52 rfl (lv_at hl 0 rfl) ?_
  refine lv_bipush (v := 6) hx hb dX3_init_53 (by decide) ?_
  refine m_newa E hM hS (atype := .int) (ty := .int) (k := 14) (t0 := 1) (N := 6) rfl (by simp) ac_int rfl (by decide) (by decide) (by decide) (Nat.le_of_ble_eq_true rfl) (Nat.le_of_ble_eq_true rfl) dX3_init_55 (fun K31 R32 I33 L34 H ea hM hS => ?_)
  have hw := hw K31 R32 I33 L34 ea
  obtain ⟨ob13, hw⟩ := hw
  obtain ⟨ob14, hw⟩ := hw
  refine m_putr E hM hS fp_X3_30 (fun _ => ⟨hnm, rfl⟩) ob13 (by rw [ob14]; decide) rfl rfl dX3_init_57 (fun R35 H locs eR35 hM hS => ?_)
  have hw := hw R35 eR35
  refine lv_aload_n hx hb dX3_init_60 rfl (lv_at hl 0 rfl) ?_
  refine lv_bipush (v := 6) hx hb dX3_init_61 (by decide) ?_
  refine m_newa E hM hS (atype := .int) (ty := .int) (k := 14) (t0 := 1) (N := 6) rfl (by simp) ac_int rfl (by decide) (by decide) (by decide) (Nat.le_of_ble_eq_true rfl) (Nat.le_of_ble_eq_true rfl) dX3_init_63 (fun K36 R37 I38 L39 H ea hM hS => ?_)
  have hw := hw K36 R37 I38 L39 ea
  obtain ⟨ob15, hw⟩ := hw
  obtain ⟨ob16, hw⟩ := hw
  refine m_putr E hM hS fp_X3_33 (fun _ => ⟨hnm, rfl⟩) ob15 (by rw [ob16]; decide) rfl rfl dX3_init_65 (fun R40 H locs eR40 hM hS => ?_)
  have hw := hw R40 eR40
  refine lv_aload_n hx hb dX3_init_68 rfl (lv_at hl 0 rfl) ?_
  refine lv_bipush (v := 6) hx hb dX3_init_69 (by decide) ?_
  refine m_newa E hM hS (atype := .int) (ty := .int) (k := 14) (t0 := 1) (N := 6) rfl (by simp) ac_int rfl (by decide) (by decide) (by decide) (Nat.le_of_ble_eq_true rfl) (Nat.le_of_ble_eq_true rfl) dX3_init_71 (fun K41 R42 I43 L44 H ea hM hS => ?_)
  have hw := hw K41 R42 I43 L44 ea
  obtain ⟨ob17, hw⟩ := hw
  obtain ⟨ob18, hw⟩ := hw
  refine m_putr E hM hS fp_X3_36 (fun _ => ⟨hnm, rfl⟩) ob17 (by rw [ob18]; decide) rfl rfl dX3_init_73 (fun R45 H locs eR45 hM hS => ?_)
  have hw := hw R45 eR45
  refine lv_aload_n hx hb dX3_init_76 rfl (lv_at hl 0 rfl) ?_
  refine lv_bipush (v := 48) hx hb dX3_init_77 (by decide) ?_
  refine m_newa E hM hS (atype := .int) (ty := .int) (k := 14) (t0 := 1) (N := 48) rfl (by simp) ac_int rfl (by decide) (by decide) (by decide) (Nat.le_of_ble_eq_true rfl) (Nat.le_of_ble_eq_true rfl) dX3_init_79 (fun K46 R47 I48 L49 H ea hM hS => ?_)
  have hw := hw K46 R47 I48 L49 ea
  obtain ⟨ob19, hw⟩ := hw
  obtain ⟨ob20, hw⟩ := hw
  refine m_putr E hM hS fp_X3_39 (fun _ => ⟨hnm, rfl⟩) ob19 (by rw [ob20]; decide) rfl rfl dX3_init_81 (fun R50 H locs eR50 hM hS => ?_)
  have hw := hw R50 eR50
  refine lv_aload_n hx hb dX3_init_84 rfl (lv_at hl 0 rfl) ?_
  refine lv_bipush (v := 8) hx hb dX3_init_85 (by decide) ?_
  refine m_newa E hM hS (atype := .int) (ty := .int) (k := 14) (t0 := 1) (N := 8) rfl (by simp) ac_int rfl (by decide) (by decide) (by decide) (Nat.le_of_ble_eq_true rfl) (Nat.le_of_ble_eq_true rfl) dX3_init_87 (fun K51 R52 I53 L54 H ea hM hS => ?_)
  have hw := hw K51 R52 I53 L54 ea
  obtain ⟨ob21, hw⟩ := hw
  obtain ⟨ob22, hw⟩ := hw
  refine m_putr E hM hS fp_X3_42 (fun _ => ⟨hnm, rfl⟩) ob21 (by rw [ob22]; decide) rfl rfl dX3_init_89 (fun R55 H locs eR55 hM hS => ?_)
  have hw := hw R55 eR55
  refine lv_aload_n hx hb dX3_init_92 rfl (lv_at hl 0 rfl) ?_
  refine lv_bipush (v := 8) hx hb dX3_init_93 (by decide) ?_
  refine m_newa E hM hS (atype := .int) (ty := .int) (k := 14) (t0 := 1) (N := 8) rfl (by simp) ac_int rfl (by decide) (by decide) (by decide) (Nat.le_of_ble_eq_true rfl) (Nat.le_of_ble_eq_true rfl) dX3_init_95 (fun K56 R57 I58 L59 H ea hM hS => ?_)
  have hw := hw K56 R57 I58 L59 ea
  obtain ⟨ob23, hw⟩ := hw
  obtain ⟨ob24, hw⟩ := hw
  refine m_putr E hM hS fp_X3_45 (fun _ => ⟨hnm, rfl⟩) ob23 (by rw [ob24]; decide) rfl rfl dX3_init_97 (fun R60 H locs eR60 hM hS => ?_)
  have hw := hw R60 eR60
  refine lv_aload_n hx hb dX3_init_100 rfl (lv_at hl 0 rfl) ?_
  refine lv_bipush (v := 8) hx hb dX3_init_101 (by decide) ?_
  refine m_newa E hM hS (atype := .int) (ty := .int) (k := 14) (t0 := 1) (N := 8) rfl (by simp) ac_int rfl (by decide) (by decide) (by decide) (Nat.le_of_ble_eq_true rfl) (Nat.le_of_ble_eq_true rfl) dX3_init_103 (fun K61 R62 I63 L64 H ea hM hS => ?_)
  have hw := hw K61 R62 I63 L64 ea
  obtain ⟨ob25, hw⟩ := hw
  obtain ⟨ob26, hw⟩ := hw
  refine m_putr E hM hS fp_X3_48 (fun _ => ⟨hnm, rfl⟩) ob25 (by rw [ob26]; decide) rfl rfl dX3_init_105 (fun R65 H locs eR65 hM hS => ?_)
  have hw := hw R65 eR65
  refine W.widen (k := 13) (n := 144) (Nat.le_of_ble_eq_true rfl) (Nat.le_of_ble_eq_true rfl) ?_
  exact m_retv hx hb hr hlk hM hS ⟨_, _, _, _, rfl, hw⟩ dX3_init_108
theorem dX6_init_0 : decode cX6_init 0 = .ok (.aload_n 0, 1) := by decide +kernel
theorem dX6_init_1 : decode cX6_init 1 = .ok (.invokespecial 3, 3) := by decide +kernel
theorem dX6_init_4 : decode cX6_init 4 = .ok (.aload_n 0, 1) := by decide +kernel
theorem dX6_init_5 : decode cX6_init 5 = .ok (.bipush 10, 2) := by decide +kernel
theorem dX6_init_7 : decode cX6_init 7 = .ok (.newarray .int, 2) := by decide +kernel
theorem dX6_init_9 : decode cX6_init 9 = .ok (.putfield 9, 3) := by decide +kernel
theorem dX6_init_12 : decode cX6_init 12 = .ok (.aload_n 0, 1) := by decide +kernel
theorem dX6_init_13 : decode cX6_init 13 = .ok (.bipush 10, 2) := by decide +kernel
theorem dX6_init_15 : decode cX6_init 15 = .ok (.newarray .int, 2) := by decide +kernel
theorem dX6_init_17 : decode cX6_init 17 = .ok (.putfield 15, 3) := by decide +kernel
theorem dX6_init_20 : decode cX6_init 20 = .ok (.aload_n 0, 1) := by decide +kernel
theorem dX6_init_21 : decode cX6_init 21 = .ok (.bipush 10, 2) := by decide +kernel
theorem dX6_init_23 : decode cX6_init 23 = .ok (.newarray .int, 2) := by decide +kernel
theorem dX6_init_25 : decode cX6_init 25 = .ok (.putfield 18, 3) := by decide +kernel
theorem dX6_init_28 : decode cX6_init 28 = .ok (.aload_n 0, 1) := by decide +kernel
theorem dX6_init_29 : decode cX6_init 29 = .ok (.bipush 10, 2) := by decide +kernel
theorem dX6_init_31 : decode cX6_init 31 = .ok (.newarray .int, 2) := by decide +kernel
theorem dX6_init_33 : decode cX6_init 33 = .ok (.putfield 21, 3) := by decide +kernel
theorem dX6_init_36 : decode cX6_init 36 = .ok (.return_, 1) := by decide +kernel
def w_X6_init (n : Nat) (K : mK) (R : mR) (I : mI) (L : mL) (o : Nat) (post : mK → mR → mI → mL → Prop) : Prop := ∀ K1 R2 I3 L4, al K R I L n (14, 10) K1 R2 I3 L4 → (K1 o).1 = 6 ∧ K1 n = (14, 10) ∧ ∀ R5, R5 = up2 R2 o 1 (some n) → ∀ K6 R7 I8 L9, al K1 R5 I3 L4 (n + 1) (14, 10) K6 R7 I8 L9 → (K6 o).1 = 6 ∧ K6 (n + 1) = (14, 10) ∧ ∀ R10, R10 = up2 R7 o 2 (some (n + 1)) → ∀ K11 R12 I13 L14, al K6 R10 I8 L9 (n + 2) (14, 10) K11 R12 I13 L14 → (K11 o).1 = 6 ∧ K11 (n + 2) = (14, 10) ∧ ∀ R15, R15 = up2 R12 o 3 (some (n + 2)) → ∀ K16 R17 I18 L19, al K11 R15 I13 L14 (n + 3) (14, 10) K16 R17 I18 L19 → (K16 o).1 = 6 ∧ K16 (n + 3) = (14, 10) ∧ ∀ R20, R20 = up2 R17 o 4 (some (n + 3)) → post K16 R20 I18 L19
set_option maxRecDepth 100000 in
set_option maxHeartbeats 4000000 in
theorem c_X6_init {l : Launch} {D : va_G} {cA : Nat → ClassId} {Z : mZ} {bs : Ad} {n : Nat} {K : mK} {R : mR} {I : mI} {L : mL} {o : Nat} {post : mK → mR → mI → mL → Prop} (ob0 : (K o).1 = 6) (hw : w_X6_init n K R I L o post) : Met l yX6_init (.code yX6_init cX6_init 1 none :: gw) ({ frames := 1, cells := 4, slots := 40, locals := 40 } : Room) (PreM D cA Z bs (n, K, R, I, L) [.ref (ad bs o)]) (QV D cA bs (fun u => ∃ K' R' I' L', u = (n + 4, K', R', I', L') ∧ post K' R' I' L')) 4 40 (Ab bs) := by
  refine m_metN (by decide) (Nat.le_of_ble_eq_true rfl) (fun p e s m below meth c ls E hr hlk hnm hM hS hl => ?_)
  have E : Ev p s m _ c cX6_init 1 RX6 D cA Z bs := E
  have hl : lv_has ls 1 [(0, .ref (ad bs o))] := hl
  have hnm : meth.name = "<init>" := hnm
  have hx := E.1.1
  have hb := E.1.2.1
  generalize hHe : s.heap = H at hM ⊢
  have hS : va_S (Ab bs) s.heap H [] := by rw [← hHe]; exact va_S.rf
  clear hHe
  refine lv_aload_n hx hb dX6_init_0 rfl (lv_at hl 0 rfl) ?_
  refine W.objInit hx hb E.1.2.2.2.1 (E.1.2.2.2.2 _ oi_X6) (E.1.2.2.2.2 _ oi_inst) (E.1.2.2.2.2 _ oi_code) rfl (by rw [E.1.2.2.1]; exact hl.1) rfl dX6_init_1 (Nat.le_of_ble_eq_true rfl) (Nat.le_of_ble_eq_true rfl) ?_
  refine W.eq (g2 := F0 m 4 ls []) rfl ?_
  refine lv_aload_n hx hb dX6_init_4 rfl (lv_at hl 0 rfl) ?_
  refine lv_bipush (v := 10) hx hb dX6_init_5 (by decide) ?_
  refine m_newa E hM hS (atype := .int) (ty := .int) (k := 14) (t0 := 1) (N := 10) rfl (by simp) ac_int rfl (by decide) (by decide) (by decide) (Nat.le_of_ble_eq_true rfl) (Nat.le_of_ble_eq_true rfl) dX6_init_7 (fun K1 R2 I3 L4 H ea hM hS => ?_)
  have hw := hw K1 R2 I3 L4 ea
  obtain ⟨ob1, hw⟩ := hw
  obtain ⟨ob2, hw⟩ := hw
  refine m_putr E hM hS fp_X6_9 (fun _ => ⟨hnm, rfl⟩) ob1 (by rw [ob2]; decide) rfl rfl dX6_init_9 (fun R5 H locs eR5 hM hS => ?_)
  have hw := hw R5 eR5
  refine lv_aload_n hx hb dX6_init_12 rfl (lv_at hl 0 rfl) ?_
  refine lv_bipush (v := 10) hx hb dX6_init_13 (by decide) ?_
  refine m_newa E hM hS (atype := .int) (ty := .int) (k := 14) (t0 := 1) (N := 10) rfl (by simp) ac_int rfl (by decide) (by decide) (by decide) (Nat.le_of_ble_eq_true rfl) (Nat.le_of_ble_eq_true rfl) dX6_init_15 (fun K6 R7 I8 L9 H ea hM hS => ?_)
  have hw := hw K6 R7 I8 L9 ea
  obtain ⟨ob3, hw⟩ := hw
  obtain ⟨ob4, hw⟩ := hw
  refine m_putr E hM hS fp_X6_15 (fun _ => ⟨hnm, rfl⟩) ob3 (by rw [ob4]; decide) rfl rfl dX6_init_17 (fun R10 H locs eR10 hM hS => ?_)
  have hw := hw R10 eR10
  refine lv_aload_n hx hb dX6_init_20 rfl (lv_at hl 0 rfl) ?_
  refine lv_bipush (v := 10) hx hb dX6_init_21 (by decide) ?_
  refine m_newa E hM hS (atype := .int) (ty := .int) (k := 14) (t0 := 1) (N := 10) rfl (by simp) ac_int rfl (by decide) (by decide) (by decide) (Nat.le_of_ble_eq_true rfl) (Nat.le_of_ble_eq_true rfl) dX6_init_23 (fun K11 R12 I13 L14 H ea hM hS => ?_)
  have hw := hw K11 R12 I13 L14 ea
  obtain ⟨ob5, hw⟩ := hw
  obtain ⟨ob6, hw⟩ := hw
  refine m_putr E hM hS fp_X6_18 (fun _ => ⟨hnm, rfl⟩) ob5 (by rw [ob6]; decide) rfl rfl dX6_init_25 (fun R15 H locs eR15 hM hS => ?_)
  have hw := hw R15 eR15
  refine lv_aload_n hx hb dX6_init_28 rfl (lv_at hl 0 rfl) ?_
  refine lv_bipush (v := 10) hx hb dX6_init_29 (by decide) ?_
  refine m_newa E hM hS (atype := .int) (ty := .int) (k := 14) (t0 := 1) (N := 10) rfl (by simp) ac_int rfl (by decide) (by decide) (by decide) (Nat.le_of_ble_eq_true rfl) (Nat.le_of_ble_eq_true rfl) dX6_init_31 (fun K16 R17 I18 L19 H ea hM hS => ?_)
  have hw := hw K16 R17 I18 L19 ea
  obtain ⟨ob7, hw⟩ := hw
  obtain ⟨ob8, hw⟩ := hw
  refine m_putr E hM hS fp_X6_21 (fun _ => ⟨hnm, rfl⟩) ob7 (by rw [ob8]; decide) rfl rfl dX6_init_33 (fun R20 H locs eR20 hM hS => ?_)
  have hw := hw R20 eR20
  refine W.widen (k := 4) (n := 40) (Nat.le_of_ble_eq_true rfl) (Nat.le_of_ble_eq_true rfl) ?_
  exact m_retv hx hb hr hlk hM hS ⟨_, _, _, _, rfl, hw⟩ dX6_init_36
theorem dX8_init_0 : decode cX8_init 0 = .ok (.aload_n 0, 1) := by decide +kernel
theorem dX8_init_1 : decode cX8_init 1 = .ok (.invokespecial 3, 3) := by decide +kernel
theorem dX8_init_4 : decode cX8_init 4 = .ok (.aload_n 0, 1) := by decide +kernel
theorem dX8_init_5 : decode cX8_init 5 = .ok (.sipush 600, 3) := by decide +kernel
theorem dX8_init_8 : decode cX8_init 8 = .ok (.newarray .byte, 2) := by decide +kernel
theorem dX8_init_10 : decode cX8_init 10 = .ok (.putfield 9, 3) := by decide +kernel
theorem dX8_init_13 : decode cX8_init 13 = .ok (.aload_n 0, 1) := by decide +kernel
theorem dX8_init_14 : decode cX8_init 14 = .ok (.iconst (-1), 1) := by decide +kernel
theorem dX8_init_15 : decode cX8_init 15 = .ok (.putfield 15, 3) := by decide +kernel
theorem dX8_init_18 : decode cX8_init 18 = .ok (.aload_n 0, 1) := by decide +kernel
theorem dX8_init_19 : decode cX8_init 19 = .ok (.iconst 2, 1) := by decide +kernel
theorem dX8_init_20 : decode cX8_init 20 = .ok (.anewarray 19, 3) := by decide +kernel
theorem dX8_init_23 : decode cX8_init 23 = .ok (.putfield 21, 3) := by decide +kernel
theorem dX8_init_26 : decode cX8_init 26 = .ok (.aload_n 0, 1) := by decide +kernel
theorem dX8_init_27 : decode cX8_init 27 = .ok (.iconst 2, 1) := by decide +kernel
theorem dX8_init_28 : decode cX8_init 28 = .ok (.anewarray 25, 3) := by decide +kernel
theorem dX8_init_31 : decode cX8_init 31 = .ok (.putfield 27, 3) := by decide +kernel
theorem dX8_init_34 : decode cX8_init 34 = .ok (.iconst 0, 1) := by decide +kernel
theorem dX8_init_35 : decode cX8_init 35 = .ok (.istore_n 1, 1) := by decide +kernel
theorem dX8_init_36 : decode cX8_init 36 = .ok (.iload_n 1, 1) := by decide +kernel
theorem dX8_init_37 : decode cX8_init 37 = .ok (.iconst 2, 1) := by decide +kernel
theorem dX8_init_38 : decode cX8_init 38 = .ok (.if_icmp .ge 35, 3) := by decide +kernel
theorem dX8_init_41 : decode cX8_init 41 = .ok (.aload_n 0, 1) := by decide +kernel
theorem dX8_init_42 : decode cX8_init 42 = .ok (.getfield 21, 3) := by decide +kernel
theorem dX8_init_45 : decode cX8_init 45 = .ok (.iload_n 1, 1) := by decide +kernel
theorem dX8_init_46 : decode cX8_init 46 = .ok (.new 19, 3) := by decide +kernel
theorem dX8_init_49 : decode cX8_init 49 = .ok (.dup, 1) := by decide +kernel
theorem dX8_init_50 : decode cX8_init 50 = .ok (.invokespecial 31, 3) := by decide +kernel
theorem dX8_init_53 : decode cX8_init 53 = .ok (.aastore, 1) := by decide +kernel
theorem dX8_init_54 : decode cX8_init 54 = .ok (.aload_n 0, 1) := by decide +kernel
theorem dX8_init_55 : decode cX8_init 55 = .ok (.getfield 27, 3) := by decide +kernel
theorem dX8_init_58 : decode cX8_init 58 = .ok (.iload_n 1, 1) := by decide +kernel
theorem dX8_init_59 : decode cX8_init 59 = .ok (.new 25, 3) := by decide +kernel
theorem dX8_init_62 : decode cX8_init 62 = .ok (.dup, 1) := by decide +kernel
theorem dX8_init_63 : decode cX8_init 63 = .ok (.invokespecial 32, 3) := by decide +kernel
theorem dX8_init_66 : decode cX8_init 66 = .ok (.aastore, 1) := by decide +kernel
theorem dX8_init_67 : decode cX8_init 67 = .ok (.iinc 1 1, 3) := by decide +kernel
theorem dX8_init_70 : decode cX8_init 70 = .ok (.goto (-34), 3) := by decide +kernel
theorem dX8_init_73 : decode cX8_init 73 = .ok (.return_, 1) := by decide +kernel
def w_X8_init (n : Nat) (K : mK) (R : mR) (I : mI) (L : mL) (o : Nat) (post : mK → mR → mI → mL → Prop) : Prop := ∀ K1 R2 I3 L4, al K R I L n (13, 600) K1 R2 I3 L4 → (K1 o).1 = 8 ∧ K1 n = (13, 600) ∧ ∀ R5, R5 = up2 R2 o 0 (some n) → ∀ I6, I6 = up2 I3 o 3 (-1) → ∀ K7 R8 I9 L10, al K1 R5 I6 L4 (n + 1) (18, 2) K7 R8 I9 L10 → (K7 o).1 = 8 ∧ K7 (n + 1) = (18, 2) ∧ ∀ R11, R11 = up2 R8 o 6 (some (n + 1)) → ∀ K12 R13 I14 L15, al K7 R11 I9 L10 (n + 2) (19, 2) K12 R13 I14 L15 → (K12 o).1 = 8 ∧ K12 (n + 2) = (19, 2) ∧ ∀ R16, R16 = up2 R13 o 7 (some (n + 2)) → R16 o 6 = some (n + 1) ∧ ∀ K17 R18 I19 L20, al K12 R16 I14 L15 (n + 3) (3, 18) K17 R18 I19 L20 → (K17 (n + 3)).1 = 3 ∧ w_X3_init (n + 4) K17 R18 I19 L20 (n + 3) (fun K21 R22 I23 L24 => K21 (n + 1) = (18, 2) ∧ (K21 (n + 3)).1 = 3 ∧ ∀ R25, R25 = up2 R22 (n + 1) ((0 : Int32).toNatClampNeg) (some (n + 3)) → (K21 o).1 = 8 ∧ R25 o 7 = some (n + 2) ∧ ∀ K26 R27 I28 L29, al K21 R25 I23 L24 (n + 17) (6, 5) K26 R27 I28 L29 → (K26 (n + 17)).1 = 6 ∧ w_X6_init (n + 18) K26 R27 I28 L29 (n + 17) (fun K30 R31 I32 L33 => K30 (n + 2) = (19, 2) ∧ (K30 (n + 17)).1 = 6 ∧ ∀ R34, R34 = up2 R31 (n + 2) ((0 : Int32).toNatClampNeg) (some (n + 17)) → (K30 o).1 = 8 ∧ R34 o 6 = some (n + 1) ∧ ∀ K35 R36 I37 L38, al K30 R34 I32 L33 (n + 22) (3, 18) K35 R36 I37 L38 → (K35 (n + 22)).1 = 3 ∧ w_X3_init (n + 23) K35 R36 I37 L38 (n + 22) (fun K39 R40 I41 L42 => K39 (n + 1) = (18, 2) ∧ (K39 (n + 22)).1 = 3 ∧ ∀ R43, R43 = up2 R40 (n + 1) ((1 : Int32).toNatClampNeg) (some (n + 22)) → (K39 o).1 = 8 ∧ R43 o 7 = some (n + 2) ∧ ∀ K44 R45 I46 L47, al K39 R43 I41 L42 (n + 36) (6, 5) K44 R45 I46 L47 → (K44 (n + 36)).1 = 6 ∧ w_X6_init (n + 37) K44 R45 I46 L47 (n + 36) (fun K48 R49 I50 L51 => K48 (n + 2) = (19, 2) ∧ (K48 (n + 36)).1 = 6 ∧ ∀ R52, R52 = up2 R49 (n + 2) ((1 : Int32).toNatClampNeg) (some (n + 36)) → post K48 R52 I50 L51))))
set_option maxRecDepth 100000 in
set_option maxHeartbeats 4000000 in
theorem c_X8_init {l : Launch} {D : va_G} {cA : Nat → ClassId} {Z : mZ} {bs : Ad} {n : Nat} {K : mK} {R : mR} {I : mI} {L : mL} {o : Nat} {post : mK → mR → mI → mL → Prop} (ob0 : (K o).1 = 8) (hw : w_X8_init n K R I L o post) : Met l yX8_init (.code yX8_init cX8_init 2 none :: gw) ({ frames := 2, cells := 41, slots := 1018, locals := 60 } : Room) (PreM D cA Z bs (n, K, R, I, L) [.ref (ad bs o)]) (QV D cA bs (fun u => ∃ K' R' I' L', u = (n + 41, K', R', I', L') ∧ post K' R' I' L')) 41 1018 (Ab bs) := by
  refine m_metN (by decide) (Nat.le_of_ble_eq_true rfl) (fun p e s m below meth c ls E hr hlk hnm hM hS hl => ?_)
  have E : Ev p s m _ c cX8_init 2 RX8 D cA Z bs := E
  have hl : lv_has ls 2 [(0, .ref (ad bs o))] := hl
  have hnm : meth.name = "<init>" := hnm
  have hx := E.1.1
  have hb := E.1.2.1
  generalize hHe : s.heap = H at hM ⊢
  have hS : va_S (Ab bs) s.heap H [] := by rw [← hHe]; exact va_S.rf
  clear hHe
  refine lv_aload_n hx hb dX8_init_0 rfl (lv_at hl 0 rfl) ?_
  refine W.objInit hx hb E.1.2.2.2.1 (E.1.2.2.2.2 _ oi_X8) (E.1.2.2.2.2 _ oi_inst) (E.1.2.2.2.2 _ oi_code) rfl (by rw [E.1.2.2.1]; exact hl.1) rfl dX8_init_1 (Nat.le_of_ble_eq_true rfl) (Nat.le_of_ble_eq_true rfl) ?_
  refine W.eq (g2 := F0 m 4 ls []) rfl ?_
  refine lv_aload_n hx hb dX8_init_4 rfl (lv_at hl 0 rfl) ?_
  refine lv_sipush (v := 600) hx hb dX8_init_5 (by decide) ?_
  refine m_newa E hM hS (atype := .byte) (ty := .byte) (k := 13) (t0 := 0) (N := 600) rfl (by simp) ac_byte rfl (by decide) (by decide) (by decide) (Nat.le_of_ble_eq_true rfl) (Nat.le_of_ble_eq_true rfl) dX8_init_8 (fun K1 R2 I3 L4 H ea hM hS => ?_)
  have hw := hw K1 R2 I3 L4 ea
  obtain ⟨ob1, hw⟩ := hw
  obtain ⟨ob2, hw⟩ := hw
  refine m_putr E hM hS fp_X8_9 (fun _ => ⟨hnm, rfl⟩) ob1 (by rw [ob2]; decide) rfl rfl dX8_init_10 (fun R5 H locs eR5 hM hS => ?_)
  have hw := hw R5 eR5
  refine lv_aload_n hx hb dX8_init_13 rfl (lv_at hl 0 rfl) ?_
  refine lv_iconst (v := (-1)) hx hb dX8_init_14 (by decide) ?_
  refine m_puti E hM hS fp_X8_15 ob1 rfl rfl dX8_init_15 (fun I6 H locs eI6 hM hS => ?_)
  have hw := hw I6 eI6
  refine lv_aload_n hx hb dX8_init_18 rfl (lv_at hl 0 rfl) ?_
  refine lv_iconst (v := 2) hx hb dX8_init_19 (by decide) ?_
  refine m_newq E hM hS (k := 18) (t0 := 5) (N := 2) (by decide) cl_X8_19 (by decide) rfl (by decide) (by decide) (by decide) (Nat.le_of_ble_eq_true rfl) (Nat.le_of_ble_eq_true rfl) dX8_init_20 (fun K7 R8 I9 L10 H ea hM hS => ?_)
  have hw := hw K7 R8 I9 L10 ea
  obtain ⟨ob3, hw⟩ := hw
  obtain ⟨ob4, hw⟩ := hw
  refine m_putr E hM hS fp_X8_21 (fun _ => ⟨hnm, rfl⟩) ob3 (by rw [ob4]; decide) rfl rfl dX8_init_23 (fun R11 H locs eR11 hM hS => ?_)
  have hw := hw R11 eR11
  refine lv_aload_n hx hb dX8_init_26 rfl (lv_at hl 0 rfl) ?_
  refine lv_iconst (v := 2) hx hb dX8_init_27 (by decide) ?_
  refine m_newq E hM hS (k := 19) (t0 := 6) (N := 2) (by decide) cl_X8_25 (by decide) rfl (by decide) (by decide) (by decide) (Nat.le_of_ble_eq_true rfl) (Nat.le_of_ble_eq_true rfl) dX8_init_28 (fun K12 R13 I14 L15 H ea hM hS => ?_)
  have hw := hw K12 R13 I14 L15 ea
  obtain ⟨ob5, hw⟩ := hw
  obtain ⟨ob6, hw⟩ := hw
  refine m_putr E hM hS fp_X8_27 (fun _ => ⟨hnm, rfl⟩) ob5 (by rw [ob6]; decide) rfl rfl dX8_init_31 (fun R16 H locs eR16 hM hS => ?_)
  have hw := hw R16 eR16
  refine lv_iconst (v := 0) hx hb dX8_init_34 (by decide) ?_
  refine lv_istore_n (lv' := [(1, .int 0), (0, .ref (ad bs o))]) hx hb dX8_init_35 rfl hl (by decide) rfl (fun ls hl => ?_)
  refine lv_iload_n hx hb dX8_init_36 rfl (lv_at hl 0 rfl) ?_
  refine lv_iconst (v := 2) hx hb dX8_init_37 (by decide) ?_
  refine lv_icmp_ge (tgt := 73) hx hb dX8_init_38 (by decide) (fun cq => absurd cq (by decide)) (fun _ => ?_)
  refine lv_aload_n hx hb dX8_init_41 rfl (lv_at hl 1 rfl) ?_
  obtain ⟨ob7, hw⟩ := hw
  refine m_getr E hM fs_X8_21 ob5 ob7 dX8_init_42 ?_
  refine lv_iload_n hx hb dX8_init_45 rfl (lv_at hl 0 rfl) ?_
  refine m_new E hM hS nw_X8_19 (Nat.le_of_ble_eq_true rfl) (Nat.le_of_ble_eq_true rfl) dX8_init_46 (fun K17 R18 I19 L20 H ea hM hS => ?_)
  have hw := hw K17 R18 I19 L20 ea
  refine lv_dup hx hb dX8_init_49 rfl ?_
  obtain ⟨ob8, hw⟩ := hw
  refine m_cv (m_runIN E hM hS cs_X8_31 (c_X3_init ob8 hw) rfl rfl ⟨Nat.le_of_ble_eq_true rfl, Nat.le_of_ble_eq_true rfl⟩ rfl hl.1 rfl (Nat.le_of_ble_eq_true rfl) dX8_init_50 ⟨Nat.le_of_ble_eq_true rfl, Nat.le_of_ble_eq_true rfl⟩) hS (fun u H locs hp hM hS => ?_)
  obtain ⟨K21, R22, I23, L24, rfl, hw⟩ := hp
  obtain ⟨ob9, hw⟩ := hw
  obtain ⟨ob10, hw⟩ := hw
  refine m_aast E hM hS (t0 := 5) ob9 (by decide) (by decide) ob10 (by decide) rfl rfl (by unfold vp_in; decide) dX8_init_53 (fun R25 H locs eR25 hM hS => ?_)
  have hw := hw R25 eR25
  refine lv_aload_n hx hb dX8_init_54 rfl (lv_at hl 1 rfl) ?_
  obtain ⟨ob11, hw⟩ := hw
  obtain ⟨ob12, hw⟩ := hw
  refine m_getr E hM fs_X8_27 ob11 ob12 dX8_init_55 ?_
  refine lv_iload_n hx hb dX8_init_58 rfl (lv_at hl 0 rfl) ?_
  refine m_new E hM hS nw_X8_25 (Nat.le_of_ble_eq_true rfl) (Nat.le_of_ble_eq_true rfl) dX8_init_59 (fun K26 R27 I28 L29 H ea hM hS => ?_)
  have hw := hw K26 R27 I28 L29 ea
  refine lv_dup hx hb dX8_init_62 rfl ?_
  obtain ⟨ob13, hw⟩ := hw
  refine m_cv (m_runIN E hM hS cs_X8_32 (c_X6_init ob13 hw) rfl rfl ⟨Nat.le_of_ble_eq_true rfl, Nat.le_of_ble_eq_true rfl⟩ rfl hl.1 rfl (Nat.le_of_ble_eq_true rfl) dX8_init_63 ⟨Nat.le_of_ble_eq_true rfl, Nat.le_of_ble_eq_true rfl⟩) hS (fun u H locs hp hM hS => ?_)
  obtain ⟨K30, R31, I32, L33, rfl, hw⟩ := hp
  obtain ⟨ob14, hw⟩ := hw
  obtain ⟨ob15, hw⟩ := hw
  refine m_aast E hM hS (t0 := 6) ob14 (by decide) (by decide) ob15 (by decide) rfl rfl (by unfold vp_in; decide) dX8_init_66 (fun R34 H locs eR34 hM hS => ?_)
  have hw := hw R34 eR34
  refine lv_iinc (v := 1) (lv' := [(1, .int 1), (0, .ref (ad bs o))]) hx hb dX8_init_67 hl (k := 0) rfl (by decide) (by decide) rfl (fun ls hl => ?_)
  refine lv_goto (tgt := 36) hx hb dX8_init_70 (by decide) ?_
  refine lv_iload_n hx hb dX8_init_36 rfl (lv_at hl 0 rfl) ?_
  refine lv_iconst (v := 2) hx hb dX8_init_37 (by decide) ?_
  refine lv_icmp_ge (tgt := 73) hx hb dX8_init_38 (by decide) (fun cq => absurd cq (by decide)) (fun _ => ?_)
  refine lv_aload_n hx hb dX8_init_41 rfl (lv_at hl 1 rfl) ?_
  obtain ⟨ob16, hw⟩ := hw
  obtain ⟨ob17, hw⟩ := hw
  refine m_getr E hM fs_X8_21 ob16 ob17 dX8_init_42 ?_
  refine lv_iload_n hx hb dX8_init_45 rfl (lv_at hl 0 rfl) ?_
  refine m_new E hM hS nw_X8_19 (Nat.le_of_ble_eq_true rfl) (Nat.le_of_ble_eq_true rfl) dX8_init_46 (fun K35 R36 I37 L38 H ea hM hS => ?_)
  have hw := hw K35 R36 I37 L38 ea
  refine lv_dup hx hb dX8_init_49 rfl ?_
  obtain ⟨ob18, hw⟩ := hw
  refine m_cv (m_runIN E hM hS cs_X8_31 (c_X3_init ob18 hw) rfl rfl ⟨Nat.le_of_ble_eq_true rfl, Nat.le_of_ble_eq_true rfl⟩ rfl hl.1 rfl (Nat.le_of_ble_eq_true rfl) dX8_init_50 ⟨Nat.le_of_ble_eq_true rfl, Nat.le_of_ble_eq_true rfl⟩) hS (fun u H locs hp hM hS => ?_)
  obtain ⟨K39, R40, I41, L42, rfl, hw⟩ := hp
  obtain ⟨ob19, hw⟩ := hw
  obtain ⟨ob20, hw⟩ := hw
  refine m_aast E hM hS (t0 := 5) ob19 (by decide) (by decide) ob20 (by decide) rfl rfl (by unfold vp_in; decide) dX8_init_53 (fun R43 H locs eR43 hM hS => ?_)
  have hw := hw R43 eR43
  refine lv_aload_n hx hb dX8_init_54 rfl (lv_at hl 1 rfl) ?_
  obtain ⟨ob21, hw⟩ := hw
  obtain ⟨ob22, hw⟩ := hw
  refine m_getr E hM fs_X8_27 ob21 ob22 dX8_init_55 ?_
  refine lv_iload_n hx hb dX8_init_58 rfl (lv_at hl 0 rfl) ?_
  refine m_new E hM hS nw_X8_25 (Nat.le_of_ble_eq_true rfl) (Nat.le_of_ble_eq_true rfl) dX8_init_59 (fun K44 R45 I46 L47 H ea hM hS => ?_)
  have hw := hw K44 R45 I46 L47 ea
  refine lv_dup hx hb dX8_init_62 rfl ?_
  obtain ⟨ob23, hw⟩ := hw
  refine m_cv (m_runIN E hM hS cs_X8_32 (c_X6_init ob23 hw) rfl rfl ⟨Nat.le_of_ble_eq_true rfl, Nat.le_of_ble_eq_true rfl⟩ rfl hl.1 rfl (Nat.le_of_ble_eq_true rfl) dX8_init_63 ⟨Nat.le_of_ble_eq_true rfl, Nat.le_of_ble_eq_true rfl⟩) hS (fun u H locs hp hM hS => ?_)
  obtain ⟨K48, R49, I50, L51, rfl, hw⟩ := hp
  obtain ⟨ob24, hw⟩ := hw
  obtain ⟨ob25, hw⟩ := hw
  refine m_aast E hM hS (t0 := 6) ob24 (by decide) (by decide) ob25 (by decide) rfl rfl (by unfold vp_in; decide) dX8_init_66 (fun R52 H locs eR52 hM hS => ?_)
  have hw := hw R52 eR52
  refine lv_iinc (v := 2) (lv' := [(1, .int 2), (0, .ref (ad bs o))]) hx hb dX8_init_67 hl (k := 0) rfl (by decide) (by decide) rfl (fun ls hl => ?_)
  refine lv_goto (tgt := 36) hx hb dX8_init_70 (by decide) ?_
  refine lv_iload_n hx hb dX8_init_36 rfl (lv_at hl 0 rfl) ?_
  refine lv_iconst (v := 2) hx hb dX8_init_37 (by decide) ?_
  refine lv_icmp_ge (tgt := 73) hx hb dX8_init_38 (by decide) (fun _ => ?_) (fun cq => absurd (by decide) cq)
  refine W.widen (k := 41) (n := 1018) (Nat.le_of_ble_eq_true rfl) (Nat.le_of_ble_eq_true rfl) ?_
  exact m_retv hx hb hr hlk hM hS ⟨_, _, _, _, rfl, hw⟩ dX8_init_73
theorem dX5_init_0 : decode cX5_init 0 = .ok (.aload_n 0, 1) := by decide +kernel
theorem dX5_init_1 : decode cX5_init 1 = .ok (.invokespecial 3, 3) := by decide +kernel
theorem dX5_init_4 : decode cX5_init 4 = .ok (.aload_n 0, 1) := by decide +kernel
theorem dX5_init_5 : decode cX5_init 5 = .ok (.new 9, 3) := by decide +kernel
theorem dX5_init_8 : decode cX5_init 8 = .ok (.dup, 1) := by decide +kernel
theorem dX5_init_9 : decode cX5_init 9 = .ok (.invokespecial 11, 3) := by decide +kernel
theorem dX5_init_12 : decode cX5_init 12 = .ok (.putfield 12, 3) := by decide +kernel
theorem dX5_init_15 : decode cX5_init 15 = .ok (.aload_n 0, 1) := by decide +kernel
theorem dX5_init_16 : decode cX5_init 16 = .ok (.new 18, 3) := by decide +kernel
theorem dX5_init_19 : decode cX5_init 19 = .ok (.dup, 1) := by decide +kernel
theorem dX5_init_20 : decode cX5_init 20 = .ok (.invokespecial 20, 3) := by decide +kernel
theorem dX5_init_23 : decode cX5_init 23 = .ok (.putfield 21, 3) := by decide +kernel
theorem dX5_init_26 : decode cX5_init 26 = .ok (.aload_n 0, 1) := by decide +kernel
theorem dX5_init_27 : decode cX5_init 27 = .ok (.bipush 11, 2) := by decide +kernel
theorem dX5_init_29 : decode cX5_init 29 = .ok (.newarray .int, 2) := by decide +kernel
theorem dX5_init_31 : decode cX5_init 31 = .ok (.putfield 25, 3) := by decide +kernel
theorem dX5_init_34 : decode cX5_init 34 = .ok (.aload_n 0, 1) := by decide +kernel
theorem dX5_init_35 : decode cX5_init 35 = .ok (.aload_n 1, 1) := by decide +kernel
theorem dX5_init_36 : decode cX5_init 36 = .ok (.putfield 29, 3) := by decide +kernel
theorem dX5_init_39 : decode cX5_init 39 = .ok (.return_, 1) := by decide +kernel
def w_X5_init (n : Nat) (K : mK) (R : mR) (I : mI) (L : mL) (o : Nat) (a1 : Nat) (post : mK → mR → mI → mL → Prop) : Prop := ∀ K1 R2 I3 L4, al K R I L n (3, 18) K1 R2 I3 L4 → (K1 n).1 = 3 ∧ w_X3_init (n + 1) K1 R2 I3 L4 n (fun K5 R6 I7 L8 => (K5 o).1 = 5 ∧ (K5 n).1 = 3 ∧ ∀ R9, R9 = up2 R6 o 0 (some n) → ∀ K10 R11 I12 L13, al K5 R9 I7 L8 (n + 14) (6, 5) K10 R11 I12 L13 → (K10 (n + 14)).1 = 6 ∧ w_X6_init (n + 15) K10 R11 I12 L13 (n + 14) (fun K14 R15 I16 L17 => (K14 o).1 = 5 ∧ (K14 (n + 14)).1 = 6 ∧ ∀ R18, R18 = up2 R15 o 1 (some (n + 14)) → ∀ K19 R20 I21 L22, al K14 R18 I16 L17 (n + 19) (14, 11) K19 R20 I21 L22 → (K19 o).1 = 5 ∧ K19 (n + 19) = (14, 11) ∧ ∀ R23, R23 = up2 R20 o 10 (some (n + 19)) → K19 a1 = (13, 600) ∧ ∀ R24, R24 = up2 R23 o 4 (some a1) → post K19 R24 I21 L22))
set_option maxRecDepth 100000 in
set_option maxHeartbeats 4000000 in
theorem c_X5_init {l : Launch} {D : va_G} {cA : Nat → ClassId} {Z : mZ} {bs : Ad} {n : Nat} {K : mK} {R : mR} {I : mI} {L : mL} {o : Nat} {a1 : Nat} {post : mK → mR → mI → mL → Prop} (ob0 : (K o).1 = 5) (hw : w_X5_init n K R I L o a1 post) : Met l yX5_init (.code yX5_init cX5_init 2 none :: gw) ({ frames := 2, cells := 20, slots := 218, locals := 60 } : Room) (PreM D cA Z bs (n, K, R, I, L) [.ref (ad bs o), .ref (ad bs a1)]) (QV D cA bs (fun u => ∃ K' R' I' L', u = (n + 20, K', R', I', L') ∧ post K' R' I' L')) 20 218 (Ab bs) := by
  refine m_metN (by decide) (Nat.le_of_ble_eq_true rfl) (fun p e s m below meth c ls E hr hlk hnm hM hS hl => ?_)
  have E : Ev p s m _ c cX5_init 2 RX5 D cA Z bs := E
  have hl : lv_has ls 2 [(0, .ref (ad bs o)), (1, .ref (ad bs a1))] := hl
  have hnm : meth.name = "<init>" := hnm
  have hx := E.1.1
  have hb := E.1.2.1
  generalize hHe : s.heap = H at hM ⊢
  have hS : va_S (Ab bs) s.heap H [] := by rw [← hHe]; exact va_S.rf
  clear hHe
  refine lv_aload_n hx hb dX5_init_0 rfl (lv_at hl 0 rfl) ?_
  refine W.objInit hx hb E.1.2.2.2.1 (E.1.2.2.2.2 _ oi_X5) (E.1.2.2.2.2 _ oi_inst) (E.1.2.2.2.2 _ oi_code) rfl (by rw [E.1.2.2.1]; exact hl.1) rfl dX5_init_1 (Nat.le_of_ble_eq_true rfl) (Nat.le_of_ble_eq_true rfl) ?_
  refine W.eq (g2 := F0 m 4 ls []) rfl ?_
  refine lv_aload_n hx hb dX5_init_4 rfl (lv_at hl 0 rfl) ?_
  refine m_new E hM hS nw_X5_9 (Nat.le_of_ble_eq_true rfl) (Nat.le_of_ble_eq_true rfl) dX5_init_5 (fun K1 R2 I3 L4 H ea hM hS => ?_)
  have hw := hw K1 R2 I3 L4 ea
  refine lv_dup hx hb dX5_init_8 rfl ?_
  obtain ⟨ob1, hw⟩ := hw
  refine m_cv (m_runIN E hM hS cs_X5_11 (c_X3_init ob1 hw) rfl rfl ⟨Nat.le_of_ble_eq_true rfl, Nat.le_of_ble_eq_true rfl⟩ rfl hl.1 rfl (Nat.le_of_ble_eq_true rfl) dX5_init_9 ⟨Nat.le_of_ble_eq_true rfl, Nat.le_of_ble_eq_true rfl⟩) hS (fun u H locs hp hM hS => ?_)
  obtain ⟨K5, R6, I7, L8, rfl, hw⟩ := hp
  obtain ⟨ob2, hw⟩ := hw
  obtain ⟨ob3, hw⟩ := hw
  refine m_putr E hM hS fp_X5_12 (fun _ => ⟨hnm, rfl⟩) ob2 (by rw [ob3]; decide) rfl rfl dX5_init_12 (fun R9 H locs eR9 hM hS => ?_)
  have hw := hw R9 eR9
  refine lv_aload_n hx hb dX5_init_15 rfl (lv_at hl 0 rfl) ?_
  refine m_new E hM hS nw_X5_18 (Nat.le_of_ble_eq_true rfl) (Nat.le_of_ble_eq_true rfl) dX5_init_16 (fun K10 R11 I12 L13 H ea hM hS => ?_)
  have hw := hw K10 R11 I12 L13 ea
  refine lv_dup hx hb dX5_init_19 rfl ?_
  obtain ⟨ob4, hw⟩ := hw
  refine m_cv (m_runIN E hM hS cs_X5_20 (c_X6_init ob4 hw) rfl rfl ⟨Nat.le_of_ble_eq_true rfl, Nat.le_of_ble_eq_true rfl⟩ rfl hl.1 rfl (Nat.le_of_ble_eq_true rfl) dX5_init_20 ⟨Nat.le_of_ble_eq_true rfl, Nat.le_of_ble_eq_true rfl⟩) hS (fun u H locs hp hM hS => ?_)
  obtain ⟨K14, R15, I16, L17, rfl, hw⟩ := hp
  obtain ⟨ob5, hw⟩ := hw
  obtain ⟨ob6, hw⟩ := hw
  refine m_putr E hM hS fp_X5_21 (fun _ => ⟨hnm, rfl⟩) ob5 (by rw [ob6]; decide) rfl rfl dX5_init_23 (fun R18 H locs eR18 hM hS => ?_)
  have hw := hw R18 eR18
  refine lv_aload_n hx hb dX5_init_26 rfl (lv_at hl 0 rfl) ?_
  refine lv_bipush (v := 11) hx hb dX5_init_27 (by decide) ?_
  refine m_newa E hM hS (atype := .int) (ty := .int) (k := 14) (t0 := 1) (N := 11) rfl (by simp) ac_int rfl (by decide) (by decide) (by decide) (Nat.le_of_ble_eq_true rfl) (Nat.le_of_ble_eq_true rfl) dX5_init_29 (fun K19 R20 I21 L22 H ea hM hS => ?_)
  have hw := hw K19 R20 I21 L22 ea
  obtain ⟨ob7, hw⟩ := hw
  obtain ⟨ob8, hw⟩ := hw
  refine m_putr E hM hS fp_X5_25 (fun _ => ⟨hnm, rfl⟩) ob7 (by rw [ob8]; decide) rfl rfl dX5_init_31 (fun R23 H locs eR23 hM hS => ?_)
  have hw := hw R23 eR23
  refine lv_aload_n hx hb dX5_init_34 rfl (lv_at hl 0 rfl) ?_
  refine lv_aload_n hx hb dX5_init_35 rfl (lv_at hl 1 rfl) ?_
  obtain ⟨ob9, hw⟩ := hw
  refine m_putr E hM hS fp_X5_29 (fun _ => ⟨hnm, rfl⟩) ob7 (by rw [ob9]; decide) rfl rfl dX5_init_36 (fun R24 H locs eR24 hM hS => ?_)
  have hw := hw R24 eR24
  refine W.widen (k := 20) (n := 218) (Nat.le_of_ble_eq_true rfl) (Nat.le_of_ble_eq_true rfl) ?_
  exact m_retv hx hb hr hlk hM hS ⟨_, _, _, _, rfl, hw⟩ dX5_init_39
theorem dX4_init_0 : decode cX4_init 0 = .ok (.aload_n 0, 1) := by decide +kernel
theorem dX4_init_1 : decode cX4_init 1 = .ok (.invokespecial 3, 3) := by decide +kernel
theorem dX4_init_4 : decode cX4_init 4 = .ok (.aload_n 0, 1) := by decide +kernel
theorem dX4_init_5 : decode cX4_init 5 = .ok (.sipush 2400, 3) := by decide +kernel
theorem dX4_init_8 : decode cX4_init 8 = .ok (.newarray .int, 2) := by decide +kernel
theorem dX4_init_10 : decode cX4_init 10 = .ok (.putfield 9, 3) := by decide +kernel
theorem dX4_init_13 : decode cX4_init 13 = .ok (.aload_n 0, 1) := by decide +kernel
theorem dX4_init_14 : decode cX4_init 14 = .ok (.bipush 100, 2) := by decide +kernel
theorem dX4_init_16 : decode cX4_init 16 = .ok (.newarray .int, 2) := by decide +kernel
theorem dX4_init_18 : decode cX4_init 18 = .ok (.putfield 15, 3) := by decide +kernel
theorem dX4_init_21 : decode cX4_init 21 = .ok (.aload_n 0, 1) := by decide +kernel
theorem dX4_init_22 : decode cX4_init 22 = .ok (.bipush 24, 2) := by decide +kernel
theorem dX4_init_24 : decode cX4_init 24 = .ok (.newarray .int, 2) := by decide +kernel
theorem dX4_init_26 : decode cX4_init 26 = .ok (.putfield 18, 3) := by decide +kernel
theorem dX4_init_29 : decode cX4_init 29 = .ok (.return_, 1) := by decide +kernel
def w_X4_init (n : Nat) (K : mK) (R : mR) (I : mI) (L : mL) (o : Nat) (post : mK → mR → mI → mL → Prop) : Prop := ∀ K1 R2 I3 L4, al K R I L n (14, 2400) K1 R2 I3 L4 → (K1 o).1 = 4 ∧ K1 n = (14, 2400) ∧ ∀ R5, R5 = up2 R2 o 2 (some n) → ∀ K6 R7 I8 L9, al K1 R5 I3 L4 (n + 1) (14, 100) K6 R7 I8 L9 → (K6 o).1 = 4 ∧ K6 (n + 1) = (14, 100) ∧ ∀ R10, R10 = up2 R7 o 3 (some (n + 1)) → ∀ K11 R12 I13 L14, al K6 R10 I8 L9 (n + 2) (14, 24) K11 R12 I13 L14 → (K11 o).1 = 4 ∧ K11 (n + 2) = (14, 24) ∧ ∀ R15, R15 = up2 R12 o 4 (some (n + 2)) → post K11 R15 I13 L14
set_option maxRecDepth 100000 in
set_option maxHeartbeats 4000000 in
theorem c_X4_init {l : Launch} {D : va_G} {cA : Nat → ClassId} {Z : mZ} {bs : Ad} {n : Nat} {K : mK} {R : mR} {I : mI} {L : mL} {o : Nat} {post : mK → mR → mI → mL → Prop} (ob0 : (K o).1 = 4) (hw : w_X4_init n K R I L o post) : Met l yX4_init (.code yX4_init cX4_init 1 none :: gw) ({ frames := 1, cells := 3, slots := 2524, locals := 40 } : Room) (PreM D cA Z bs (n, K, R, I, L) [.ref (ad bs o)]) (QV D cA bs (fun u => ∃ K' R' I' L', u = (n + 3, K', R', I', L') ∧ post K' R' I' L')) 3 2524 (Ab bs) := by
  refine m_metN (by decide) (Nat.le_of_ble_eq_true rfl) (fun p e s m below meth c ls E hr hlk hnm hM hS hl => ?_)
  have E : Ev p s m _ c cX4_init 1 RX4 D cA Z bs := E
  have hl : lv_has ls 1 [(0, .ref (ad bs o))] := hl
  have hnm : meth.name = "<init>" := hnm
  have hx := E.1.1
  have hb := E.1.2.1
  generalize hHe : s.heap = H at hM ⊢
  have hS : va_S (Ab bs) s.heap H [] := by rw [← hHe]; exact va_S.rf
  clear hHe
  refine lv_aload_n hx hb dX4_init_0 rfl (lv_at hl 0 rfl) ?_
  refine W.objInit hx hb E.1.2.2.2.1 (E.1.2.2.2.2 _ oi_X4) (E.1.2.2.2.2 _ oi_inst) (E.1.2.2.2.2 _ oi_code) rfl (by rw [E.1.2.2.1]; exact hl.1) rfl dX4_init_1 (Nat.le_of_ble_eq_true rfl) (Nat.le_of_ble_eq_true rfl) ?_
  refine W.eq (g2 := F0 m 4 ls []) rfl ?_
  refine lv_aload_n hx hb dX4_init_4 rfl (lv_at hl 0 rfl) ?_
  refine lv_sipush (v := 2400) hx hb dX4_init_5 (by decide) ?_
  refine m_newa E hM hS (atype := .int) (ty := .int) (k := 14) (t0 := 1) (N := 2400) rfl (by simp) ac_int rfl (by decide) (by decide) (by decide) (Nat.le_of_ble_eq_true rfl) (Nat.le_of_ble_eq_true rfl) dX4_init_8 (fun K1 R2 I3 L4 H ea hM hS => ?_)
  have hw := hw K1 R2 I3 L4 ea
  obtain ⟨ob1, hw⟩ := hw
  obtain ⟨ob2, hw⟩ := hw
  refine m_putr E hM hS fp_X4_9 (fun _ => ⟨hnm, rfl⟩) ob1 (by rw [ob2]; decide) rfl rfl dX4_init_10 (fun R5 H locs eR5 hM hS => ?_)
  have hw := hw R5 eR5
  refine lv_aload_n hx hb dX4_init_13 rfl (lv_at hl 0 rfl) ?_
  refine lv_bipush (v := 100) hx hb dX4_init_14 (by decide) ?_
  refine m_newa E hM hS (atype := .int) (ty := .int) (k := 14) (t0 := 1) (N := 100) rfl (by simp) ac_int rfl (by decide) (by decide) (by decide) (Nat.le_of_ble_eq_true rfl) (Nat.le_of_ble_eq_true rfl) dX4_init_16 (fun K6 R7 I8 L9 H ea hM hS => ?_)
  have hw := hw K6 R7 I8 L9 ea
  obtain ⟨ob3, hw⟩ := hw
  obtain ⟨ob4, hw⟩ := hw
  refine m_putr E hM hS fp_X4_15 (fun _ => ⟨hnm, rfl⟩) ob3 (by rw [ob4]; decide) rfl rfl dX4_init_18 (fun R10 H locs eR10 hM hS => ?_)
  have hw := hw R10 eR10
  refine lv_aload_n hx hb dX4_init_21 rfl (lv_at hl 0 rfl) ?_
  refine lv_bipush (v := 24) hx hb dX4_init_22 (by decide) ?_
  refine m_newa E hM hS (atype := .int) (ty := .int) (k := 14) (t0 := 1) (N := 24) rfl (by simp) ac_int rfl (by decide) (by decide) (by decide) (Nat.le_of_ble_eq_true rfl) (Nat.le_of_ble_eq_true rfl) dX4_init_24 (fun K11 R12 I13 L14 H ea hM hS => ?_)
  have hw := hw K11 R12 I13 L14 ea
  obtain ⟨ob5, hw⟩ := hw
  obtain ⟨ob6, hw⟩ := hw
  refine m_putr E hM hS fp_X4_18 (fun _ => ⟨hnm, rfl⟩) ob5 (by rw [ob6]; decide) rfl rfl dX4_init_26 (fun R15 H locs eR15 hM hS => ?_)
  have hw := hw R15 eR15
  refine W.widen (k := 3) (n := 2524) (Nat.le_of_ble_eq_true rfl) (Nat.le_of_ble_eq_true rfl) ?_
  exact m_retv hx hb hr hlk hM hS ⟨_, _, _, _, rfl, hw⟩ dX4_init_29
theorem dX7_init_0 : decode cX7_init 0 = .ok (.aload_n 0, 1) := by decide +kernel
theorem dX7_init_1 : decode cX7_init 1 = .ok (.invokespecial 3, 3) := by decide +kernel
theorem dX7_init_4 : decode cX7_init 4 = .ok (.aload_n 0, 1) := by decide +kernel
theorem dX7_init_5 : decode cX7_init 5 = .ok (.iconst (-1), 1) := by decide +kernel
theorem dX7_init_6 : decode cX7_init 6 = .ok (.putfield 9, 3) := by decide +kernel
theorem dX7_init_9 : decode cX7_init 9 = .ok (.aload_n 0, 1) := by decide +kernel
theorem dX7_init_10 : decode cX7_init 10 = .ok (.bipush 60, 2) := by decide +kernel
theorem dX7_init_12 : decode cX7_init 12 = .ok (.newarray .int, 2) := by decide +kernel
theorem dX7_init_14 : decode cX7_init 14 = .ok (.putfield 15, 3) := by decide +kernel
theorem dX7_init_17 : decode cX7_init 17 = .ok (.aload_n 0, 1) := by decide +kernel
theorem dX7_init_18 : decode cX7_init 18 = .ok (.iconst (-1), 1) := by decide +kernel
theorem dX7_init_19 : decode cX7_init 19 = .ok (.putfield 19, 3) := by decide +kernel
theorem dX7_init_22 : decode cX7_init 22 = .ok (.aload_n 0, 1) := by decide +kernel
theorem dX7_init_23 : decode cX7_init 23 = .ok (.sipush 1464, 3) := by decide +kernel
theorem dX7_init_26 : decode cX7_init 26 = .ok (.newarray .int, 2) := by decide +kernel
theorem dX7_init_28 : decode cX7_init 28 = .ok (.putfield 22, 3) := by decide +kernel
theorem dX7_init_31 : decode cX7_init 31 = .ok (.aload_n 0, 1) := by decide +kernel
theorem dX7_init_32 : decode cX7_init 32 = .ok (.sipush 1464, 3) := by decide +kernel
theorem dX7_init_35 : decode cX7_init 35 = .ok (.newarray .int, 2) := by decide +kernel
theorem dX7_init_37 : decode cX7_init 37 = .ok (.putfield 25, 3) := by decide +kernel
theorem dX7_init_40 : decode cX7_init 40 = .ok (.aload_n 0, 1) := by decide +kernel
theorem dX7_init_41 : decode cX7_init 41 = .ok (.bipush 61, 2) := by decide +kernel
theorem dX7_init_43 : decode cX7_init 43 = .ok (.newarray .int, 2) := by decide +kernel
theorem dX7_init_45 : decode cX7_init 45 = .ok (.putfield 28, 3) := by decide +kernel
theorem dX7_init_48 : decode cX7_init 48 = .ok (.return_, 1) := by decide +kernel
def w_X7_init (n : Nat) (K : mK) (R : mR) (I : mI) (L : mL) (o : Nat) (post : mK → mR → mI → mL → Prop) : Prop := ∀ I1, I1 = up2 I o 1 (-1) → ∀ K2 R3 I4 L5, al K R I1 L n (14, 60) K2 R3 I4 L5 → (K2 o).1 = 7 ∧ K2 n = (14, 60) ∧ ∀ R6, R6 = up2 R3 o 2 (some n) → ∀ I7, I7 = up2 I4 o 3 (-1) → ∀ K8 R9 I10 L11, al K2 R6 I7 L5 (n + 1) (14, 1464) K8 R9 I10 L11 → (K8 o).1 = 7 ∧ K8 (n + 1) = (14, 1464) ∧ ∀ R12, R12 = up2 R9 o 9 (some (n + 1)) → ∀ K13 R14 I15 L16, al K8 R12 I10 L11 (n + 2) (14, 1464) K13 R14 I15 L16 → (K13 o).1 = 7 ∧ K13 (n + 2) = (14, 1464) ∧ ∀ R17, R17 = up2 R14 o 10 (some (n + 2)) → ∀ K18 R19 I20 L21, al K13 R17 I15 L16 (n + 3) (14, 61) K18 R19 I20 L21 → (K18 o).1 = 7 ∧ K18 (n + 3) = (14, 61) ∧ ∀ R22, R22 = up2 R19 o 11 (some (n + 3)) → post K18 R22 I20 L21
set_option maxRecDepth 100000 in
set_option maxHeartbeats 4000000 in
theorem c_X7_init {l : Launch} {D : va_G} {cA : Nat → ClassId} {Z : mZ} {bs : Ad} {n : Nat} {K : mK} {R : mR} {I : mI} {L : mL} {o : Nat} {post : mK → mR → mI → mL → Prop} (ob0 : (K o).1 = 7) (hw : w_X7_init n K R I L o post) : Met l yX7_init (.code yX7_init cX7_init 1 none :: gw) ({ frames := 1, cells := 4, slots := 3049, locals := 40 } : Room) (PreM D cA Z bs (n, K, R, I, L) [.ref (ad bs o)]) (QV D cA bs (fun u => ∃ K' R' I' L', u = (n + 4, K', R', I', L') ∧ post K' R' I' L')) 4 3049 (Ab bs) := by
  refine m_metN (by decide) (Nat.le_of_ble_eq_true rfl) (fun p e s m below meth c ls E hr hlk hnm hM hS hl => ?_)
  have E : Ev p s m _ c cX7_init 1 RX7 D cA Z bs := E
  have hl : lv_has ls 1 [(0, .ref (ad bs o))] := hl
  have hnm : meth.name = "<init>" := hnm
  have hx := E.1.1
  have hb := E.1.2.1
  generalize hHe : s.heap = H at hM ⊢
  have hS : va_S (Ab bs) s.heap H [] := by rw [← hHe]; exact va_S.rf
  clear hHe
  refine lv_aload_n hx hb dX7_init_0 rfl (lv_at hl 0 rfl) ?_
  refine W.objInit hx hb E.1.2.2.2.1 (E.1.2.2.2.2 _ oi_X7) (E.1.2.2.2.2 _ oi_inst) (E.1.2.2.2.2 _ oi_code) rfl (by rw [E.1.2.2.1]; exact hl.1) rfl dX7_init_1 (Nat.le_of_ble_eq_true rfl) (Nat.le_of_ble_eq_true rfl) ?_
  refine W.eq (g2 := F0 m 4 ls []) rfl ?_
  refine lv_aload_n hx hb dX7_init_4 rfl (lv_at hl 0 rfl) ?_
  refine lv_iconst (v := (-1)) hx hb dX7_init_5 (by decide) ?_
  refine m_puti E hM hS fp_X7_9 ob0 rfl rfl dX7_init_6 (fun I1 H locs eI1 hM hS => ?_)
  have hw := hw I1 eI1
  refine lv_aload_n hx hb dX7_init_9 rfl (lv_at hl 0 rfl) ?_
  refine lv_bipush (v := 60) hx hb dX7_init_10 (by decide) ?_
  refine m_newa E hM hS (atype := .int) (ty := .int) (k := 14) (t0 := 1) (N := 60) rfl (by simp) ac_int rfl (by decide) (by decide) (by decide) (Nat.le_of_ble_eq_true rfl) (Nat.le_of_ble_eq_true rfl) dX7_init_12 (fun K2 R3 I4 L5 H ea hM hS => ?_)
  have hw := hw K2 R3 I4 L5 ea
  obtain ⟨ob1, hw⟩ := hw
  obtain ⟨ob2, hw⟩ := hw
  refine m_putr E hM hS fp_X7_15 (fun _ => ⟨hnm, rfl⟩) ob1 (by rw [ob2]; decide) rfl rfl dX7_init_14 (fun R6 H locs eR6 hM hS => ?_)
  have hw := hw R6 eR6
  refine lv_aload_n hx hb dX7_init_17 rfl (lv_at hl 0 rfl) ?_
  refine lv_iconst (v := (-1)) hx hb dX7_init_18 (by decide) ?_
  refine m_puti E hM hS fp_X7_19 ob1 rfl rfl dX7_init_19 (fun I7 H locs eI7 hM hS => ?_)
  have hw := hw I7 eI7
  refine lv_aload_n hx hb dX7_init_22 rfl (lv_at hl 0 rfl) ?_
  refine lv_sipush (v := 1464) hx hb dX7_init_23 (by decide) ?_
  refine m_newa E hM hS (atype := .int) (ty := .int) (k := 14) (t0 := 1) (N := 1464) rfl (by simp) ac_int rfl (by decide) (by decide) (by decide) (Nat.le_of_ble_eq_true rfl) (Nat.le_of_ble_eq_true rfl) dX7_init_26 (fun K8 R9 I10 L11 H ea hM hS => ?_)
  have hw := hw K8 R9 I10 L11 ea
  obtain ⟨ob3, hw⟩ := hw
  obtain ⟨ob4, hw⟩ := hw
  refine m_putr E hM hS fp_X7_22 (fun _ => ⟨hnm, rfl⟩) ob3 (by rw [ob4]; decide) rfl rfl dX7_init_28 (fun R12 H locs eR12 hM hS => ?_)
  have hw := hw R12 eR12
  refine lv_aload_n hx hb dX7_init_31 rfl (lv_at hl 0 rfl) ?_
  refine lv_sipush (v := 1464) hx hb dX7_init_32 (by decide) ?_
  refine m_newa E hM hS (atype := .int) (ty := .int) (k := 14) (t0 := 1) (N := 1464) rfl (by simp) ac_int rfl (by decide) (by decide) (by decide) (Nat.le_of_ble_eq_true rfl) (Nat.le_of_ble_eq_true rfl) dX7_init_35 (fun K13 R14 I15 L16 H ea hM hS => ?_)
  have hw := hw K13 R14 I15 L16 ea
  obtain ⟨ob5, hw⟩ := hw
  obtain ⟨ob6, hw⟩ := hw
  refine m_putr E hM hS fp_X7_25 (fun _ => ⟨hnm, rfl⟩) ob5 (by rw [ob6]; decide) rfl rfl dX7_init_37 (fun R17 H locs eR17 hM hS => ?_)
  have hw := hw R17 eR17
  refine lv_aload_n hx hb dX7_init_40 rfl (lv_at hl 0 rfl) ?_
  refine lv_bipush (v := 61) hx hb dX7_init_41 (by decide) ?_
  refine m_newa E hM hS (atype := .int) (ty := .int) (k := 14) (t0 := 1) (N := 61) rfl (by simp) ac_int rfl (by decide) (by decide) (by decide) (Nat.le_of_ble_eq_true rfl) (Nat.le_of_ble_eq_true rfl) dX7_init_43 (fun K18 R19 I20 L21 H ea hM hS => ?_)
  have hw := hw K18 R19 I20 L21 ea
  obtain ⟨ob7, hw⟩ := hw
  obtain ⟨ob8, hw⟩ := hw
  refine m_putr E hM hS fp_X7_28 (fun _ => ⟨hnm, rfl⟩) ob7 (by rw [ob8]; decide) rfl rfl dX7_init_45 (fun R22 H locs eR22 hM hS => ?_)
  have hw := hw R22 eR22
  refine W.widen (k := 4) (n := 3049) (Nat.le_of_ble_eq_true rfl) (Nat.le_of_ble_eq_true rfl) ?_
  exact m_retv hx hb hr hlk hM hS ⟨_, _, _, _, rfl, hw⟩ dX7_init_48
theorem dX0_init_0 : decode cX0_init 0 = .ok (.aload_n 0, 1) := by decide +kernel
theorem dX0_init_1 : decode cX0_init 1 = .ok (.invokespecial 3, 3) := by decide +kernel
theorem dX0_init_4 : decode cX0_init 4 = .ok (.aload_n 0, 1) := by decide +kernel
theorem dX0_init_5 : decode cX0_init 5 = .ok (.bipush 100, 2) := by decide +kernel
theorem dX0_init_7 : decode cX0_init 7 = .ok (.newarray .int, 2) := by decide +kernel
theorem dX0_init_9 : decode cX0_init 9 = .ok (.putfield 9, 3) := by decide +kernel
theorem dX0_init_12 : decode cX0_init 12 = .ok (.aload_n 0, 1) := by decide +kernel
theorem dX0_init_13 : decode cX0_init 13 = .ok (.bipush 100, 2) := by decide +kernel
theorem dX0_init_15 : decode cX0_init 15 = .ok (.newarray .int, 2) := by decide +kernel
theorem dX0_init_17 : decode cX0_init 17 = .ok (.putfield 15, 3) := by decide +kernel
theorem dX0_init_20 : decode cX0_init 20 = .ok (.aload_n 0, 1) := by decide +kernel
theorem dX0_init_21 : decode cX0_init 21 = .ok (.bipush 100, 2) := by decide +kernel
theorem dX0_init_23 : decode cX0_init 23 = .ok (.newarray .int, 2) := by decide +kernel
theorem dX0_init_25 : decode cX0_init 25 = .ok (.putfield 18, 3) := by decide +kernel
theorem dX0_init_28 : decode cX0_init 28 = .ok (.aload_n 0, 1) := by decide +kernel
theorem dX0_init_29 : decode cX0_init 29 = .ok (.bipush 24, 2) := by decide +kernel
theorem dX0_init_31 : decode cX0_init 31 = .ok (.newarray .int, 2) := by decide +kernel
theorem dX0_init_33 : decode cX0_init 33 = .ok (.putfield 21, 3) := by decide +kernel
theorem dX0_init_36 : decode cX0_init 36 = .ok (.return_, 1) := by decide +kernel
def w_X0_init (n : Nat) (K : mK) (R : mR) (I : mI) (L : mL) (o : Nat) (post : mK → mR → mI → mL → Prop) : Prop := ∀ K1 R2 I3 L4, al K R I L n (14, 100) K1 R2 I3 L4 → (K1 o).1 = 0 ∧ K1 n = (14, 100) ∧ ∀ R5, R5 = up2 R2 o 1 (some n) → ∀ K6 R7 I8 L9, al K1 R5 I3 L4 (n + 1) (14, 100) K6 R7 I8 L9 → (K6 o).1 = 0 ∧ K6 (n + 1) = (14, 100) ∧ ∀ R10, R10 = up2 R7 o 2 (some (n + 1)) → ∀ K11 R12 I13 L14, al K6 R10 I8 L9 (n + 2) (14, 100) K11 R12 I13 L14 → (K11 o).1 = 0 ∧ K11 (n + 2) = (14, 100) ∧ ∀ R15, R15 = up2 R12 o 3 (some (n + 2)) → ∀ K16 R17 I18 L19, al K11 R15 I13 L14 (n + 3) (14, 24) K16 R17 I18 L19 → (K16 o).1 = 0 ∧ K16 (n + 3) = (14, 24) ∧ ∀ R20, R20 = up2 R17 o 4 (some (n + 3)) → post K16 R20 I18 L19
set_option maxRecDepth 100000 in
set_option maxHeartbeats 4000000 in
theorem c_X0_init {l : Launch} {D : va_G} {cA : Nat → ClassId} {Z : mZ} {bs : Ad} {n : Nat} {K : mK} {R : mR} {I : mI} {L : mL} {o : Nat} {post : mK → mR → mI → mL → Prop} (ob0 : (K o).1 = 0) (hw : w_X0_init n K R I L o post) : Met l yX0_init (.code yX0_init cX0_init 1 none :: gw) ({ frames := 1, cells := 4, slots := 324, locals := 40 } : Room) (PreM D cA Z bs (n, K, R, I, L) [.ref (ad bs o)]) (QV D cA bs (fun u => ∃ K' R' I' L', u = (n + 4, K', R', I', L') ∧ post K' R' I' L')) 4 324 (Ab bs) := by
  refine m_metN (by decide) (Nat.le_of_ble_eq_true rfl) (fun p e s m below meth c ls E hr hlk hnm hM hS hl => ?_)
  have E : Ev p s m _ c cX0_init 1 RX0 D cA Z bs := E
  have hl : lv_has ls 1 [(0, .ref (ad bs o))] := hl
  have hnm : meth.name = "<init>" := hnm
  have hx := E.1.1
  have hb := E.1.2.1
  generalize hHe : s.heap = H at hM ⊢
  have hS : va_S (Ab bs) s.heap H [] := by rw [← hHe]; exact va_S.rf
  clear hHe
  refine lv_aload_n hx hb dX0_init_0 rfl (lv_at hl 0 rfl) ?_
  refine W.objInit hx hb E.1.2.2.2.1 (E.1.2.2.2.2 _ oi_X0) (E.1.2.2.2.2 _ oi_inst) (E.1.2.2.2.2 _ oi_code) rfl (by rw [E.1.2.2.1]; exact hl.1) rfl dX0_init_1 (Nat.le_of_ble_eq_true rfl) (Nat.le_of_ble_eq_true rfl) ?_
  refine W.eq (g2 := F0 m 4 ls []) rfl ?_
  refine lv_aload_n hx hb dX0_init_4 rfl (lv_at hl 0 rfl) ?_
  refine lv_bipush (v := 100) hx hb dX0_init_5 (by decide) ?_
  refine m_newa E hM hS (atype := .int) (ty := .int) (k := 14) (t0 := 1) (N := 100) rfl (by simp) ac_int rfl (by decide) (by decide) (by decide) (Nat.le_of_ble_eq_true rfl) (Nat.le_of_ble_eq_true rfl) dX0_init_7 (fun K1 R2 I3 L4 H ea hM hS => ?_)
  have hw := hw K1 R2 I3 L4 ea
  obtain ⟨ob1, hw⟩ := hw
  obtain ⟨ob2, hw⟩ := hw
  refine m_putr E hM hS fp_X0_9 (fun _ => ⟨hnm, rfl⟩) ob1 (by rw [ob2]; decide) rfl rfl dX0_init_9 (fun R5 H locs eR5 hM hS => ?_)
  have hw := hw R5 eR5
  refine lv_aload_n hx hb dX0_init_12 rfl (lv_at hl 0 rfl) ?_
  refine lv_bipush (v := 100) hx hb dX0_init_13 (by decide) ?_
  refine m_newa E hM hS (atype := .int) (ty := .int) (k := 14) (t0 := 1) (N := 100) rfl (by simp) ac_int rfl (by decide) (by decide) (by decide) (Nat.le_of_ble_eq_true rfl) (Nat.le_of_ble_eq_true rfl) dX0_init_15 (fun K6 R7 I8 L9 H ea hM hS => ?_)
  have hw := hw K6 R7 I8 L9 ea
  obtain ⟨ob3, hw⟩ := hw
  obtain ⟨ob4, hw⟩ := hw
  refine m_putr E hM hS fp_X0_15 (fun _ => ⟨hnm, rfl⟩) ob3 (by rw [ob4]; decide) rfl rfl dX0_init_17 (fun R10 H locs eR10 hM hS => ?_)
  have hw := hw R10 eR10
  refine lv_aload_n hx hb dX0_init_20 rfl (lv_at hl 0 rfl) ?_
  refine lv_bipush (v := 100) hx hb dX0_init_21 (by decide) ?_
  refine m_newa E hM hS (atype := .int) (ty := .int) (k := 14) (t0 := 1) (N := 100) rfl (by simp) ac_int rfl (by decide) (by decide) (by decide) (Nat.le_of_ble_eq_true rfl) (Nat.le_of_ble_eq_true rfl) dX0_init_23 (fun K11 R12 I13 L14 H ea hM hS => ?_)
  have hw := hw K11 R12 I13 L14 ea
  obtain ⟨ob5, hw⟩ := hw
  obtain ⟨ob6, hw⟩ := hw
  refine m_putr E hM hS fp_X0_18 (fun _ => ⟨hnm, rfl⟩) ob5 (by rw [ob6]; decide) rfl rfl dX0_init_25 (fun R15 H locs eR15 hM hS => ?_)
  have hw := hw R15 eR15
  refine lv_aload_n hx hb dX0_init_28 rfl (lv_at hl 0 rfl) ?_
  refine lv_bipush (v := 24) hx hb dX0_init_29 (by decide) ?_
  refine m_newa E hM hS (atype := .int) (ty := .int) (k := 14) (t0 := 1) (N := 24) rfl (by simp) ac_int rfl (by decide) (by decide) (by decide) (Nat.le_of_ble_eq_true rfl) (Nat.le_of_ble_eq_true rfl) dX0_init_31 (fun K16 R17 I18 L19 H ea hM hS => ?_)
  have hw := hw K16 R17 I18 L19 ea
  obtain ⟨ob7, hw⟩ := hw
  obtain ⟨ob8, hw⟩ := hw
  refine m_putr E hM hS fp_X0_21 (fun _ => ⟨hnm, rfl⟩) ob7 (by rw [ob8]; decide) rfl rfl dX0_init_33 (fun R20 H locs eR20 hM hS => ?_)
  have hw := hw R20 eR20
  refine W.widen (k := 4) (n := 324) (Nat.le_of_ble_eq_true rfl) (Nat.le_of_ble_eq_true rfl) ?_
  exact m_retv hx hb hr hlk hM hS ⟨_, _, _, _, rfl, hw⟩ dX0_init_36
theorem dX9_init_0 : decode cX9_init 0 = .ok (.aload_n 0, 1) := by decide +kernel
theorem dX9_init_1 : decode cX9_init 1 = .ok (.invokespecial 3, 3) := by decide +kernel
theorem dX9_init_4 : decode cX9_init 4 = .ok (.aload_n 0, 1) := by decide +kernel
theorem dX9_init_5 : decode cX9_init 5 = .ok (.bipush 6, 2) := by decide +kernel
theorem dX9_init_7 : decode cX9_init 7 = .ok (.newarray .int, 2) := by decide +kernel
theorem dX9_init_9 : decode cX9_init 9 = .ok (.putfield 9, 3) := by decide +kernel
theorem dX9_init_12 : decode cX9_init 12 = .ok (.aload_n 0, 1) := by decide +kernel
theorem dX9_init_13 : decode cX9_init 13 = .ok (.bipush 6, 2) := by decide +kernel
theorem dX9_init_15 : decode cX9_init 15 = .ok (.newarray .int, 2) := by decide +kernel
theorem dX9_init_17 : decode cX9_init 17 = .ok (.putfield 15, 3) := by decide +kernel
theorem dX9_init_20 : decode cX9_init 20 = .ok (.aload_n 0, 1) := by decide +kernel
theorem dX9_init_21 : decode cX9_init 21 = .ok (.bipush 6, 2) := by decide +kernel
theorem dX9_init_23 : decode cX9_init 23 = .ok (.newarray .int, 2) := by decide +kernel
theorem dX9_init_25 : decode cX9_init 25 = .ok (.putfield 18, 3) := by decide +kernel
theorem dX9_init_28 : decode cX9_init 28 = .ok (.return_, 1) := by decide +kernel
def w_X9_init (n : Nat) (K : mK) (R : mR) (I : mI) (L : mL) (o : Nat) (post : mK → mR → mI → mL → Prop) : Prop := ∀ K1 R2 I3 L4, al K R I L n (14, 6) K1 R2 I3 L4 → (K1 o).1 = 9 ∧ K1 n = (14, 6) ∧ ∀ R5, R5 = up2 R2 o 1 (some n) → ∀ K6 R7 I8 L9, al K1 R5 I3 L4 (n + 1) (14, 6) K6 R7 I8 L9 → (K6 o).1 = 9 ∧ K6 (n + 1) = (14, 6) ∧ ∀ R10, R10 = up2 R7 o 2 (some (n + 1)) → ∀ K11 R12 I13 L14, al K6 R10 I8 L9 (n + 2) (14, 6) K11 R12 I13 L14 → (K11 o).1 = 9 ∧ K11 (n + 2) = (14, 6) ∧ ∀ R15, R15 = up2 R12 o 3 (some (n + 2)) → post K11 R15 I13 L14
set_option maxRecDepth 100000 in
set_option maxHeartbeats 4000000 in
theorem c_X9_init {l : Launch} {D : va_G} {cA : Nat → ClassId} {Z : mZ} {bs : Ad} {n : Nat} {K : mK} {R : mR} {I : mI} {L : mL} {o : Nat} {post : mK → mR → mI → mL → Prop} (ob0 : (K o).1 = 9) (hw : w_X9_init n K R I L o post) : Met l yX9_init (.code yX9_init cX9_init 1 none :: gw) ({ frames := 1, cells := 3, slots := 18, locals := 40 } : Room) (PreM D cA Z bs (n, K, R, I, L) [.ref (ad bs o)]) (QV D cA bs (fun u => ∃ K' R' I' L', u = (n + 3, K', R', I', L') ∧ post K' R' I' L')) 3 18 (Ab bs) := by
  refine m_metN (by decide) (Nat.le_of_ble_eq_true rfl) (fun p e s m below meth c ls E hr hlk hnm hM hS hl => ?_)
  have E : Ev p s m _ c cX9_init 1 RX9 D cA Z bs := E
  have hl : lv_has ls 1 [(0, .ref (ad bs o))] := hl
  have hnm : meth.name = "<init>" := hnm
  have hx := E.1.1
  have hb := E.1.2.1
  generalize hHe : s.heap = H at hM ⊢
  have hS : va_S (Ab bs) s.heap H [] := by rw [← hHe]; exact va_S.rf
  clear hHe
  refine lv_aload_n hx hb dX9_init_0 rfl (lv_at hl 0 rfl) ?_
  refine W.objInit hx hb E.1.2.2.2.1 (E.1.2.2.2.2 _ oi_X9) (E.1.2.2.2.2 _ oi_inst) (E.1.2.2.2.2 _ oi_code) rfl (by rw [E.1.2.2.1]; exact hl.1) rfl dX9_init_1 (Nat.le_of_ble_eq_true rfl) (Nat.le_of_ble_eq_true rfl) ?_
  refine W.eq (g2 := F0 m 4 ls []) rfl ?_
  refine lv_aload_n hx hb dX9_init_4 rfl (lv_at hl 0 rfl) ?_
  refine lv_bipush (v := 6) hx hb dX9_init_5 (by decide) ?_
  refine m_newa E hM hS (atype := .int) (ty := .int) (k := 14) (t0 := 1) (N := 6) rfl (by simp) ac_int rfl (by decide) (by decide) (by decide) (Nat.le_of_ble_eq_true rfl) (Nat.le_of_ble_eq_true rfl) dX9_init_7 (fun K1 R2 I3 L4 H ea hM hS => ?_)
  have hw := hw K1 R2 I3 L4 ea
  obtain ⟨ob1, hw⟩ := hw
  obtain ⟨ob2, hw⟩ := hw
  refine m_putr E hM hS fp_X9_9 (fun _ => ⟨hnm, rfl⟩) ob1 (by rw [ob2]; decide) rfl rfl dX9_init_9 (fun R5 H locs eR5 hM hS => ?_)
  have hw := hw R5 eR5
  refine lv_aload_n hx hb dX9_init_12 rfl (lv_at hl 0 rfl) ?_
  refine lv_bipush (v := 6) hx hb dX9_init_13 (by decide) ?_
  refine m_newa E hM hS (atype := .int) (ty := .int) (k := 14) (t0 := 1) (N := 6) rfl (by simp) ac_int rfl (by decide) (by decide) (by decide) (Nat.le_of_ble_eq_true rfl) (Nat.le_of_ble_eq_true rfl) dX9_init_15 (fun K6 R7 I8 L9 H ea hM hS => ?_)
  have hw := hw K6 R7 I8 L9 ea
  obtain ⟨ob3, hw⟩ := hw
  obtain ⟨ob4, hw⟩ := hw
  refine m_putr E hM hS fp_X9_15 (fun _ => ⟨hnm, rfl⟩) ob3 (by rw [ob4]; decide) rfl rfl dX9_init_17 (fun R10 H locs eR10 hM hS => ?_)
  have hw := hw R10 eR10
  refine lv_aload_n hx hb dX9_init_20 rfl (lv_at hl 0 rfl) ?_
  refine lv_bipush (v := 6) hx hb dX9_init_21 (by decide) ?_
  refine m_newa E hM hS (atype := .int) (ty := .int) (k := 14) (t0 := 1) (N := 6) rfl (by simp) ac_int rfl (by decide) (by decide) (by decide) (Nat.le_of_ble_eq_true rfl) (Nat.le_of_ble_eq_true rfl) dX9_init_23 (fun K11 R12 I13 L14 H ea hM hS => ?_)
  have hw := hw K11 R12 I13 L14 ea
  obtain ⟨ob5, hw⟩ := hw
  obtain ⟨ob6, hw⟩ := hw
  refine m_putr E hM hS fp_X9_18 (fun _ => ⟨hnm, rfl⟩) ob5 (by rw [ob6]; decide) rfl rfl dX9_init_25 (fun R15 H locs eR15 hM hS => ?_)
  have hw := hw R15 eR15
  refine W.widen (k := 3) (n := 18) (Nat.le_of_ble_eq_true rfl) (Nat.le_of_ble_eq_true rfl) ?_
  exact m_retv hx hb hr hlk hM hS ⟨_, _, _, _, rfl, hw⟩ dX9_init_28
theorem dX1_init_0 : decode cX1_init 0 = .ok (.aload_n 0, 1) := by decide +kernel
theorem dX1_init_1 : decode cX1_init 1 = .ok (.invokespecial 3, 3) := by decide +kernel
theorem dX1_init_4 : decode cX1_init 4 = .ok (.aload_n 0, 1) := by decide +kernel
theorem dX1_init_5 : decode cX1_init 5 = .ok (.bipush 6, 2) := by decide +kernel
theorem dX1_init_7 : decode cX1_init 7 = .ok (.newarray .int, 2) := by decide +kernel
theorem dX1_init_9 : decode cX1_init 9 = .ok (.putfield 9, 3) := by decide +kernel
theorem dX1_init_12 : decode cX1_init 12 = .ok (.aload_n 0, 1) := by decide +kernel
theorem dX1_init_13 : decode cX1_init 13 = .ok (.bipush 6, 2) := by decide +kernel
theorem dX1_init_15 : decode cX1_init 15 = .ok (.newarray .int, 2) := by decide +kernel
theorem dX1_init_17 : decode cX1_init 17 = .ok (.putfield 15, 3) := by decide +kernel
theorem dX1_init_20 : decode cX1_init 20 = .ok (.aload_n 0, 1) := by decide +kernel
theorem dX1_init_21 : decode cX1_init 21 = .ok (.bipush 24, 2) := by decide +kernel
theorem dX1_init_23 : decode cX1_init 23 = .ok (.newarray .int, 2) := by decide +kernel
theorem dX1_init_25 : decode cX1_init 25 = .ok (.putfield 18, 3) := by decide +kernel
theorem dX1_init_28 : decode cX1_init 28 = .ok (.aload_n 0, 1) := by decide +kernel
theorem dX1_init_29 : decode cX1_init 29 = .ok (.bipush 24, 2) := by decide +kernel
theorem dX1_init_31 : decode cX1_init 31 = .ok (.newarray .int, 2) := by decide +kernel
theorem dX1_init_33 : decode cX1_init 33 = .ok (.putfield 21, 3) := by decide +kernel
theorem dX1_init_36 : decode cX1_init 36 = .ok (.return_, 1) := by decide +kernel
def w_X1_init (n : Nat) (K : mK) (R : mR) (I : mI) (L : mL) (o : Nat) (post : mK → mR → mI → mL → Prop) : Prop := ∀ K1 R2 I3 L4, al K R I L n (14, 6) K1 R2 I3 L4 → (K1 o).1 = 1 ∧ K1 n = (14, 6) ∧ ∀ R5, R5 = up2 R2 o 1 (some n) → ∀ K6 R7 I8 L9, al K1 R5 I3 L4 (n + 1) (14, 6) K6 R7 I8 L9 → (K6 o).1 = 1 ∧ K6 (n + 1) = (14, 6) ∧ ∀ R10, R10 = up2 R7 o 2 (some (n + 1)) → ∀ K11 R12 I13 L14, al K6 R10 I8 L9 (n + 2) (14, 24) K11 R12 I13 L14 → (K11 o).1 = 1 ∧ K11 (n + 2) = (14, 24) ∧ ∀ R15, R15 = up2 R12 o 4 (some (n + 2)) → ∀ K16 R17 I18 L19, al K11 R15 I13 L14 (n + 3) (14, 24) K16 R17 I18 L19 → (K16 o).1 = 1 ∧ K16 (n + 3) = (14, 24) ∧ ∀ R20, R20 = up2 R17 o 5 (some (n + 3)) → post K16 R20 I18 L19
set_option maxRecDepth 100000 in
set_option maxHeartbeats 4000000 in
theorem c_X1_init {l : Launch} {D : va_G} {cA : Nat → ClassId} {Z : mZ} {bs : Ad} {n : Nat} {K : mK} {R : mR} {I : mI} {L : mL} {o : Nat} {post : mK → mR → mI → mL → Prop} (ob0 : (K o).1 = 1) (hw : w_X1_init n K R I L o post) : Met l yX1_init (.code yX1_init cX1_init 1 none :: gw) ({ frames := 1, cells := 4, slots := 60, locals := 40 } : Room) (PreM D cA Z bs (n, K, R, I, L) [.ref (ad bs o)]) (QV D cA bs (fun u => ∃ K' R' I' L', u = (n + 4, K', R', I', L') ∧ post K' R' I' L')) 4 60 (Ab bs) := by
  refine m_metN (by decide) (Nat.le_of_ble_eq_true rfl) (fun p e s m below meth c ls E hr hlk hnm hM hS hl => ?_)
  have E : Ev p s m _ c cX1_init 1 RX1 D cA Z bs := E
  have hl : lv_has ls 1 [(0, .ref (ad bs o))] := hl
  have hnm : meth.name = "<init>" := hnm
  have hx := E.1.1
  have hb := E.1.2.1
  generalize hHe : s.heap = H at hM ⊢
  have hS : va_S (Ab bs) s.heap H [] := by rw [← hHe]; exact va_S.rf
  clear hHe
  refine lv_aload_n hx hb dX1_init_0 rfl (lv_at hl 0 rfl) ?_
  refine W.objInit hx hb E.1.2.2.2.1 (E.1.2.2.2.2 _ oi_X1) (E.1.2.2.2.2 _ oi_inst) (E.1.2.2.2.2 _ oi_code) rfl (by rw [E.1.2.2.1]; exact hl.1) rfl dX1_init_1 (Nat.le_of_ble_eq_true rfl) (Nat.le_of_ble_eq_true rfl) ?_
  refine W.eq (g2 := F0 m 4 ls []) rfl ?_
  refine lv_aload_n hx hb dX1_init_4 rfl (lv_at hl 0 rfl) ?_
  refine lv_bipush (v := 6) hx hb dX1_init_5 (by decide) ?_
  refine m_newa E hM hS (atype := .int) (ty := .int) (k := 14) (t0 := 1) (N := 6) rfl (by simp) ac_int rfl (by decide) (by decide) (by decide) (Nat.le_of_ble_eq_true rfl) (Nat.le_of_ble_eq_true rfl) dX1_init_7 (fun K1 R2 I3 L4 H ea hM hS => ?_)
  have hw := hw K1 R2 I3 L4 ea
  obtain ⟨ob1, hw⟩ := hw
  obtain ⟨ob2, hw⟩ := hw
  refine m_putr E hM hS fp_X1_9 (fun _ => ⟨hnm, rfl⟩) ob1 (by rw [ob2]; decide) rfl rfl dX1_init_9 (fun R5 H locs eR5 hM hS => ?_)
  have hw := hw R5 eR5
  refine lv_aload_n hx hb dX1_init_12 rfl (lv_at hl 0 rfl) ?_
  refine lv_bipush (v := 6) hx hb dX1_init_13 (by decide) ?_
  refine m_newa E hM hS (atype := .int) (ty := .int) (k := 14) (t0 := 1) (N := 6) rfl (by simp) ac_int rfl (by decide) (by decide) (by decide) (Nat.le_of_ble_eq_true rfl) (Nat.le_of_ble_eq_true rfl) dX1_init_15 (fun K6 R7 I8 L9 H ea hM hS => ?_)
  have hw := hw K6 R7 I8 L9 ea
  obtain ⟨ob3, hw⟩ := hw
  obtain ⟨ob4, hw⟩ := hw
  refine m_putr E hM hS fp_X1_15 (fun _ => ⟨hnm, rfl⟩) ob3 (by rw [ob4]; decide) rfl rfl dX1_init_17 (fun R10 H locs eR10 hM hS => ?_)
  have hw := hw R10 eR10
  refine lv_aload_n hx hb dX1_init_20 rfl (lv_at hl 0 rfl) ?_
  refine lv_bipush (v := 24) hx hb dX1_init_21 (by decide) ?_
  refine m_newa E hM hS (atype := .int) (ty := .int) (k := 14) (t0 := 1) (N := 24) rfl (by simp) ac_int rfl (by decide) (by decide) (by decide) (Nat.le_of_ble_eq_true rfl) (Nat.le_of_ble_eq_true rfl) dX1_init_23 (fun K11 R12 I13 L14 H ea hM hS => ?_)
  have hw := hw K11 R12 I13 L14 ea
  obtain ⟨ob5, hw⟩ := hw
  obtain ⟨ob6, hw⟩ := hw
  refine m_putr E hM hS fp_X1_18 (fun _ => ⟨hnm, rfl⟩) ob5 (by rw [ob6]; decide) rfl rfl dX1_init_25 (fun R15 H locs eR15 hM hS => ?_)
  have hw := hw R15 eR15
  refine lv_aload_n hx hb dX1_init_28 rfl (lv_at hl 0 rfl) ?_
  refine lv_bipush (v := 24) hx hb dX1_init_29 (by decide) ?_
  refine m_newa E hM hS (atype := .int) (ty := .int) (k := 14) (t0 := 1) (N := 24) rfl (by simp) ac_int rfl (by decide) (by decide) (by decide) (Nat.le_of_ble_eq_true rfl) (Nat.le_of_ble_eq_true rfl) dX1_init_31 (fun K16 R17 I18 L19 H ea hM hS => ?_)
  have hw := hw K16 R17 I18 L19 ea
  obtain ⟨ob7, hw⟩ := hw
  obtain ⟨ob8, hw⟩ := hw
  refine m_putr E hM hS fp_X1_21 (fun _ => ⟨hnm, rfl⟩) ob7 (by rw [ob8]; decide) rfl rfl dX1_init_33 (fun R20 H locs eR20 hM hS => ?_)
  have hw := hw R20 eR20
  refine W.widen (k := 4) (n := 60) (Nat.le_of_ble_eq_true rfl) (Nat.le_of_ble_eq_true rfl) ?_
  exact m_retv hx hb hr hlk hM hS ⟨_, _, _, _, rfl, hw⟩ dX1_init_36
theorem dX10_init_0 : decode cX10_init 0 = .ok (.aload_n 0, 1) := by decide +kernel
theorem dX10_init_1 : decode cX10_init 1 = .ok (.invokespecial 3, 3) := by decide +kernel
theorem dX10_init_4 : decode cX10_init 4 = .ok (.aload_n 0, 1) := by decide +kernel
theorem dX10_init_5 : decode cX10_init 5 = .ok (.bipush 10, 2) := by decide +kernel
theorem dX10_init_7 : decode cX10_init 7 = .ok (.newarray .int, 2) := by decide +kernel
theorem dX10_init_9 : decode cX10_init 9 = .ok (.putfield 9, 3) := by decide +kernel
theorem dX10_init_12 : decode cX10_init 12 = .ok (.aload_n 0, 1) := by decide +kernel
theorem dX10_init_13 : decode cX10_init 13 = .ok (.bipush 10, 2) := by decide +kernel
theorem dX10_init_15 : decode cX10_init 15 = .ok (.newarray .int, 2) := by decide +kernel
theorem dX10_init_17 : decode cX10_init 17 = .ok (.putfield 15, 3) := by decide +kernel
theorem dX10_init_20 : decode cX10_init 20 = .ok (.aload_n 0, 1) := by decide +kernel
theorem dX10_init_21 : decode cX10_init 21 = .ok (.bipush 24, 2) := by decide +kernel
theorem dX10_init_23 : decode cX10_init 23 = .ok (.newarray .long, 2) := by decide +kernel
theorem dX10_init_25 : decode cX10_init 25 = .ok (.putfield 18, 3) := by decide +kernel
theorem dX10_init_28 : decode cX10_init 28 = .ok (.aload_n 0, 1) := by decide +kernel
theorem dX10_init_29 : decode cX10_init 29 = .ok (.bipush 24, 2) := by decide +kernel
theorem dX10_init_31 : decode cX10_init 31 = .ok (.newarray .long, 2) := by decide +kernel
theorem dX10_init_33 : decode cX10_init 33 = .ok (.putfield 22, 3) := by decide +kernel
theorem dX10_init_36 : decode cX10_init 36 = .ok (.return_, 1) := by decide +kernel
def w_X10_init (n : Nat) (K : mK) (R : mR) (I : mI) (L : mL) (o : Nat) (post : mK → mR → mI → mL → Prop) : Prop := ∀ K1 R2 I3 L4, al K R I L n (14, 10) K1 R2 I3 L4 → (K1 o).1 = 10 ∧ K1 n = (14, 10) ∧ ∀ R5, R5 = up2 R2 o 2 (some n) → ∀ K6 R7 I8 L9, al K1 R5 I3 L4 (n + 1) (14, 10) K6 R7 I8 L9 → (K6 o).1 = 10 ∧ K6 (n + 1) = (14, 10) ∧ ∀ R10, R10 = up2 R7 o 3 (some (n + 1)) → ∀ K11 R12 I13 L14, al K6 R10 I8 L9 (n + 2) (15, 24) K11 R12 I13 L14 → (K11 o).1 = 10 ∧ K11 (n + 2) = (15, 24) ∧ ∀ R15, R15 = up2 R12 o 4 (some (n + 2)) → ∀ K16 R17 I18 L19, al K11 R15 I13 L14 (n + 3) (15, 24) K16 R17 I18 L19 → (K16 o).1 = 10 ∧ K16 (n + 3) = (15, 24) ∧ ∀ R20, R20 = up2 R17 o 5 (some (n + 3)) → post K16 R20 I18 L19
set_option maxRecDepth 100000 in
set_option maxHeartbeats 4000000 in
theorem c_X10_init {l : Launch} {D : va_G} {cA : Nat → ClassId} {Z : mZ} {bs : Ad} {n : Nat} {K : mK} {R : mR} {I : mI} {L : mL} {o : Nat} {post : mK → mR → mI → mL → Prop} (ob0 : (K o).1 = 10) (hw : w_X10_init n K R I L o post) : Met l yX10_init (.code yX10_init cX10_init 1 none :: gw) ({ frames := 1, cells := 4, slots := 68, locals := 40 } : Room) (PreM D cA Z bs (n, K, R, I, L) [.ref (ad bs o)]) (QV D cA bs (fun u => ∃ K' R' I' L', u = (n + 4, K', R', I', L') ∧ post K' R' I' L')) 4 68 (Ab bs) := by
  refine m_metN (by decide) (Nat.le_of_ble_eq_true rfl) (fun p e s m below meth c ls E hr hlk hnm hM hS hl => ?_)
  have E : Ev p s m _ c cX10_init 1 RX10 D cA Z bs := E
  have hl : lv_has ls 1 [(0, .ref (ad bs o))] := hl
  have hnm : meth.name = "<init>" := hnm
  have hx := E.1.1
  have hb := E.1.2.1
  generalize hHe : s.heap = H at hM ⊢
  have hS : va_S (Ab bs) s.heap H [] := by rw [← hHe]; exact va_S.rf
  clear hHe
  refine lv_aload_n hx hb dX10_init_0 rfl (lv_at hl 0 rfl) ?_
  refine W.objInit hx hb E.1.2.2.2.1 (E.1.2.2.2.2 _ oi_X10) (E.1.2.2.2.2 _ oi_inst) (E.1.2.2.2.2 _ oi_code) rfl (by rw [E.1.2.2.1]; exact hl.1) rfl dX10_init_1 (Nat.le_of_ble_eq_true rfl) (Nat.le_of_ble_eq_true rfl) ?_
  refine W.eq (g2 := F0 m 4 ls []) rfl ?_
  refine lv_aload_n hx hb dX10_init_4 rfl (lv_at hl 0 rfl) ?_
  refine lv_bipush (v := 10) hx hb dX10_init_5 (by decide) ?_
  refine m_newa E hM hS (atype := .int) (ty := .int) (k := 14) (t0 := 1) (N := 10) rfl (by simp) ac_int rfl (by decide) (by decide) (by decide) (Nat.le_of_ble_eq_true rfl) (Nat.le_of_ble_eq_true rfl) dX10_init_7 (fun K1 R2 I3 L4 H ea hM hS => ?_)
  have hw := hw K1 R2 I3 L4 ea
  obtain ⟨ob1, hw⟩ := hw
  obtain ⟨ob2, hw⟩ := hw
  refine m_putr E hM hS fp_X10_9 (fun _ => ⟨hnm, rfl⟩) ob1 (by rw [ob2]; decide) rfl rfl dX10_init_9 (fun R5 H locs eR5 hM hS => ?_)
  have hw := hw R5 eR5
  refine lv_aload_n hx hb dX10_init_12 rfl (lv_at hl 0 rfl) ?_
  refine lv_bipush (v := 10) hx hb dX10_init_13 (by decide) ?_
  refine m_newa E hM hS (atype := .int) (ty := .int) (k := 14) (t0 := 1) (N := 10) rfl (by simp) ac_int rfl (by decide) (by decide) (by decide) (Nat.le_of_ble_eq_true rfl) (Nat.le_of_ble_eq_true rfl) dX10_init_15 (fun K6 R7 I8 L9 H ea hM hS => ?_)
  have hw := hw K6 R7 I8 L9 ea
  obtain ⟨ob3, hw⟩ := hw
  obtain ⟨ob4, hw⟩ := hw
  refine m_putr E hM hS fp_X10_15 (fun _ => ⟨hnm, rfl⟩) ob3 (by rw [ob4]; decide) rfl rfl dX10_init_17 (fun R10 H locs eR10 hM hS => ?_)
  have hw := hw R10 eR10
  refine lv_aload_n hx hb dX10_init_20 rfl (lv_at hl 0 rfl) ?_
  refine lv_bipush (v := 24) hx hb dX10_init_21 (by decide) ?_
  refine m_newa E hM hS (atype := .long) (ty := .long) (k := 15) (t0 := 2) (N := 24) rfl (by simp) ac_long rfl (by decide) (by decide) (by decide) (Nat.le_of_ble_eq_true rfl) (Nat.le_of_ble_eq_true rfl) dX10_init_23 (fun K11 R12 I13 L14 H ea hM hS => ?_)
  have hw := hw K11 R12 I13 L14 ea
  obtain ⟨ob5, hw⟩ := hw
  obtain ⟨ob6, hw⟩ := hw
  refine m_putr E hM hS fp_X10_18 (fun _ => ⟨hnm, rfl⟩) ob5 (by rw [ob6]; decide) rfl rfl dX10_init_25 (fun R15 H locs eR15 hM hS => ?_)
  have hw := hw R15 eR15
  refine lv_aload_n hx hb dX10_init_28 rfl (lv_at hl 0 rfl) ?_
  refine lv_bipush (v := 24) hx hb dX10_init_29 (by decide) ?_
  refine m_newa E hM hS (atype := .long) (ty := .long) (k := 15) (t0 := 2) (N := 24) rfl (by simp) ac_long rfl (by decide) (by decide) (by decide) (Nat.le_of_ble_eq_true rfl) (Nat.le_of_ble_eq_true rfl) dX10_init_31 (fun K16 R17 I18 L19 H ea hM hS => ?_)
  have hw := hw K16 R17 I18 L19 ea
  obtain ⟨ob7, hw⟩ := hw
  obtain ⟨ob8, hw⟩ := hw
  refine m_putr E hM hS fp_X10_22 (fun _ => ⟨hnm, rfl⟩) ob7 (by rw [ob8]; decide) rfl rfl dX10_init_33 (fun R20 H locs eR20 hM hS => ?_)
  have hw := hw R20 eR20
  refine W.widen (k := 4) (n := 68) (Nat.le_of_ble_eq_true rfl) (Nat.le_of_ble_eq_true rfl) ?_
  exact m_retv hx hb hr hlk hM hS ⟨_, _, _, _, rfl, hw⟩ dX10_init_36
theorem dX11_init_0 : decode cX11_init 0 = .ok (.aload_n 0, 1) := by decide +kernel
theorem dX11_init_1 : decode cX11_init 1 = .ok (.invokespecial 3, 3) := by decide +kernel
theorem dX11_init_4 : decode cX11_init 4 = .ok (.aload_n 0, 1) := by decide +kernel
theorem dX11_init_5 : decode cX11_init 5 = .ok (.new 9, 3) := by decide +kernel
theorem dX11_init_8 : decode cX11_init 8 = .ok (.dup, 1) := by decide +kernel
theorem dX11_init_9 : decode cX11_init 9 = .ok (.invokespecial 11, 3) := by decide +kernel
theorem dX11_init_12 : decode cX11_init 12 = .ok (.putfield 12, 3) := by decide +kernel
theorem dX11_init_15 : decode cX11_init 15 = .ok (.aload_n 0, 1) := by decide +kernel
theorem dX11_init_16 : decode cX11_init 16 = .ok (.iconst 3, 1) := by decide +kernel
theorem dX11_init_17 : decode cX11_init 17 = .ok (.anewarray 9, 3) := by decide +kernel
theorem dX11_init_20 : decode cX11_init 20 = .ok (.putfield 16, 3) := by decide +kernel
theorem dX11_init_23 : decode cX11_init 23 = .ok (.aload_n 0, 1) := by decide +kernel
theorem dX11_init_24 : decode cX11_init 24 = .ok (.new 20, 3) := by decide +kernel
theorem dX11_init_27 : decode cX11_init 27 = .ok (.dup, 1) := by decide +kernel
theorem dX11_init_28 : decode cX11_init 28 = .ok (.aload_n 0, 1) := by decide +kernel
theorem dX11_init_29 : decode cX11_init 29 = .ok (.getfield 12, 3) := by decide +kernel
theorem dX11_init_32 : decode cX11_init 32 = .ok (.getfield 22, 3) := by decide +kernel
theorem dX11_init_35 : decode cX11_init 35 = .ok (.invokespecial 26, 3) := by decide +kernel
theorem dX11_init_38 : decode cX11_init 38 = .ok (.putfield 29, 3) := by decide +kernel
theorem dX11_init_41 : decode cX11_init 41 = .ok (.aload_n 0, 1) := by decide +kernel
theorem dX11_init_42 : decode cX11_init 42 = .ok (.iconst 2, 1) := by decide +kernel
theorem dX11_init_43 : decode cX11_init 43 = .ok (.anewarray 33, 3) := by decide +kernel
theorem dX11_init_46 : decode cX11_init 46 = .ok (.putfield 35, 3) := by decide +kernel
theorem dX11_init_49 : decode cX11_init 49 = .ok (.aload_n 0, 1) := by decide +kernel
theorem dX11_init_50 : decode cX11_init 50 = .ok (.new 39, 3) := by decide +kernel
theorem dX11_init_53 : decode cX11_init 53 = .ok (.dup, 1) := by decide +kernel
theorem dX11_init_54 : decode cX11_init 54 = .ok (.invokespecial 41, 3) := by decide +kernel
theorem dX11_init_57 : decode cX11_init 57 = .ok (.putfield 42, 3) := by decide +kernel
theorem dX11_init_60 : decode cX11_init 60 = .ok (.aload_n 0, 1) := by decide +kernel
theorem dX11_init_61 : decode cX11_init 61 = .ok (.new 46, 3) := by decide +kernel
theorem dX11_init_64 : decode cX11_init 64 = .ok (.dup, 1) := by decide +kernel
theorem dX11_init_65 : decode cX11_init 65 = .ok (.invokespecial 48, 3) := by decide +kernel
theorem dX11_init_68 : decode cX11_init 68 = .ok (.putfield 49, 3) := by decide +kernel
theorem dX11_init_71 : decode cX11_init 71 = .ok (.aload_n 0, 1) := by decide +kernel
theorem dX11_init_72 : decode cX11_init 72 = .ok (.new 53, 3) := by decide +kernel
theorem dX11_init_75 : decode cX11_init 75 = .ok (.dup, 1) := by decide +kernel
theorem dX11_init_76 : decode cX11_init 76 = .ok (.invokespecial 55, 3) := by decide +kernel
theorem dX11_init_79 : decode cX11_init 79 = .ok (.putfield 56, 3) := by decide +kernel
theorem dX11_init_82 : decode cX11_init 82 = .ok (.aload_n 0, 1) := by decide +kernel
theorem dX11_init_83 : decode cX11_init 83 = .ok (.new 60, 3) := by decide +kernel
theorem dX11_init_86 : decode cX11_init 86 = .ok (.dup, 1) := by decide +kernel
theorem dX11_init_87 : decode cX11_init 87 = .ok (.invokespecial 62, 3) := by decide +kernel
theorem dX11_init_90 : decode cX11_init 90 = .ok (.putfield 63, 3) := by decide +kernel
theorem dX11_init_93 : decode cX11_init 93 = .ok (.aload_n 0, 1) := by decide +kernel
theorem dX11_init_94 : decode cX11_init 94 = .ok (.new 67, 3) := by decide +kernel
theorem dX11_init_97 : decode cX11_init 97 = .ok (.dup, 1) := by decide +kernel
theorem dX11_init_98 : decode cX11_init 98 = .ok (.invokespecial 69, 3) := by decide +kernel
theorem dX11_init_101 : decode cX11_init 101 = .ok (.putfield 70, 3) := by decide +kernel
theorem dX11_init_104 : decode cX11_init 104 = .ok (.aload_n 0, 1) := by decide +kernel
theorem dX11_init_105 : decode cX11_init 105 = .ok (.new 74, 3) := by decide +kernel
theorem dX11_init_108 : decode cX11_init 108 = .ok (.dup, 1) := by decide +kernel
theorem dX11_init_109 : decode cX11_init 109 = .ok (.invokespecial 76, 3) := by decide +kernel
theorem dX11_init_112 : decode cX11_init 112 = .ok (.putfield 77, 3) := by decide +kernel
theorem dX11_init_115 : decode cX11_init 115 = .ok (.return_, 1) := by decide +kernel
def w_X11_init (n : Nat) (K : mK) (R : mR) (I : mI) (L : mL) (o : Nat) (post : mK → mR → mI → mL → Prop) : Prop := ∀ K1 R2 I3 L4, al K R I L n (8, 8) K1 R2 I3 L4 → (K1 n).1 = 8 ∧ w_X8_init (n + 1) K1 R2 I3 L4 n (fun K5 R6 I7 L8 => (K5 o).1 = 11 ∧ (K5 n).1 = 8 ∧ ∀ R9, R9 = up2 R6 o 0 (some n) → ∀ K10 R11 I12 L13, al K5 R9 I7 L8 (n + 42) (20, 3) K10 R11 I12 L13 → (K10 o).1 = 11 ∧ K10 (n + 42) = (20, 3) ∧ ∀ R14, R14 = up2 R11 o 1 (some (n + 42)) → ∀ K15 R16 I17 L18, al K10 R14 I12 L13 (n + 43) (5, 14) K15 R16 I17 L18 → (K15 o).1 = 11 ∧ R16 o 0 = some n ∧ (K15 n).1 = 8 ∧ R16 n 0 = some (n + 1) ∧ (K15 (n + 43)).1 = 5 ∧ w_X5_init (n + 44) K15 R16 I17 L18 (n + 43) (n + 1) (fun K19 R20 I21 L22 => (K19 o).1 = 11 ∧ (K19 (n + 43)).1 = 5 ∧ ∀ R23, R23 = up2 R20 o 2 (some (n + 43)) → ∀ K24 R25 I26 L27, al K19 R23 I21 L22 (n + 64) (17, 2) K24 R25 I26 L27 → (K24 o).1 = 11 ∧ K24 (n + 64) = (17, 2) ∧ ∀ R28, R28 = up2 R25 o 3 (some (n + 64)) → ∀ K29 R30 I31 L32, al K24 R28 I26 L27 (n + 65) (4, 5) K29 R30 I31 L32 → (K29 (n + 65)).1 = 4 ∧ w_X4_init (n + 66) K29 R30 I31 L32 (n + 65) (fun K33 R34 I35 L36 => (K33 o).1 = 11 ∧ (K33 (n + 65)).1 = 4 ∧ ∀ R37, R37 = up2 R34 o 4 (some (n + 65)) → ∀ K38 R39 I40 L41, al K33 R37 I35 L36 (n + 69) (7, 12) K38 R39 I40 L41 → (K38 (n + 69)).1 = 7 ∧ w_X7_init (n + 70) K38 R39 I40 L41 (n + 69) (fun K42 R43 I44 L45 => (K42 o).1 = 11 ∧ (K42 (n + 69)).1 = 7 ∧ ∀ R46, R46 = up2 R43 o 5 (some (n + 69)) → ∀ K47 R48 I49 L50, al K42 R46 I44 L45 (n + 74) (0, 5) K47 R48 I49 L50 → (K47 (n + 74)).1 = 0 ∧ w_X0_init (n + 75) K47 R48 I49 L50 (n + 74) (fun K51 R52 I53 L54 => (K51 o).1 = 11 ∧ (K51 (n + 74)).1 = 0 ∧ ∀ R55, R55 = up2 R52 o 6 (some (n + 74)) → ∀ K56 R57 I58 L59, al K51 R55 I53 L54 (n + 79) (9, 4) K56 R57 I58 L59 → (K56 (n + 79)).1 = 9 ∧ w_X9_init (n + 80) K56 R57 I58 L59 (n + 79) (fun K60 R61 I62 L63 => (K60 o).1 = 11 ∧ (K60 (n + 79)).1 = 9 ∧ ∀ R64, R64 = up2 R61 o 7 (some (n + 79)) → ∀ K65 R66 I67 L68, al K60 R64 I62 L63 (n + 83) (1, 6) K65 R66 I67 L68 → (K65 (n + 83)).1 = 1 ∧ w_X1_init (n + 84) K65 R66 I67 L68 (n + 83) (fun K69 R70 I71 L72 => (K69 o).1 = 11 ∧ (K69 (n + 83)).1 = 1 ∧ ∀ R73, R73 = up2 R70 o 8 (some (n + 83)) → ∀ K74 R75 I76 L77, al K69 R73 I71 L72 (n + 88) (10, 6) K74 R75 I76 L77 → (K74 (n + 88)).1 = 10 ∧ w_X10_init (n + 89) K74 R75 I76 L77 (n + 88) (fun K78 R79 I80 L81 => (K78 o).1 = 11 ∧ (K78 (n + 88)).1 = 10 ∧ ∀ R82, R82 = up2 R79 o 9 (some (n + 88)) → post K78 R82 I80 L81))))))))
set_option maxRecDepth 100000 in
set_option maxHeartbeats 4000000 in
theorem c_X11_init {l : Launch} {D : va_G} {cA : Nat → ClassId} {Z : mZ} {bs : Ad} {n : Nat} {K : mK} {R : mR} {I : mI} {L : mL} {o : Nat} {post : mK → mR → mI → mL → Prop} (ob0 : (K o).1 = 11) (hw : w_X11_init n K R I L o post) : Met l yX11_init (.code yX11_init cX11_init 1 none :: gw) ({ frames := 3, cells := 93, slots := 7344, locals := 81 } : Room) (PreM D cA Z bs (n, K, R, I, L) [.ref (ad bs o)]) (QV D cA bs (fun u => ∃ K' R' I' L', u = (n + 93, K', R', I', L') ∧ post K' R' I' L')) 93 7344 (Ab bs) := by
  refine m_metN (by decide) (Nat.le_of_ble_eq_true rfl) (fun p e s m below meth c ls E hr hlk hnm hM hS hl => ?_)
  have E : Ev p s m _ c cX11_init 1 RX11 D cA Z bs := E
  have hl : lv_has ls 1 [(0, .ref (ad bs o))] := hl
  have hnm : meth.name = "<init>" := hnm
  have hx := E.1.1
  have hb := E.1.2.1
  generalize hHe : s.heap = H at hM ⊢
  have hS : va_S (Ab bs) s.heap H [] := by rw [← hHe]; exact va_S.rf
  clear hHe
  refine lv_aload_n hx hb dX11_init_0 rfl (lv_at hl 0 rfl) ?_
  refine W.objInit hx hb E.1.2.2.2.1 (E.1.2.2.2.2 _ oi_X11) (E.1.2.2.2.2 _ oi_inst) (E.1.2.2.2.2 _ oi_code) rfl (by rw [E.1.2.2.1]; exact hl.1) rfl dX11_init_1 (Nat.le_of_ble_eq_true rfl) (Nat.le_of_ble_eq_true rfl) ?_
  refine W.eq (g2 := F0 m 4 ls []) rfl ?_
  refine lv_aload_n hx hb dX11_init_4 rfl (lv_at hl 0 rfl) ?_
  refine m_new E hM hS nw_X11_9 (Nat.le_of_ble_eq_true rfl) (Nat.le_of_ble_eq_true rfl) dX11_init_5 (fun K1 R2 I3 L4 H ea hM hS => ?_)
  have hw := hw K1 R2 I3 L4 ea
  refine lv_dup hx hb dX11_init_8 rfl ?_
  obtain ⟨ob1, hw⟩ := hw
  refine m_cv (m_runI E hM hS cs_X11_11 (c_X8_init ob1 hw) rfl rfl ⟨Nat.le_of_ble_eq_true rfl, Nat.le_of_ble_eq_true rfl⟩ rfl hl.1 rfl (Nat.le_of_ble_eq_true rfl) dX11_init_9 ⟨Nat.le_of_ble_eq_true rfl, Nat.le_of_ble_eq_true rfl⟩) hS (fun u H locs hp hM hS => ?_)
  obtain ⟨K5, R6, I7, L8, rfl, hw⟩ := hp
  obtain ⟨ob2, hw⟩ := hw
  obtain ⟨ob3, hw⟩ := hw
  refine m_putr E hM hS fp_X11_12 (fun _ => ⟨hnm, rfl⟩) ob2 (by rw [ob3]; decide) rfl rfl dX11_init_12 (fun R9 H locs eR9 hM hS => ?_)
  have hw := hw R9 eR9
  refine lv_aload_n hx hb dX11_init_15 rfl (lv_at hl 0 rfl) ?_
  refine lv_iconst (v := 3) hx hb dX11_init_16 (by decide) ?_
  refine m_newq E hM hS (k := 20) (t0 := 7) (N := 3) (by decide) cl_X11_9 (by decide) rfl (by decide) (by decide) (by decide) (Nat.le_of_ble_eq_true rfl) (Nat.le_of_ble_eq_true rfl) dX11_init_17 (fun K10 R11 I12 L13 H ea hM hS => ?_)
  have hw := hw K10 R11 I12 L13 ea
  obtain ⟨ob4, hw⟩ := hw
  obtain ⟨ob5, hw⟩ := hw
  refine m_putr E hM hS fp_X11_16 (fun _ => ⟨hnm, rfl⟩) ob4 (by rw [ob5]; decide) rfl rfl dX11_init_20 (fun R14 H locs eR14 hM hS => ?_)
  have hw := hw R14 eR14
  refine lv_aload_n hx hb dX11_init_23 rfl (lv_at hl 0 rfl) ?_
  refine m_new E hM hS nw_X11_20 (Nat.le_of_ble_eq_true rfl) (Nat.le_of_ble_eq_true rfl) dX11_init_24 (fun K15 R16 I17 L18 H ea hM hS => ?_)
  have hw := hw K15 R16 I17 L18 ea
  refine lv_dup hx hb dX11_init_27 rfl ?_
  refine lv_aload_n hx hb dX11_init_28 rfl (lv_at hl 0 rfl) ?_
  obtain ⟨ob6, hw⟩ := hw
  obtain ⟨ob7, hw⟩ := hw
  refine m_getr E hM fs_X11_12 ob6 ob7 dX11_init_29 ?_
  obtain ⟨ob8, hw⟩ := hw
  obtain ⟨ob9, hw⟩ := hw
  refine m_getr E hM fs_X11_22 ob8 ob9 dX11_init_32 ?_
  obtain ⟨ob10, hw⟩ := hw
  refine m_cv (m_runI E hM hS cs_X11_26 (c_X5_init ob10 hw) rfl rfl ⟨Nat.le_of_ble_eq_true rfl, Nat.le_of_ble_eq_true rfl⟩ rfl hl.1 rfl (Nat.le_of_ble_eq_true rfl) dX11_init_35 ⟨Nat.le_of_ble_eq_true rfl, Nat.le_of_ble_eq_true rfl⟩) hS (fun u H locs hp hM hS => ?_)
  obtain ⟨K19, R20, I21, L22, rfl, hw⟩ := hp
  obtain ⟨ob11, hw⟩ := hw
  obtain ⟨ob12, hw⟩ := hw
  refine m_putr E hM hS fp_X11_29 (fun _ => ⟨hnm, rfl⟩) ob11 (by rw [ob12]; decide) rfl rfl dX11_init_38 (fun R23 H locs eR23 hM hS => ?_)
  have hw := hw R23 eR23
  refine lv_aload_n hx hb dX11_init_41 rfl (lv_at hl 0 rfl) ?_
  refine lv_iconst (v := 2) hx hb dX11_init_42 (by decide) ?_
  refine m_newq E hM hS (k := 17) (t0 := 4) (N := 2) (by decide) cl_X11_33 (by decide) rfl (by decide) (by decide) (by decide) (Nat.le_of_ble_eq_true rfl) (Nat.le_of_ble_eq_true rfl) dX11_init_43 (fun K24 R25 I26 L27 H ea hM hS => ?_)
  have hw := hw K24 R25 I26 L27 ea
  obtain ⟨ob13, hw⟩ := hw
  obtain ⟨ob14, hw⟩ := hw
  refine m_putr E hM hS fp_X11_35 (fun _ => ⟨hnm, rfl⟩) ob13 (by rw [ob14]; decide) rfl rfl dX11_init_46 (fun R28 H locs eR28 hM hS => ?_)
  have hw := hw R28 eR28
  refine lv_aload_n hx hb dX11_init_49 rfl (lv_at hl 0 rfl) ?_
  refine m_new E hM hS nw_X11_39 (Nat.le_of_ble_eq_true rfl) (Nat.le_of_ble_eq_true rfl) dX11_init_50 (fun K29 R30 I31 L32 H ea hM hS => ?_)
  have hw := hw K29 R30 I31 L32 ea
  refine lv_dup hx hb dX11_init_53 rfl ?_
  obtain ⟨ob15, hw⟩ := hw
  refine m_cv (m_runIN E hM hS cs_X11_41 (c_X4_init ob15 hw) rfl rfl ⟨Nat.le_of_ble_eq_true rfl, Nat.le_of_ble_eq_true rfl⟩ rfl hl.1 rfl (Nat.le_of_ble_eq_true rfl) dX11_init_54 ⟨Nat.le_of_ble_eq_true rfl, Nat.le_of_ble_eq_true rfl⟩) hS (fun u H locs hp hM hS => ?_)
  obtain ⟨K33, R34, I35, L36, rfl, hw⟩ := hp
  obtain ⟨ob16, hw⟩ := hw
  obtain ⟨ob17, hw⟩ := hw
  refine m_putr E hM hS fp_X11_42 (fun _ => ⟨hnm, rfl⟩) ob16 (by rw [ob17]; decide) rfl rfl dX11_init_57 (fun R37 H locs eR37 hM hS => ?_)
  have hw := hw R37 eR37
  refine lv_aload_n hx hb dX11_init_60 rfl (lv_at hl 0 rfl) ?_
  refine m_new E hM hS nw_X11_46 (Nat.le_of_ble_eq_true rfl) (Nat.le_of_ble_eq_true rfl) dX11_init_61 (fun K38 R39 I40 L41 H ea hM hS => ?_)
  have hw := hw K38 R39 I40 L41 ea
  refine lv_dup hx hb dX11_init_64 rfl ?_
  obtain ⟨ob18, hw⟩ := hw
  refine m_cv (m_runIN E hM hS cs_X11_48 (c_X7_init ob18 hw) rfl rfl ⟨Nat.le_of_ble_eq_true rfl, Nat.le_of_ble_eq_true rfl⟩ rfl hl.1 rfl (Nat.le_of_ble_eq_true rfl) dX11_init_65 ⟨Nat.le_of_ble_eq_true rfl, Nat.le_of_ble_eq_true rfl⟩) hS (fun u H locs hp hM hS => ?_)
  obtain ⟨K42, R43, I44, L45, rfl, hw⟩ := hp
  obtain ⟨ob19, hw⟩ := hw
  obtain ⟨ob20, hw⟩ := hw
  refine m_putr E hM hS fp_X11_49 (fun _ => ⟨hnm, rfl⟩) ob19 (by rw [ob20]; decide) rfl rfl dX11_init_68 (fun R46 H locs eR46 hM hS => ?_)
  have hw := hw R46 eR46
  refine lv_aload_n hx hb dX11_init_71 rfl (lv_at hl 0 rfl) ?_
  refine m_new E hM hS nw_X11_53 (Nat.le_of_ble_eq_true rfl) (Nat.le_of_ble_eq_true rfl) dX11_init_72 (fun K47 R48 I49 L50 H ea hM hS => ?_)
  have hw := hw K47 R48 I49 L50 ea
  refine lv_dup hx hb dX11_init_75 rfl ?_
  obtain ⟨ob21, hw⟩ := hw
  refine m_cv (m_runIN E hM hS cs_X11_55 (c_X0_init ob21 hw) rfl rfl ⟨Nat.le_of_ble_eq_true rfl, Nat.le_of_ble_eq_true rfl⟩ rfl hl.1 rfl (Nat.le_of_ble_eq_true rfl) dX11_init_76 ⟨Nat.le_of_ble_eq_true rfl, Nat.le_of_ble_eq_true rfl⟩) hS (fun u H locs hp hM hS => ?_)
  obtain ⟨K51, R52, I53, L54, rfl, hw⟩ := hp
  obtain ⟨ob22, hw⟩ := hw
  obtain ⟨ob23, hw⟩ := hw
  refine m_putr E hM hS fp_X11_56 (fun _ => ⟨hnm, rfl⟩) ob22 (by rw [ob23]; decide) rfl rfl dX11_init_79 (fun R55 H locs eR55 hM hS => ?_)
  have hw := hw R55 eR55
  refine lv_aload_n hx hb dX11_init_82 rfl (lv_at hl 0 rfl) ?_
  refine m_new E hM hS nw_X11_60 (Nat.le_of_ble_eq_true rfl) (Nat.le_of_ble_eq_true rfl) dX11_init_83 (fun K56 R57 I58 L59 H ea hM hS => ?_)
  have hw := hw K56 R57 I58 L59 ea
  refine lv_dup hx hb dX11_init_86 rfl ?_
  obtain ⟨ob24, hw⟩ := hw
  refine m_cv (m_runIN E hM hS cs_X11_62 (c_X9_init ob24 hw) rfl rfl ⟨Nat.le_of_ble_eq_true rfl, Nat.le_of_ble_eq_true rfl⟩ rfl hl.1 rfl (Nat.le_of_ble_eq_true rfl) dX11_init_87 ⟨Nat.le_of_ble_eq_true rfl, Nat.le_of_ble_eq_true rfl⟩) hS (fun u H locs hp hM hS => ?_)
  obtain ⟨K60, R61, I62, L63, rfl, hw⟩ := hp
  obtain ⟨ob25, hw⟩ := hw
  obtain ⟨ob26, hw⟩ := hw
  refine m_putr E hM hS fp_X11_63 (fun _ => ⟨hnm, rfl⟩) ob25 (by rw [ob26]; decide) rfl rfl dX11_init_90 (fun R64 H locs eR64 hM hS => ?_)
  have hw := hw R64 eR64
  refine lv_aload_n hx hb dX11_init_93 rfl (lv_at hl 0 rfl) ?_
  refine m_new E hM hS nw_X11_67 (Nat.le_of_ble_eq_true rfl) (Nat.le_of_ble_eq_true rfl) dX11_init_94 (fun K65 R66 I67 L68 H ea hM hS => ?_)
  have hw := hw K65 R66 I67 L68 ea
  refine lv_dup hx hb dX11_init_97 rfl ?_
  obtain ⟨ob27, hw⟩ := hw
  refine m_cv (m_runIN E hM hS cs_X11_69 (c_X1_init ob27 hw) rfl rfl ⟨Nat.le_of_ble_eq_true rfl, Nat.le_of_ble_eq_true rfl⟩ rfl hl.1 rfl (Nat.le_of_ble_eq_true rfl) dX11_init_98 ⟨Nat.le_of_ble_eq_true rfl, Nat.le_of_ble_eq_true rfl⟩) hS (fun u H locs hp hM hS => ?_)
  obtain ⟨K69, R70, I71, L72, rfl, hw⟩ := hp
  obtain ⟨ob28, hw⟩ := hw
  obtain ⟨ob29, hw⟩ := hw
  refine m_putr E hM hS fp_X11_70 (fun _ => ⟨hnm, rfl⟩) ob28 (by rw [ob29]; decide) rfl rfl dX11_init_101 (fun R73 H locs eR73 hM hS => ?_)
  have hw := hw R73 eR73
  refine lv_aload_n hx hb dX11_init_104 rfl (lv_at hl 0 rfl) ?_
  refine m_new E hM hS nw_X11_74 (Nat.le_of_ble_eq_true rfl) (Nat.le_of_ble_eq_true rfl) dX11_init_105 (fun K74 R75 I76 L77 H ea hM hS => ?_)
  have hw := hw K74 R75 I76 L77 ea
  refine lv_dup hx hb dX11_init_108 rfl ?_
  obtain ⟨ob30, hw⟩ := hw
  refine m_cv (m_runIN E hM hS cs_X11_76 (c_X10_init ob30 hw) rfl rfl ⟨Nat.le_of_ble_eq_true rfl, Nat.le_of_ble_eq_true rfl⟩ rfl hl.1 rfl (Nat.le_of_ble_eq_true rfl) dX11_init_109 ⟨Nat.le_of_ble_eq_true rfl, Nat.le_of_ble_eq_true rfl⟩) hS (fun u H locs hp hM hS => ?_)
  obtain ⟨K78, R79, I80, L81, rfl, hw⟩ := hp
  obtain ⟨ob31, hw⟩ := hw
  obtain ⟨ob32, hw⟩ := hw
  refine m_putr E hM hS fp_X11_77 (fun _ => ⟨hnm, rfl⟩) ob31 (by rw [ob32]; decide) rfl rfl dX11_init_112 (fun R82 H locs eR82 hM hS => ?_)
  have hw := hw R82 eR82
  refine W.widen (k := 93) (n := 7344) (Nat.le_of_ble_eq_true rfl) (Nat.le_of_ble_eq_true rfl) ?_
  exact m_retv hx hb hr hlk hM hS ⟨_, _, _, _, rfl, hw⟩ dX11_init_115
theorem dX12_init_0 : decode cX12_init 0 = .ok (.aload_n 0, 1) := by decide +kernel
theorem dX12_init_1 : decode cX12_init 1 = .ok (.invokespecial 1, 3) := by decide +kernel
theorem dX12_init_4 : decode cX12_init 4 = .ok (.aload_n 0, 1) := by decide +kernel
theorem dX12_init_5 : decode cX12_init 5 = .ok (.sipush 3960, 3) := by decide +kernel
theorem dX12_init_8 : decode cX12_init 8 = .ok (.newarray .int, 2) := by decide +kernel
theorem dX12_init_10 : decode cX12_init 10 = .ok (.putfield 7, 3) := by decide +kernel
theorem dX12_init_13 : decode cX12_init 13 = .ok (.aload_n 0, 1) := by decide +kernel
theorem dX12_init_14 : decode cX12_init 14 = .ok (.iconst 3, 1) := by decide +kernel
theorem dX12_init_15 : decode cX12_init 15 = .ok (.newarray .boolean, 2) := by decide +kernel
theorem dX12_init_17 : decode cX12_init 17 = .ok (.putfield 13, 3) := by decide +kernel
theorem dX12_init_20 : decode cX12_init 20 = .ok (.aload_n 0, 1) := by decide +kernel
theorem dX12_init_21 : decode cX12_init 21 = .ok (.sipush 149, 3) := by decide +kernel
theorem dX12_init_24 : decode cX12_init 24 = .ok (.newarray .int, 2) := by decide +kernel
theorem dX12_init_26 : decode cX12_init 26 = .ok (.putfield 17, 3) := by decide +kernel
theorem dX12_init_29 : decode cX12_init 29 = .ok (.aload_n 0, 1) := by decide +kernel
theorem dX12_init_30 : decode cX12_init 30 = .ok (.sipush 640, 3) := by decide +kernel
theorem dX12_init_33 : decode cX12_init 33 = .ok (.newarray .int, 2) := by decide +kernel
theorem dX12_init_35 : decode cX12_init 35 = .ok (.putfield 20, 3) := by decide +kernel
theorem dX12_init_38 : decode cX12_init 38 = .ok (.aload_n 0, 1) := by decide +kernel
theorem dX12_init_39 : decode cX12_init 39 = .ok (.sipush 640, 3) := by decide +kernel
theorem dX12_init_42 : decode cX12_init 42 = .ok (.newarray .int, 2) := by decide +kernel
theorem dX12_init_44 : decode cX12_init 44 = .ok (.putfield 23, 3) := by decide +kernel
theorem dX12_init_47 : decode cX12_init 47 = .ok (.aload_n 0, 1) := by decide +kernel
theorem dX12_init_48 : decode cX12_init 48 = .ok (.sipush 640, 3) := by decide +kernel
theorem dX12_init_51 : decode cX12_init 51 = .ok (.newarray .int, 2) := by decide +kernel
theorem dX12_init_53 : decode cX12_init 53 = .ok (.putfield 26, 3) := by decide +kernel
theorem dX12_init_56 : decode cX12_init 56 = .ok (.aload_n 0, 1) := by decide +kernel
theorem dX12_init_57 : decode cX12_init 57 = .ok (.sipush 640, 3) := by decide +kernel
theorem dX12_init_60 : decode cX12_init 60 = .ok (.newarray .int, 2) := by decide +kernel
theorem dX12_init_62 : decode cX12_init 62 = .ok (.putfield 29, 3) := by decide +kernel
theorem dX12_init_65 : decode cX12_init 65 = .ok (.aload_n 0, 1) := by decide +kernel
theorem dX12_init_66 : decode cX12_init 66 = .ok (.sipush 640, 3) := by decide +kernel
theorem dX12_init_69 : decode cX12_init 69 = .ok (.newarray .int, 2) := by decide +kernel
theorem dX12_init_71 : decode cX12_init 71 = .ok (.putfield 32, 3) := by decide +kernel
theorem dX12_init_74 : decode cX12_init 74 = .ok (.aload_n 0, 1) := by decide +kernel
theorem dX12_init_75 : decode cX12_init 75 = .ok (.sipush 640, 3) := by decide +kernel
theorem dX12_init_78 : decode cX12_init 78 = .ok (.newarray .int, 2) := by decide +kernel
theorem dX12_init_80 : decode cX12_init 80 = .ok (.putfield 35, 3) := by decide +kernel
theorem dX12_init_83 : decode cX12_init 83 = .ok (.aload_n 0, 1) := by decide +kernel
theorem dX12_init_84 : decode cX12_init 84 = .ok (.sipush 640, 3) := by decide +kernel
theorem dX12_init_87 : decode cX12_init 87 = .ok (.newarray .int, 2) := by decide +kernel
theorem dX12_init_89 : decode cX12_init 89 = .ok (.putfield 38, 3) := by decide +kernel
theorem dX12_init_92 : decode cX12_init 92 = .ok (.aload_n 0, 1) := by decide +kernel
theorem dX12_init_93 : decode cX12_init 93 = .ok (.sipush 640, 3) := by decide +kernel
theorem dX12_init_96 : decode cX12_init 96 = .ok (.newarray .int, 2) := by decide +kernel
theorem dX12_init_98 : decode cX12_init 98 = .ok (.putfield 41, 3) := by decide +kernel
theorem dX12_init_101 : decode cX12_init 101 = .ok (.aload_n 0, 1) := by decide +kernel
theorem dX12_init_102 : decode cX12_init 102 = .ok (.sipush 600, 3) := by decide +kernel
theorem dX12_init_105 : decode cX12_init 105 = .ok (.newarray .int, 2) := by decide +kernel
theorem dX12_init_107 : decode cX12_init 107 = .ok (.putfield 44, 3) := by decide +kernel
theorem dX12_init_110 : decode cX12_init 110 = .ok (.aload_n 0, 1) := by decide +kernel
theorem dX12_init_111 : decode cX12_init 111 = .ok (.bipush 6, 2) := by decide +kernel
theorem dX12_init_113 : decode cX12_init 113 = .ok (.newarray .int, 2) := by decide +kernel
theorem dX12_init_115 : decode cX12_init 115 = .ok (.putfield 47, 3) := by decide +kernel
theorem dX12_init_118 : decode cX12_init 118 = .ok (.aload_n 0, 1) := by decide +kernel
theorem dX12_init_119 : decode cX12_init 119 = .ok (.bipush 6, 2) := by decide +kernel
theorem dX12_init_121 : decode cX12_init 121 = .ok (.newarray .int, 2) := by decide +kernel
theorem dX12_init_123 : decode cX12_init 123 = .ok (.putfield 50, 3) := by decide +kernel
theorem dX12_init_126 : decode cX12_init 126 = .ok (.aload_n 0, 1) := by decide +kernel
theorem dX12_init_127 : decode cX12_init 127 = .ok (.bipush 6, 2) := by decide +kernel
theorem dX12_init_129 : decode cX12_init 129 = .ok (.newarray .int, 2) := by decide +kernel
theorem dX12_init_131 : decode cX12_init 131 = .ok (.putfield 53, 3) := by decide +kernel
theorem dX12_init_134 : decode cX12_init 134 = .ok (.aload_n 0, 1) := by decide +kernel
theorem dX12_init_135 : decode cX12_init 135 = .ok (.sipush 1464, 3) := by decide +kernel
theorem dX12_init_138 : decode cX12_init 138 = .ok (.newarray .int, 2) := by decide +kernel
theorem dX12_init_140 : decode cX12_init 140 = .ok (.putfield 56, 3) := by decide +kernel
theorem dX12_init_143 : decode cX12_init 143 = .ok (.aload_n 0, 1) := by decide +kernel
theorem dX12_init_144 : decode cX12_init 144 = .ok (.sipush 1464, 3) := by decide +kernel
theorem dX12_init_147 : decode cX12_init 147 = .ok (.newarray .int, 2) := by decide +kernel
theorem dX12_init_149 : decode cX12_init 149 = .ok (.putfield 59, 3) := by decide +kernel
theorem dX12_init_152 : decode cX12_init 152 = .ok (.aload_n 0, 1) := by decide +kernel
theorem dX12_init_153 : decode cX12_init 153 = .ok (.bipush 61, 2) := by decide +kernel
theorem dX12_init_155 : decode cX12_init 155 = .ok (.newarray .int, 2) := by decide +kernel
theorem dX12_init_157 : decode cX12_init 157 = .ok (.putfield 62, 3) := by decide +kernel
theorem dX12_init_160 : decode cX12_init 160 = .ok (.aload_n 0, 1) := by decide +kernel
theorem dX12_init_161 : decode cX12_init 161 = .ok (.bipush 6, 2) := by decide +kernel
theorem dX12_init_163 : decode cX12_init 163 = .ok (.newarray .int, 2) := by decide +kernel
theorem dX12_init_165 : decode cX12_init 165 = .ok (.putfield 65, 3) := by decide +kernel
theorem dX12_init_168 : decode cX12_init 168 = .ok (.aload_n 0, 1) := by decide +kernel
theorem dX12_init_169 : decode cX12_init 169 = .ok (.bipush 10, 2) := by decide +kernel
theorem dX12_init_171 : decode cX12_init 171 = .ok (.newarray .int, 2) := by decide +kernel
theorem dX12_init_173 : decode cX12_init 173 = .ok (.putfield 68, 3) := by decide +kernel
theorem dX12_init_176 : decode cX12_init 176 = .ok (.aload_n 0, 1) := by decide +kernel
theorem dX12_init_177 : decode cX12_init 177 = .ok (.sipush 240, 3) := by decide +kernel
theorem dX12_init_180 : decode cX12_init 180 = .ok (.newarray .long, 2) := by decide +kernel
theorem dX12_init_182 : decode cX12_init 182 = .ok (.putfield 71, 3) := by decide +kernel
theorem dX12_init_185 : decode cX12_init 185 = .ok (.aload_n 0, 1) := by decide +kernel
theorem dX12_init_186 : decode cX12_init 186 = .ok (.sipush 240, 3) := by decide +kernel
theorem dX12_init_189 : decode cX12_init 189 = .ok (.newarray .long, 2) := by decide +kernel
theorem dX12_init_191 : decode cX12_init 191 = .ok (.putfield 75, 3) := by decide +kernel
theorem dX12_init_194 : decode cX12_init 194 = .ok (.aload_n 0, 1) := by decide +kernel
theorem dX12_init_195 : decode cX12_init 195 = .ok (.getfield 7, 3) := by decide +kernel
theorem dX12_init_198 : decode cX12_init 198 = .ok (.iconst 4, 1) := by decide +kernel
theorem dX12_init_199 : decode cX12_init 199 = .ok (.iconst (-1), 1) := by decide +kernel
theorem dX12_init_200 : decode cX12_init 200 = .ok (.iastore, 1) := by decide +kernel
theorem dX12_init_201 : decode cX12_init 201 = .ok (.return_, 1) := by decide +kernel
def w_X12_init (n : Nat) (K : mK) (R : mR) (I : mI) (L : mL) (o : Nat) (post : mK → mR → mI → mL → Prop) : Prop := ∀ K1 R2 I3 L4, al K R I L n (14, 3960) K1 R2 I3 L4 → (K1 o).1 = 12 ∧ K1 n = (14, 3960) ∧ ∀ R5, R5 = up2 R2 o 0 (some n) → ∀ K6 R7 I8 L9, al K1 R5 I3 L4 (n + 1) (16, 3) K6 R7 I8 L9 → (K6 o).1 = 12 ∧ K6 (n + 1) = (16, 3) ∧ ∀ R10, R10 = up2 R7 o 1 (some (n + 1)) → ∀ K11 R12 I13 L14, al K6 R10 I8 L9 (n + 2) (14, 149) K11 R12 I13 L14 → (K11 o).1 = 12 ∧ K11 (n + 2) = (14, 149) ∧ ∀ R15, R15 = up2 R12 o 11 (some (n + 2)) → ∀ K16 R17 I18 L19, al K11 R15 I13 L14 (n + 3) (14, 640) K16 R17 I18 L19 → (K16 o).1 = 12 ∧ K16 (n + 3) = (14, 640) ∧ ∀ R20, R20 = up2 R17 o 26 (some (n + 3)) → ∀ K21 R22 I23 L24, al K16 R20 I18 L19 (n + 4) (14, 640) K21 R22 I23 L24 → (K21 o).1 = 12 ∧ K21 (n + 4) = (14, 640) ∧ ∀ R25, R25 = up2 R22 o 27 (some (n + 4)) → ∀ K26 R27 I28 L29, al K21 R25 I23 L24 (n + 5) (14, 640) K26 R27 I28 L29 → (K26 o).1 = 12 ∧ K26 (n + 5) = (14, 640) ∧ ∀ R30, R30 = up2 R27 o 28 (some (n + 5)) → ∀ K31 R32 I33 L34, al K26 R30 I28 L29 (n + 6) (14, 640) K31 R32 I33 L34 → (K31 o).1 = 12 ∧ K31 (n + 6) = (14, 640) ∧ ∀ R35, R35 = up2 R32 o 29 (some (n + 6)) → ∀ K36 R37 I38 L39, al K31 R35 I33 L34 (n + 7) (14, 640) K36 R37 I38 L39 → (K36 o).1 = 12 ∧ K36 (n + 7) = (14, 640) ∧ ∀ R40, R40 = up2 R37 o 30 (some (n + 7)) → ∀ K41 R42 I43 L44, al K36 R40 I38 L39 (n + 8) (14, 640) K41 R42 I43 L44 → (K41 o).1 = 12 ∧ K41 (n + 8) = (14, 640) ∧ ∀ R45, R45 = up2 R42 o 31 (some (n + 8)) → ∀ K46 R47 I48 L49, al K41 R45 I43 L44 (n + 9) (14, 640) K46 R47 I48 L49 → (K46 o).1 = 12 ∧ K46 (n + 9) = (14, 640) ∧ ∀ R50, R50 = up2 R47 o 32 (some (n + 9)) → ∀ K51 R52 I53 L54, al K46 R50 I48 L49 (n + 10) (14, 640) K51 R52 I53 L54 → (K51 o).1 = 12 ∧ K51 (n + 10) = (14, 640) ∧ ∀ R55, R55 = up2 R52 o 33 (some (n + 10)) → ∀ K56 R57 I58 L59, al K51 R55 I53 L54 (n + 11) (14, 600) K56 R57 I58 L59 → (K56 o).1 = 12 ∧ K56 (n + 11) = (14, 600) ∧ ∀ R60, R60 = up2 R57 o 34 (some (n + 11)) → ∀ K61 R62 I63 L64, al K56 R60 I58 L59 (n + 12) (14, 6) K61 R62 I63 L64 → (K61 o).1 = 12 ∧ K61 (n + 12) = (14, 6) ∧ ∀ R65, R65 = up2 R62 o 35 (some (n + 12)) → ∀ K66 R67 I68 L69, al K61 R65 I63 L64 (n + 13) (14, 6) K66 R67 I68 L69 → (K66 o).1 = 12 ∧ K66 (n + 13) = (14, 6) ∧ ∀ R70, R70 = up2 R67 o 36 (some (n + 13)) → ∀ K71 R72 I73 L74, al K66 R70 I68 L69 (n + 14) (14, 6) K71 R72 I73 L74 → (K71 o).1 = 12 ∧ K71 (n + 14) = (14, 6) ∧ ∀ R75, R75 = up2 R72 o 37 (some (n + 14)) → ∀ K76 R77 I78 L79, al K71 R75 I73 L74 (n + 15) (14, 1464) K76 R77 I78 L79 → (K76 o).1 = 12 ∧ K76 (n + 15) = (14, 1464) ∧ ∀ R80, R80 = up2 R77 o 38 (some (n + 15)) → ∀ K81 R82 I83 L84, al K76 R80 I78 L79 (n + 16) (14, 1464) K81 R82 I83 L84 → (K81 o).1 = 12 ∧ K81 (n + 16) = (14, 1464) ∧ ∀ R85, R85 = up2 R82 o 39 (some (n + 16)) → ∀ K86 R87 I88 L89, al K81 R85 I83 L84 (n + 17) (14, 61) K86 R87 I88 L89 → (K86 o).1 = 12 ∧ K86 (n + 17) = (14, 61) ∧ ∀ R90, R90 = up2 R87 o 42 (some (n + 17)) → ∀ K91 R92 I93 L94, al K86 R90 I88 L89 (n + 18) (14, 6) K91 R92 I93 L94 → (K91 o).1 = 12 ∧ K91 (n + 18) = (14, 6) ∧ ∀ R95, R95 = up2 R92 o 43 (some (n + 18)) → ∀ K96 R97 I98 L99, al K91 R95 I93 L94 (n + 19) (14, 10) K96 R97 I98 L99 → (K96 o).1 = 12 ∧ K96 (n + 19) = (14, 10) ∧ ∀ R100, R100 = up2 R97 o 46 (some (n + 19)) → ∀ K101 R102 I103 L104, al K96 R100 I98 L99 (n + 20) (15, 240) K101 R102 I103 L104 → (K101 o).1 = 12 ∧ K101 (n + 20) = (15, 240) ∧ ∀ R105, R105 = up2 R102 o 47 (some (n + 20)) → ∀ K106 R107 I108 L109, al K101 R105 I103 L104 (n + 21) (15, 240) K106 R107 I108 L109 → (K106 o).1 = 12 ∧ K106 (n + 21) = (15, 240) ∧ ∀ R110, R110 = up2 R107 o 48 (some (n + 21)) → R110 o 0 = some n ∧ K106 n = (14, 3960) ∧ ∀ I111, I111 = up2 I108 n ((4 : Int32).toNatClampNeg) (-1) → post K106 R110 I111 L109
set_option maxRecDepth 100000 in
set_option maxHeartbeats 4000000 in
theorem c_X12_init {l : Launch} {D : va_G} {cA : Nat → ClassId} {Z : mZ} {bs : Ad} {n : Nat} {K : mK} {R : mR} {I : mI} {L : mL} {o : Nat} {post : mK → mR → mI → mL → Prop} (ob0 : (K o).1 = 12) (hw : w_X12_init n K R I L o post) : Met l yX12_init (.code yX12_init cX12_init 1 none :: gw) ({ frames := 1, cells := 22, slots := 13335, locals := 40 } : Room) (PreM D cA Z bs (n, K, R, I, L) [.ref (ad bs o)]) (QV D cA bs (fun u => ∃ K' R' I' L', u = (n + 22, K', R', I', L') ∧ post K' R' I' L')) 22 13335 (Ab bs) := by
  refine m_metN (by decide) (Nat.le_of_ble_eq_true rfl) (fun p e s m below meth c ls E hr hlk hnm hM hS hl => ?_)
  have E : Ev p s m _ c cX12_init 1 RX12 D cA Z bs := E
  have hl : lv_has ls 1 [(0, .ref (ad bs o))] := hl
  have hnm : meth.name = "<init>" := hnm
  have hx := E.1.1
  have hb := E.1.2.1
  generalize hHe : s.heap = H at hM ⊢
  have hS : va_S (Ab bs) s.heap H [] := by rw [← hHe]; exact va_S.rf
  clear hHe
  refine lv_aload_n hx hb dX12_init_0 rfl (lv_at hl 0 rfl) ?_
  refine W.objInit hx hb E.1.2.2.2.1 (E.1.2.2.2.2 _ oi_X12) (E.1.2.2.2.2 _ oi_inst) (E.1.2.2.2.2 _ oi_code) rfl (by rw [E.1.2.2.1]; exact hl.1) rfl dX12_init_1 (Nat.le_of_ble_eq_true rfl) (Nat.le_of_ble_eq_true rfl) ?_
  refine W.eq (g2 := F0 m 4 ls []) rfl ?_
  refine lv_aload_n hx hb dX12_init_4 rfl (lv_at hl 0 rfl) ?_
  refine lv_sipush (v := 3960) hx hb dX12_init_5 (by decide) ?_
  refine m_newa E hM hS (atype := .int) (ty := .int) (k := 14) (t0 := 1) (N := 3960) rfl (by simp) ac_int rfl (by decide) (by decide) (by decide) (Nat.le_of_ble_eq_true rfl) (Nat.le_of_ble_eq_true rfl) dX12_init_8 (fun K1 R2 I3 L4 H ea hM hS => ?_)
  have hw := hw K1 R2 I3 L4 ea
  obtain ⟨ob1, hw⟩ := hw
  obtain ⟨ob2, hw⟩ := hw
  refine m_putr E hM hS fp_X12_7 (fun _ => ⟨hnm, rfl⟩) ob1 (by rw [ob2]; decide) rfl rfl dX12_init_10 (fun R5 H locs eR5 hM hS => ?_)
  have hw := hw R5 eR5
  refine lv_aload_n hx hb dX12_init_13 rfl (lv_at hl 0 rfl) ?_
  refine lv_iconst (v := 3) hx hb dX12_init_14 (by decide) ?_
  refine m_newa E hM hS (atype := .boolean) (ty := .boolean) (k := 16) (t0 := 3) (N := 3) rfl (by simp) ac_boolean rfl (by decide) (by decide) (by decide) (Nat.le_of_ble_eq_true rfl) (Nat.le_of_ble_eq_true rfl) dX12_init_15 (fun K6 R7 I8 L9 H ea hM hS => ?_)
  have hw := hw K6 R7 I8 L9 ea
  obtain ⟨ob3, hw⟩ := hw
  obtain ⟨ob4, hw⟩ := hw
  refine m_putr E hM hS fp_X12_13 (fun _ => ⟨hnm, rfl⟩) ob3 (by rw [ob4]; decide) rfl rfl dX12_init_17 (fun R10 H locs eR10 hM hS => ?_)
  have hw := hw R10 eR10
  refine lv_aload_n hx hb dX12_init_20 rfl (lv_at hl 0 rfl) ?_
  refine lv_sipush (v := 149) hx hb dX12_init_21 (by decide) ?_
  refine m_newa E hM hS (atype := .int) (ty := .int) (k := 14) (t0 := 1) (N := 149) rfl (by simp) ac_int rfl (by decide) (by decide) (by decide) (Nat.le_of_ble_eq_true rfl) (Nat.le_of_ble_eq_true rfl) dX12_init_24 (fun K11 R12 I13 L14 H ea hM hS => ?_)
  have hw := hw K11 R12 I13 L14 ea
  obtain ⟨ob5, hw⟩ := hw
  obtain ⟨ob6, hw⟩ := hw
  refine m_putr E hM hS fp_X12_17 (fun _ => ⟨hnm, rfl⟩) ob5 (by rw [ob6]; decide) rfl rfl dX12_init_26 (fun R15 H locs eR15 hM hS => ?_)
  have hw := hw R15 eR15
  refine lv_aload_n hx hb dX12_init_29 rfl (lv_at hl 0 rfl) ?_
  refine lv_sipush (v := 640) hx hb dX12_init_30 (by decide) ?_
  refine m_newa E hM hS (atype := .int) (ty := .int) (k := 14) (t0 := 1) (N := 640) rfl (by simp) ac_int rfl (by decide) (by decide) (by decide) (Nat.le_of_ble_eq_true rfl) (Nat.le_of_ble_eq_true rfl) dX12_init_33 (fun K16 R17 I18 L19 H ea hM hS => ?_)
  have hw := hw K16 R17 I18 L19 ea
  obtain ⟨ob7, hw⟩ := hw
  obtain ⟨ob8, hw⟩ := hw
  refine m_putr E hM hS fp_X12_20 (fun _ => ⟨hnm, rfl⟩) ob7 (by rw [ob8]; decide) rfl rfl dX12_init_35 (fun R20 H locs eR20 hM hS => ?_)
  have hw := hw R20 eR20
  refine lv_aload_n hx hb dX12_init_38 rfl (lv_at hl 0 rfl) ?_
  refine lv_sipush (v := 640) hx hb dX12_init_39 (by decide) ?_
  refine m_newa E hM hS (atype := .int) (ty := .int) (k := 14) (t0 := 1) (N := 640) rfl (by simp) ac_int rfl (by decide) (by decide) (by decide) (Nat.le_of_ble_eq_true rfl) (Nat.le_of_ble_eq_true rfl) dX12_init_42 (fun K21 R22 I23 L24 H ea hM hS => ?_)
  have hw := hw K21 R22 I23 L24 ea
  obtain ⟨ob9, hw⟩ := hw
  obtain ⟨ob10, hw⟩ := hw
  refine m_putr E hM hS fp_X12_23 (fun _ => ⟨hnm, rfl⟩) ob9 (by rw [ob10]; decide) rfl rfl dX12_init_44 (fun R25 H locs eR25 hM hS => ?_)
  have hw := hw R25 eR25
  refine lv_aload_n hx hb dX12_init_47 rfl (lv_at hl 0 rfl) ?_
  refine lv_sipush (v := 640) hx hb dX12_init_48 (by decide) ?_
  refine m_newa E hM hS (atype := .int) (ty := .int) (k := 14) (t0 := 1) (N := 640) rfl (by simp) ac_int rfl (by decide) (by decide) (by decide) (Nat.le_of_ble_eq_true rfl) (Nat.le_of_ble_eq_true rfl) dX12_init_51 (fun K26 R27 I28 L29 H ea hM hS => ?_)
  have hw := hw K26 R27 I28 L29 ea
  obtain ⟨ob11, hw⟩ := hw
  obtain ⟨ob12, hw⟩ := hw
  refine m_putr E hM hS fp_X12_26 (fun _ => ⟨hnm, rfl⟩) ob11 (by rw [ob12]; decide) rfl rfl dX12_init_53 (fun R30 H locs eR30 hM hS => ?_)
  have hw := hw R30 eR30
  refine lv_aload_n hx hb dX12_init_56 rfl (lv_at hl 0 rfl) ?_
  refine lv_sipush (v := 640) hx hb dX12_init_57 (by decide) ?_
  refine m_newa E hM hS (atype := .int) (ty := .int) (k := 14) (t0 := 1) (N := 640) rfl (by simp) ac_int rfl (by decide) (by decide) (by decide) (Nat.le_of_ble_eq_true rfl) (Nat.le_of_ble_eq_true rfl) dX12_init_60 (fun K31 R32 I33 L34 H ea hM hS => ?_)
  have hw := hw K31 R32 I33 L34 ea
  obtain ⟨ob13, hw⟩ := hw
  obtain ⟨ob14, hw⟩ := hw
  refine m_putr E hM hS fp_X12_29 (fun _ => ⟨hnm, rfl⟩) ob13 (by rw [ob14]; decide) rfl rfl dX12_init_62 (fun R35 H locs eR35 hM hS => ?_)
  have hw := hw R35 eR35
  refine lv_aload_n hx hb dX12_init_65 rfl (lv_at hl 0 rfl) ?_
  refine lv_sipush (v := 640) hx hb dX12_init_66 (by decide) ?_
  refine m_newa E hM hS (atype := .int) (ty := .int) (k := 14) (t0 := 1) (N := 640) rfl (by simp) ac_int rfl (by decide) (by decide) (by decide) (Nat.le_of_ble_eq_true rfl) (Nat.le_of_ble_eq_true rfl) dX12_init_69 (fun K36 R37 I38 L39 H ea hM hS => ?_)
  have hw := hw K36 R37 I38 L39 ea
  obtain ⟨ob15, hw⟩ := hw
  obtain ⟨ob16, hw⟩ := hw
  refine m_putr E hM hS fp_X12_32 (fun _ => ⟨hnm, rfl⟩) ob15 (by rw [ob16]; decide) rfl rfl dX12_init_71 (fun R40 H locs eR40 hM hS => ?_)
  have hw := hw R40 eR40
  refine lv_aload_n hx hb dX12_init_74 rfl (lv_at hl 0 rfl) ?_
  refine lv_sipush (v := 640) hx hb dX12_init_75 (by decide) ?_
  refine m_newa E hM hS (atype := .int) (ty := .int) (k := 14) (t0 := 1) (N := 640) rfl (by simp) ac_int rfl (by decide) (by decide) (by decide) (Nat.le_of_ble_eq_true rfl) (Nat.le_of_ble_eq_true rfl) dX12_init_78 (fun K41 R42 I43 L44 H ea hM hS => ?_)
  have hw := hw K41 R42 I43 L44 ea
  obtain ⟨ob17, hw⟩ := hw
  obtain ⟨ob18, hw⟩ := hw
  refine m_putr E hM hS fp_X12_35 (fun _ => ⟨hnm, rfl⟩) ob17 (by rw [ob18]; decide) rfl rfl dX12_init_80 (fun R45 H locs eR45 hM hS => ?_)
  have hw := hw R45 eR45
  refine lv_aload_n hx hb dX12_init_83 rfl (lv_at hl 0 rfl) ?_
  refine lv_sipush (v := 640) hx hb dX12_init_84 (by decide) ?_
  refine m_newa E hM hS (atype := .int) (ty := .int) (k := 14) (t0 := 1) (N := 640) rfl (by simp) ac_int rfl (by decide) (by decide) (by decide) (Nat.le_of_ble_eq_true rfl) (Nat.le_of_ble_eq_true rfl) dX12_init_87 (fun K46 R47 I48 L49 H ea hM hS => ?_)
  have hw := hw K46 R47 I48 L49 ea
  obtain ⟨ob19, hw⟩ := hw
  obtain ⟨ob20, hw⟩ := hw
  refine m_putr E hM hS fp_X12_38 (fun _ => ⟨hnm, rfl⟩) ob19 (by rw [ob20]; decide) rfl rfl dX12_init_89 (fun R50 H locs eR50 hM hS => ?_)
  have hw := hw R50 eR50
  refine lv_aload_n hx hb dX12_init_92 rfl (lv_at hl 0 rfl) ?_
  refine lv_sipush (v := 640) hx hb dX12_init_93 (by decide) ?_
  refine m_newa E hM hS (atype := .int) (ty := .int) (k := 14) (t0 := 1) (N := 640) rfl (by simp) ac_int rfl (by decide) (by decide) (by decide) (Nat.le_of_ble_eq_true rfl) (Nat.le_of_ble_eq_true rfl) dX12_init_96 (fun K51 R52 I53 L54 H ea hM hS => ?_)
  have hw := hw K51 R52 I53 L54 ea
  obtain ⟨ob21, hw⟩ := hw
  obtain ⟨ob22, hw⟩ := hw
  refine m_putr E hM hS fp_X12_41 (fun _ => ⟨hnm, rfl⟩) ob21 (by rw [ob22]; decide) rfl rfl dX12_init_98 (fun R55 H locs eR55 hM hS => ?_)
  have hw := hw R55 eR55
  refine lv_aload_n hx hb dX12_init_101 rfl (lv_at hl 0 rfl) ?_
  refine lv_sipush (v := 600) hx hb dX12_init_102 (by decide) ?_
  refine m_newa E hM hS (atype := .int) (ty := .int) (k := 14) (t0 := 1) (N := 600) rfl (by simp) ac_int rfl (by decide) (by decide) (by decide) (Nat.le_of_ble_eq_true rfl) (Nat.le_of_ble_eq_true rfl) dX12_init_105 (fun K56 R57 I58 L59 H ea hM hS => ?_)
  have hw := hw K56 R57 I58 L59 ea
  obtain ⟨ob23, hw⟩ := hw
  obtain ⟨ob24, hw⟩ := hw
  refine m_putr E hM hS fp_X12_44 (fun _ => ⟨hnm, rfl⟩) ob23 (by rw [ob24]; decide) rfl rfl dX12_init_107 (fun R60 H locs eR60 hM hS => ?_)
  have hw := hw R60 eR60
  refine lv_aload_n hx hb dX12_init_110 rfl (lv_at hl 0 rfl) ?_
  refine lv_bipush (v := 6) hx hb dX12_init_111 (by decide) ?_
  refine m_newa E hM hS (atype := .int) (ty := .int) (k := 14) (t0 := 1) (N := 6) rfl (by simp) ac_int rfl (by decide) (by decide) (by decide) (Nat.le_of_ble_eq_true rfl) (Nat.le_of_ble_eq_true rfl) dX12_init_113 (fun K61 R62 I63 L64 H ea hM hS => ?_)
  have hw := hw K61 R62 I63 L64 ea
  obtain ⟨ob25, hw⟩ := hw
  obtain ⟨ob26, hw⟩ := hw
  refine m_putr E hM hS fp_X12_47 (fun _ => ⟨hnm, rfl⟩) ob25 (by rw [ob26]; decide) rfl rfl dX12_init_115 (fun R65 H locs eR65 hM hS => ?_)
  have hw := hw R65 eR65
  refine lv_aload_n hx hb dX12_init_118 rfl (lv_at hl 0 rfl) ?_
  refine lv_bipush (v := 6) hx hb dX12_init_119 (by decide) ?_
  refine m_newa E hM hS (atype := .int) (ty := .int) (k := 14) (t0 := 1) (N := 6) rfl (by simp) ac_int rfl (by decide) (by decide) (by decide) (Nat.le_of_ble_eq_true rfl) (Nat.le_of_ble_eq_true rfl) dX12_init_121 (fun K66 R67 I68 L69 H ea hM hS => ?_)
  have hw := hw K66 R67 I68 L69 ea
  obtain ⟨ob27, hw⟩ := hw
  obtain ⟨ob28, hw⟩ := hw
  refine m_putr E hM hS fp_X12_50 (fun _ => ⟨hnm, rfl⟩) ob27 (by rw [ob28]; decide) rfl rfl dX12_init_123 (fun R70 H locs eR70 hM hS => ?_)
  have hw := hw R70 eR70
  refine lv_aload_n hx hb dX12_init_126 rfl (lv_at hl 0 rfl) ?_
  refine lv_bipush (v := 6) hx hb dX12_init_127 (by decide) ?_
  refine m_newa E hM hS (atype := .int) (ty := .int) (k := 14) (t0 := 1) (N := 6) rfl (by simp) ac_int rfl (by decide) (by decide) (by decide) (Nat.le_of_ble_eq_true rfl) (Nat.le_of_ble_eq_true rfl) dX12_init_129 (fun K71 R72 I73 L74 H ea hM hS => ?_)
  have hw := hw K71 R72 I73 L74 ea
  obtain ⟨ob29, hw⟩ := hw
  obtain ⟨ob30, hw⟩ := hw
  refine m_putr E hM hS fp_X12_53 (fun _ => ⟨hnm, rfl⟩) ob29 (by rw [ob30]; decide) rfl rfl dX12_init_131 (fun R75 H locs eR75 hM hS => ?_)
  have hw := hw R75 eR75
  refine lv_aload_n hx hb dX12_init_134 rfl (lv_at hl 0 rfl) ?_
  refine lv_sipush (v := 1464) hx hb dX12_init_135 (by decide) ?_
  refine m_newa E hM hS (atype := .int) (ty := .int) (k := 14) (t0 := 1) (N := 1464) rfl (by simp) ac_int rfl (by decide) (by decide) (by decide) (Nat.le_of_ble_eq_true rfl) (Nat.le_of_ble_eq_true rfl) dX12_init_138 (fun K76 R77 I78 L79 H ea hM hS => ?_)
  have hw := hw K76 R77 I78 L79 ea
  obtain ⟨ob31, hw⟩ := hw
  obtain ⟨ob32, hw⟩ := hw
  refine m_putr E hM hS fp_X12_56 (fun _ => ⟨hnm, rfl⟩) ob31 (by rw [ob32]; decide) rfl rfl dX12_init_140 (fun R80 H locs eR80 hM hS => ?_)
  have hw := hw R80 eR80
  refine lv_aload_n hx hb dX12_init_143 rfl (lv_at hl 0 rfl) ?_
  refine lv_sipush (v := 1464) hx hb dX12_init_144 (by decide) ?_
  refine m_newa E hM hS (atype := .int) (ty := .int) (k := 14) (t0 := 1) (N := 1464) rfl (by simp) ac_int rfl (by decide) (by decide) (by decide) (Nat.le_of_ble_eq_true rfl) (Nat.le_of_ble_eq_true rfl) dX12_init_147 (fun K81 R82 I83 L84 H ea hM hS => ?_)
  have hw := hw K81 R82 I83 L84 ea
  obtain ⟨ob33, hw⟩ := hw
  obtain ⟨ob34, hw⟩ := hw
  refine m_putr E hM hS fp_X12_59 (fun _ => ⟨hnm, rfl⟩) ob33 (by rw [ob34]; decide) rfl rfl dX12_init_149 (fun R85 H locs eR85 hM hS => ?_)
  have hw := hw R85 eR85
  refine lv_aload_n hx hb dX12_init_152 rfl (lv_at hl 0 rfl) ?_
  refine lv_bipush (v := 61) hx hb dX12_init_153 (by decide) ?_
  refine m_newa E hM hS (atype := .int) (ty := .int) (k := 14) (t0 := 1) (N := 61) rfl (by simp) ac_int rfl (by decide) (by decide) (by decide) (Nat.le_of_ble_eq_true rfl) (Nat.le_of_ble_eq_true rfl) dX12_init_155 (fun K86 R87 I88 L89 H ea hM hS => ?_)
  have hw := hw K86 R87 I88 L89 ea
  obtain ⟨ob35, hw⟩ := hw
  obtain ⟨ob36, hw⟩ := hw
  refine m_putr E hM hS fp_X12_62 (fun _ => ⟨hnm, rfl⟩) ob35 (by rw [ob36]; decide) rfl rfl dX12_init_157 (fun R90 H locs eR90 hM hS => ?_)
  have hw := hw R90 eR90
  refine lv_aload_n hx hb dX12_init_160 rfl (lv_at hl 0 rfl) ?_
  refine lv_bipush (v := 6) hx hb dX12_init_161 (by decide) ?_
  refine m_newa E hM hS (atype := .int) (ty := .int) (k := 14) (t0 := 1) (N := 6) rfl (by simp) ac_int rfl (by decide) (by decide) (by decide) (Nat.le_of_ble_eq_true rfl) (Nat.le_of_ble_eq_true rfl) dX12_init_163 (fun K91 R92 I93 L94 H ea hM hS => ?_)
  have hw := hw K91 R92 I93 L94 ea
  obtain ⟨ob37, hw⟩ := hw
  obtain ⟨ob38, hw⟩ := hw
  refine m_putr E hM hS fp_X12_65 (fun _ => ⟨hnm, rfl⟩) ob37 (by rw [ob38]; decide) rfl rfl dX12_init_165 (fun R95 H locs eR95 hM hS => ?_)
  have hw := hw R95 eR95
  refine lv_aload_n hx hb dX12_init_168 rfl (lv_at hl 0 rfl) ?_
  refine lv_bipush (v := 10) hx hb dX12_init_169 (by decide) ?_
  refine m_newa E hM hS (atype := .int) (ty := .int) (k := 14) (t0 := 1) (N := 10) rfl (by simp) ac_int rfl (by decide) (by decide) (by decide) (Nat.le_of_ble_eq_true rfl) (Nat.le_of_ble_eq_true rfl) dX12_init_171 (fun K96 R97 I98 L99 H ea hM hS => ?_)
  have hw := hw K96 R97 I98 L99 ea
  obtain ⟨ob39, hw⟩ := hw
  obtain ⟨ob40, hw⟩ := hw
  refine m_putr E hM hS fp_X12_68 (fun _ => ⟨hnm, rfl⟩) ob39 (by rw [ob40]; decide) rfl rfl dX12_init_173 (fun R100 H locs eR100 hM hS => ?_)
  have hw := hw R100 eR100
  refine lv_aload_n hx hb dX12_init_176 rfl (lv_at hl 0 rfl) ?_
  refine lv_sipush (v := 240) hx hb dX12_init_177 (by decide) ?_
  refine m_newa E hM hS (atype := .long) (ty := .long) (k := 15) (t0 := 2) (N := 240) rfl (by simp) ac_long rfl (by decide) (by decide) (by decide) (Nat.le_of_ble_eq_true rfl) (Nat.le_of_ble_eq_true rfl) dX12_init_180 (fun K101 R102 I103 L104 H ea hM hS => ?_)
  have hw := hw K101 R102 I103 L104 ea
  obtain ⟨ob41, hw⟩ := hw
  obtain ⟨ob42, hw⟩ := hw
  refine m_putr E hM hS fp_X12_71 (fun _ => ⟨hnm, rfl⟩) ob41 (by rw [ob42]; decide) rfl rfl dX12_init_182 (fun R105 H locs eR105 hM hS => ?_)
  have hw := hw R105 eR105
  refine lv_aload_n hx hb dX12_init_185 rfl (lv_at hl 0 rfl) ?_
  refine lv_sipush (v := 240) hx hb dX12_init_186 (by decide) ?_
  refine m_newa E hM hS (atype := .long) (ty := .long) (k := 15) (t0 := 2) (N := 240) rfl (by simp) ac_long rfl (by decide) (by decide) (by decide) (Nat.le_of_ble_eq_true rfl) (Nat.le_of_ble_eq_true rfl) dX12_init_189 (fun K106 R107 I108 L109 H ea hM hS => ?_)
  have hw := hw K106 R107 I108 L109 ea
  obtain ⟨ob43, hw⟩ := hw
  obtain ⟨ob44, hw⟩ := hw
  refine m_putr E hM hS fp_X12_75 (fun _ => ⟨hnm, rfl⟩) ob43 (by rw [ob44]; decide) rfl rfl dX12_init_191 (fun R110 H locs eR110 hM hS => ?_)
  have hw := hw R110 eR110
  refine lv_aload_n hx hb dX12_init_194 rfl (lv_at hl 0 rfl) ?_
  obtain ⟨ob45, hw⟩ := hw
  refine m_getr E hM fs_X12_7 ob43 ob45 dX12_init_195 ?_
  refine lv_iconst (v := 4) hx hb dX12_init_198 (by decide) ?_
  refine lv_iconst (v := (-1)) hx hb dX12_init_199 (by decide) ?_
  obtain ⟨ob46, hw⟩ := hw
  refine m_iast E hM hS ob46 (by unfold vp_in; decide) dX12_init_200 (fun I111 H locs eI111 hM hS => ?_)
  have hw := hw I111 eI111
  refine W.widen (k := 22) (n := 13335) (Nat.le_of_ble_eq_true rfl) (Nat.le_of_ble_eq_true rfl) ?_
  exact m_retv hx hb hr hlk hM hS ⟨_, _, _, _, rfl, hw⟩ dX12_init_201
theorem dX11_image_0 : decode cX11_image 0 = .ok (.iload_n 1, 1) := by decide +kernel
theorem dX11_image_1 : decode cX11_image 1 = .ok (.ifCond .lt 8, 3) := by decide +kernel
theorem dX11_image_4 : decode cX11_image 4 = .ok (.iload_n 1, 1) := by decide +kernel
theorem dX11_image_5 : decode cX11_image 5 = .ok (.iconst 3, 1) := by decide +kernel
theorem dX11_image_6 : decode cX11_image 6 = .ok (.if_icmp .lt 5, 3) := by decide +kernel
theorem dX11_image_9 : decode cX11_image 9 = .ok (.iconst 0, 1) := by decide +kernel
theorem dX11_image_10 : decode cX11_image 10 = .ok (.ireturn, 1) := by decide +kernel
theorem dX11_image_11 : decode cX11_image 11 = .ok (.aload_n 0, 1) := by decide +kernel
theorem dX11_image_12 : decode cX11_image 12 = .ok (.getfield 16, 3) := by decide +kernel
theorem dX11_image_15 : decode cX11_image 15 = .ok (.iload_n 1, 1) := by decide +kernel
theorem dX11_image_16 : decode cX11_image 16 = .ok (.aaload, 1) := by decide +kernel
theorem dX11_image_17 : decode cX11_image 17 = .ok (.ifnonnull 16, 3) := by decide +kernel
theorem dX11_image_20 : decode cX11_image 20 = .ok (.aload_n 0, 1) := by decide +kernel
theorem dX11_image_21 : decode cX11_image 21 = .ok (.getfield 16, 3) := by decide +kernel
theorem dX11_image_24 : decode cX11_image 24 = .ok (.iload_n 1, 1) := by decide +kernel
theorem dX11_image_25 : decode cX11_image 25 = .ok (.new 9, 3) := by decide +kernel
theorem dX11_image_28 : decode cX11_image 28 = .ok (.dup, 1) := by decide +kernel
theorem dX11_image_29 : decode cX11_image 29 = .ok (.invokespecial 11, 3) := by decide +kernel
theorem dX11_image_32 : decode cX11_image 32 = .ok (.aastore, 1) := by decide +kernel
theorem dX11_image_33 : decode cX11_image 33 = .ok (.aload_n 0, 1) := by decide +kernel
theorem dX11_image_34 : decode cX11_image 34 = .ok (.getfield 16, 3) := by decide +kernel
theorem dX11_image_37 : decode cX11_image 37 = .ok (.iload_n 1, 1) := by decide +kernel
theorem dX11_image_38 : decode cX11_image 38 = .ok (.aaload, 1) := by decide +kernel
theorem dX11_image_39 : decode cX11_image 39 = .ok (.aload_n 0, 1) := by decide +kernel
theorem dX11_image_40 : decode cX11_image 40 = .ok (.getfield 12, 3) := by decide +kernel
theorem dX11_image_43 : decode cX11_image 43 = .ok (.invokevirtual 443, 3) := by decide +kernel
theorem dX11_image_46 : decode cX11_image 46 = .ok (.iconst 1, 1) := by decide +kernel
theorem dX11_image_47 : decode cX11_image 47 = .ok (.ireturn, 1) := by decide +kernel
def w_X11_image (n : Nat) (K : mK) (R : mR) (I : mI) (L : mL) (a1 : Int32) (post : Bool → Nat → mK → mR → mI → mL → Prop) : Prop := (a1 < 0 → post false n K R I L) ∧ (¬ a1 < 0 → (a1 < 3 → (K 0).1 = 11 ∧ R 0 1 = some 43 ∧ K 43 = (20, 3) ∧ vp_in a1 3 ∧ (R 43 a1.toNatClampNeg = none → ∀ K2 R3 I4 L5, al K R I L n (8, 8) K2 R3 I4 L5 → (K2 n).1 = 8 ∧ w_X8_init (n + 1) K2 R3 I4 L5 n (fun K6 R7 I8 L9 => K6 43 = (20, 3) ∧ (K6 n).1 = 8 ∧ ∀ R10, R10 = up2 R7 43 a1.toNatClampNeg (some n) → (K6 0).1 = 11 ∧ R10 0 1 = some 43 ∧ (R10 43 a1.toNatClampNeg = none → R10 0 0 = some 1 ∧ False) ∧ (∀ q11, R10 43 a1.toNatClampNeg = some q11 → R10 0 0 = some 1 ∧ isX8 K6 R10 q11 ∧ isX8 K6 R10 1 ∧ w_X8_copyFrom I8 q11 1 (fun I12 => post true (n + 42) K6 R10 I12 L9)))) ∧ (∀ q1, R 43 a1.toNatClampNeg = some q1 → (R 43 a1.toNatClampNeg = none → R 0 0 = some 1 ∧ False) ∧ (∀ q13, R 43 a1.toNatClampNeg = some q13 → R 0 0 = some 1 ∧ isX8 K R q13 ∧ isX8 K R 1 ∧ w_X8_copyFrom I q13 1 (fun I14 => post true n K R I14 L)))) ∧ (¬ a1 < 3 → post false n K R I L))
set_option maxRecDepth 100000 in
set_option maxHeartbeats 4000000 in
theorem c_X11_image {l : Launch} {D : va_G} {cA : Nat → ClassId} {Z : mZ} {bs : Ad} {n : Nat} {K : mK} {R : mR} {I : mI} {L : mL} {a1 : Int32} {post : Bool → Nat → mK → mR → mI → mL → Prop}  (hw : w_X11_image n K R I L a1 post) : Met l yX11_image (.code yX11_image cX11_image 2 (some .boolean) :: gw) ({ frames := 3, cells := 42, slots := 1026, locals := 123 } : Room) (PreM D cA Z bs (n, K, R, I, L) [.ref (ad bs 0), .int a1]) (QI D cA bs (fun r u => ∃ b, r = bI b ∧ ∃ n' K' R' I' L', u = (n', K', R', I', L') ∧ post b n' K' R' I' L')) 42 1026 (Ab bs) := by
  refine m_metN (by decide) (Nat.le_of_ble_eq_true rfl) (fun p e s m below meth c ls E hr hlk hnm hM hS hl => ?_)
  have E : Ev p s m _ c cX11_image 2 RX11 D cA Z bs := E
  have hl : lv_has ls 2 [(0, .ref (ad bs 0)), (1, .int a1)] := hl
  have hx := E.1.1
  have hb := E.1.2.1
  generalize hHe : s.heap = H at hM ⊢
  have hS : va_S (Ab bs) s.heap H [] := by rw [← hHe]; exact va_S.rf
  clear hHe
  refine lv_iload_n hx hb dX11_image_0 rfl (lv_at hl 1 rfl) ?_
  refine lv_if_lt (tgt := 9) hx hb dX11_image_1 (by decide) (fun cq => ?_) (fun cq => ?_)
  · have hw := hw.1 cq
    refine lv_iconst (v := 0) hx hb dX11_image_9 (by decide) ?_
    refine W.widen (k := 42) (n := 1026) (Nat.le_of_ble_eq_true rfl) (Nat.le_of_ble_eq_true rfl) ?_
    exact m_retz hx hb hr hlk (Or.inl rfl) hM hS ⟨false, rfl, _, _, _, _, _, rfl, hw⟩ dX11_image_10
  · have hw := hw.2 cq
    refine lv_iload_n hx hb dX11_image_4 rfl (lv_at hl 1 rfl) ?_
    refine lv_iconst (v := 3) hx hb dX11_image_5 (by decide) ?_
    refine lv_icmp_lt (tgt := 11) hx hb dX11_image_6 (by decide) (fun cq => ?_) (fun cq => ?_)
    · have hw := hw.1 cq
      refine lv_aload_n hx hb dX11_image_11 rfl (lv_at hl 0 rfl) ?_
      obtain ⟨ob1, hw⟩ := hw
      obtain ⟨ob2, hw⟩ := hw
      refine m_getr E hM fs_X11_16 ob1 ob2 dX11_image_12 ?_
      refine lv_iload_n hx hb dX11_image_15 rfl (lv_at hl 1 rfl) ?_
      obtain ⟨ob3, hw⟩ := hw
      obtain ⟨ob4, hw⟩ := hw
      rcases hq9 : R 43 a1.toNatClampNeg with _ | q1
      · have hw := hw.1 hq9
        refine m_aaldN E hM ob3 (by simp) ob4 hq9 dX11_image_16 ?_
        refine lv_ifnonnullN hx hb dX11_image_17 ?_
        refine lv_aload_n hx hb dX11_image_20 rfl (lv_at hl 0 rfl) ?_
        refine m_getr E hM fs_X11_16 ob1 ob2 dX11_image_21 ?_
        refine lv_iload_n hx hb dX11_image_24 rfl (lv_at hl 1 rfl) ?_
        refine m_new E hM hS nw_X11_9 (Nat.le_of_ble_eq_true rfl) (Nat.le_of_ble_eq_true rfl) dX11_image_25 (fun K2 R3 I4 L5 H ea hM hS => ?_)
        have hw := hw K2 R3 I4 L5 ea
        refine lv_dup hx hb dX11_image_28 rfl ?_
        obtain ⟨ob5, hw⟩ := hw
        refine m_cv (m_runI E hM hS cs_X11_11 (c_X8_init ob5 hw) rfl rfl ⟨Nat.le_of_ble_eq_true rfl, Nat.le_of_ble_eq_true rfl⟩ rfl hl.1 rfl (Nat.le_of_ble_eq_true rfl) dX11_image_29 ⟨Nat.le_of_ble_eq_true rfl, Nat.le_of_ble_eq_true rfl⟩) hS (fun u H locs hp hM hS => ?_)
        obtain ⟨K6, R7, I8, L9, rfl, hw⟩ := hp
        obtain ⟨ob6, hw⟩ := hw
        obtain ⟨ob7, hw⟩ := hw
        refine m_aast E hM hS (t0 := 7) ob6 (by decide) (by decide) ob7 (by decide) rfl rfl ob4 dX11_image_32 (fun R10 H locs eR10 hM hS => ?_)
        have hw := hw R10 eR10
        refine lv_aload_n hx hb dX11_image_33 rfl (lv_at hl 0 rfl) ?_
        obtain ⟨ob8, hw⟩ := hw
        obtain ⟨ob9, hw⟩ := hw
        refine m_getr E hM fs_X11_16 ob8 ob9 dX11_image_34 ?_
        refine lv_iload_n hx hb dX11_image_37 rfl (lv_at hl 1 rfl) ?_
        rcases hq9 : R10 43 a1.toNatClampNeg with _ | q11
        · have hw := hw.1 hq9
          refine m_aaldN E hM ob6 (by simp) ob4 hq9 dX11_image_38 ?_
          refine lv_aload_n hx hb dX11_image_39 rfl (lv_at hl 0 rfl) ?_
          obtain ⟨ob10, hw⟩ := hw
          refine m_getr E hM fs_X11_12 ob8 ob10 dX11_image_40 ?_
          exact False.elim hw
        · have hw := hw.2 q11 hq9
          refine m_aaldS E hM ob6 (by simp) ob4 hq9 dX11_image_38 ?_
          refine lv_aload_n hx hb dX11_image_39 rfl (lv_at hl 0 rfl) ?_
          obtain ⟨ob11, hw⟩ := hw
          refine m_getr E hM fs_X11_12 ob8 ob11 dX11_image_40 ?_
          obtain ⟨ob12, hw⟩ := hw
          obtain ⟨ob13, hw⟩ := hw
          refine m_cv (m_runV E hM hS cs_X11_443 ob12.1.1 (by decide) rfl rfl (c_X8_copyFrom ob12 ob13 hw) rfl rfl ⟨Nat.le_of_ble_eq_true rfl, Nat.le_of_ble_eq_true rfl⟩ rfl hl.1 rfl (Nat.le_of_ble_eq_true rfl) dX11_image_43 ⟨Nat.le_of_ble_eq_true rfl, Nat.le_of_ble_eq_true rfl⟩) hS (fun u H locs hp hM hS => ?_)
          obtain ⟨I12, rfl, hw⟩ := hp
          refine lv_iconst (v := 1) hx hb dX11_image_46 (by decide) ?_
          refine W.widen (k := 42) (n := 1026) (Nat.le_of_ble_eq_true rfl) (Nat.le_of_ble_eq_true rfl) ?_
          exact m_retz hx hb hr hlk (Or.inr rfl) hM hS ⟨true, rfl, _, _, _, _, _, rfl, hw⟩ dX11_image_47
      · have hw := hw.2 q1 hq9
        refine m_aaldS E hM ob3 (by simp) ob4 hq9 dX11_image_16 ?_
        refine lv_ifnonnull (tgt := 33) hx hb dX11_image_17 (by decide) ?_
        refine lv_aload_n hx hb dX11_image_33 rfl (lv_at hl 0 rfl) ?_
        refine m_getr E hM fs_X11_16 ob1 ob2 dX11_image_34 ?_
        refine lv_iload_n hx hb dX11_image_37 rfl (lv_at hl 1 rfl) ?_
        rcases hq9 : R 43 a1.toNatClampNeg with _ | q13
        · have hw := hw.1 hq9
          refine m_aaldN E hM ob3 (by simp) ob4 hq9 dX11_image_38 ?_
          refine lv_aload_n hx hb dX11_image_39 rfl (lv_at hl 0 rfl) ?_
          obtain ⟨ob14, hw⟩ := hw
          refine m_getr E hM fs_X11_12 ob1 ob14 dX11_image_40 ?_
          exact False.elim hw
        · have hw := hw.2 q13 hq9
          refine m_aaldS E hM ob3 (by simp) ob4 hq9 dX11_image_38 ?_
          refine lv_aload_n hx hb dX11_image_39 rfl (lv_at hl 0 rfl) ?_
          obtain ⟨ob15, hw⟩ := hw
          refine m_getr E hM fs_X11_12 ob1 ob15 dX11_image_40 ?_
          obtain ⟨ob16, hw⟩ := hw
          obtain ⟨ob17, hw⟩ := hw
          refine m_cv (m_runV E hM hS cs_X11_443 ob16.1.1 (by decide) rfl rfl (c_X8_copyFrom ob16 ob17 hw) rfl rfl ⟨Nat.le_of_ble_eq_true rfl, Nat.le_of_ble_eq_true rfl⟩ rfl hl.1 rfl (Nat.le_of_ble_eq_true rfl) dX11_image_43 ⟨Nat.le_of_ble_eq_true rfl, Nat.le_of_ble_eq_true rfl⟩) hS (fun u H locs hp hM hS => ?_)
          obtain ⟨I14, rfl, hw⟩ := hp
          refine lv_iconst (v := 1) hx hb dX11_image_46 (by decide) ?_
          refine W.widen (k := 42) (n := 1026) (Nat.le_of_ble_eq_true rfl) (Nat.le_of_ble_eq_true rfl) ?_
          exact m_retz hx hb hr hlk (Or.inr rfl) hM hS ⟨true, rfl, _, _, _, _, _, rfl, hw⟩ dX11_image_47
    · have hw := hw.2 cq
      refine lv_iconst (v := 0) hx hb dX11_image_9 (by decide) ?_
      refine W.widen (k := 42) (n := 1026) (Nat.le_of_ble_eq_true rfl) (Nat.le_of_ble_eq_true rfl) ?_
      exact m_retz hx hb hr hlk (Or.inl rfl) hM hS ⟨false, rfl, _, _, _, _, _, rfl, hw⟩ dX11_image_10
