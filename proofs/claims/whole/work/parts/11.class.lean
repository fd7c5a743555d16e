theorem dX2_goes_0 : decode cX2_goes 0 = .ok (.aload_n 0, 1) := by decide +kernel
theorem dX2_goes_1 : decode cX2_goes 1 = .ok (.getfield 60, 3) := by decide +kernel
theorem dX2_goes_4 : decode cX2_goes 4 = .ok (.iload_n 1, 1) := by decide +kernel
theorem dX2_goes_5 : decode cX2_goes 5 = .ok (.invokevirtual 116, 3) := by decide +kernel
theorem dX2_goes_8 : decode cX2_goes 8 = .ok (.ifCond .eq 16, 3) := by decide +kernel
theorem dX2_goes_11 : decode cX2_goes 11 = .ok (.iload_n 2, 1) := by decide +kernel
theorem dX2_goes_12 : decode cX2_goes 12 = .ok (.aload_n 0, 1) := by decide +kernel
theorem dX2_goes_13 : decode cX2_goes 13 = .ok (.getfield 60, 3) := by decide +kernel
theorem dX2_goes_16 : decode cX2_goes 16 = .ok (.getfield 120, 3) := by decide +kernel
theorem dX2_goes_19 : decode cX2_goes 19 = .ok (.iload_n 1, 1) := by decide +kernel
theorem dX2_goes_20 : decode cX2_goes 20 = .ok (.iaload, 1) := by decide +kernel
theorem dX2_goes_21 : decode cX2_goes 21 = .ok (.if_icmp .ge 5, 3) := by decide +kernel
theorem dX2_goes_24 : decode cX2_goes 24 = .ok (.iconst 0, 1) := by decide +kernel
theorem dX2_goes_25 : decode cX2_goes 25 = .ok (.ireturn, 1) := by decide +kernel
theorem dX2_goes_26 : decode cX2_goes 26 = .ok (.iload_n 2, 1) := by decide +kernel
theorem dX2_goes_27 : decode cX2_goes 27 = .ok (.aload_n 0, 1) := by decide +kernel
theorem dX2_goes_28 : decode cX2_goes 28 = .ok (.getfield 60, 3) := by decide +kernel
theorem dX2_goes_31 : decode cX2_goes 31 = .ok (.getfield 120, 3) := by decide +kernel
theorem dX2_goes_34 : decode cX2_goes 34 = .ok (.iload_n 1, 1) := by decide +kernel
theorem dX2_goes_35 : decode cX2_goes 35 = .ok (.iaload, 1) := by decide +kernel
theorem dX2_goes_36 : decode cX2_goes 36 = .ok (.if_icmp .ne 20, 3) := by decide +kernel
theorem dX2_goes_39 : decode cX2_goes 39 = .ok (.aload_n 0, 1) := by decide +kernel
theorem dX2_goes_40 : decode cX2_goes 40 = .ok (.getfield 54, 3) := by decide +kernel
theorem dX2_goes_43 : decode cX2_goes 43 = .ok (.iload_n 1, 1) := by decide +kernel
theorem dX2_goes_44 : decode cX2_goes 44 = .ok (.aload_n 0, 1) := by decide +kernel
theorem dX2_goes_45 : decode cX2_goes 45 = .ok (.getfield 60, 3) := by decide +kernel
theorem dX2_goes_48 : decode cX2_goes 48 = .ok (.getfield 123, 3) := by decide +kernel
theorem dX2_goes_51 : decode cX2_goes 51 = .ok (.iload_n 1, 1) := by decide +kernel
theorem dX2_goes_52 : decode cX2_goes 52 = .ok (.iaload, 1) := by decide +kernel
theorem dX2_goes_53 : decode cX2_goes 53 = .ok (.iastore, 1) := by decide +kernel
theorem dX2_goes_54 : decode cX2_goes 54 = .ok (.iconst 1, 1) := by decide +kernel
theorem dX2_goes_55 : decode cX2_goes 55 = .ok (.ireturn, 1) := by decide +kernel
theorem dX2_goes_56 : decode cX2_goes 56 = .ok (.aload_n 0, 1) := by decide +kernel
theorem dX2_goes_57 : decode cX2_goes 57 = .ok (.getfield 57, 3) := by decide +kernel
theorem dX2_goes_60 : decode cX2_goes 60 = .ok (.iload_n 1, 1) := by decide +kernel
theorem dX2_goes_61 : decode cX2_goes 61 = .ok (.aload_n 0, 1) := by decide +kernel
theorem dX2_goes_62 : decode cX2_goes 62 = .ok (.getfield 60, 3) := by decide +kernel
theorem dX2_goes_65 : decode cX2_goes 65 = .ok (.iload_n 1, 1) := by decide +kernel
theorem dX2_goes_66 : decode cX2_goes 66 = .ok (.aload_n 0, 1) := by decide +kernel
theorem dX2_goes_67 : decode cX2_goes 67 = .ok (.getfield 57, 3) := by decide +kernel
theorem dX2_goes_70 : decode cX2_goes 70 = .ok (.iload_n 1, 1) := by decide +kernel
theorem dX2_goes_71 : decode cX2_goes 71 = .ok (.iaload, 1) := by decide +kernel
theorem dX2_goes_72 : decode cX2_goes 72 = .ok (.aload_n 0, 1) := by decide +kernel
theorem dX2_goes_73 : decode cX2_goes 73 = .ok (.getfield 54, 3) := by decide +kernel
theorem dX2_goes_76 : decode cX2_goes 76 = .ok (.iload_n 1, 1) := by decide +kernel
theorem dX2_goes_77 : decode cX2_goes 77 = .ok (.iaload, 1) := by decide +kernel
theorem dX2_goes_78 : decode cX2_goes 78 = .ok (.invokevirtual 126, 3) := by decide +kernel
theorem dX2_goes_81 : decode cX2_goes 81 = .ok (.iastore, 1) := by decide +kernel
theorem dX2_goes_82 : decode cX2_goes 82 = .ok (.aload_n 0, 1) := by decide +kernel
theorem dX2_goes_83 : decode cX2_goes 83 = .ok (.getfield 57, 3) := by decide +kernel
theorem dX2_goes_86 : decode cX2_goes 86 = .ok (.iload_n 1, 1) := by decide +kernel
theorem dX2_goes_87 : decode cX2_goes 87 = .ok (.iaload, 1) := by decide +kernel
theorem dX2_goes_88 : decode cX2_goes 88 = .ok (.aload_n 0, 1) := by decide +kernel
theorem dX2_goes_89 : decode cX2_goes 89 = .ok (.getfield 60, 3) := by decide +kernel
theorem dX2_goes_92 : decode cX2_goes 92 = .ok (.getfield 130, 3) := by decide +kernel
theorem dX2_goes_95 : decode cX2_goes 95 = .ok (.iload_n 1, 1) := by decide +kernel
theorem dX2_goes_96 : decode cX2_goes 96 = .ok (.iaload, 1) := by decide +kernel
theorem dX2_goes_97 : decode cX2_goes 97 = .ok (.if_icmp .lt 5, 3) := by decide +kernel
theorem dX2_goes_100 : decode cX2_goes 100 = .ok (.iconst 0, 1) := by decide +kernel
theorem dX2_goes_101 : decode cX2_goes 101 = .ok (.ireturn, 1) := by decide +kernel
theorem dX2_goes_102 : decode cX2_goes 102 = .ok (.aload_n 0, 1) := by decide +kernel
theorem dX2_goes_103 : decode cX2_goes 103 = .ok (.getfield 54, 3) := by decide +kernel
theorem dX2_goes_106 : decode cX2_goes 106 = .ok (.iload_n 1, 1) := by decide +kernel
theorem dX2_goes_107 : decode cX2_goes 107 = .ok (.aload_n 0, 1) := by decide +kernel
theorem dX2_goes_108 : decode cX2_goes 108 = .ok (.getfield 60, 3) := by decide +kernel
theorem dX2_goes_111 : decode cX2_goes 111 = .ok (.iload_n 1, 1) := by decide +kernel
theorem dX2_goes_112 : decode cX2_goes 112 = .ok (.aload_n 0, 1) := by decide +kernel
theorem dX2_goes_113 : decode cX2_goes 113 = .ok (.getfield 54, 3) := by decide +kernel
theorem dX2_goes_116 : decode cX2_goes 116 = .ok (.iload_n 1, 1) := by decide +kernel
theorem dX2_goes_117 : decode cX2_goes 117 = .ok (.iaload, 1) := by decide +kernel
theorem dX2_goes_118 : decode cX2_goes 118 = .ok (.aload_n 0, 1) := by decide +kernel
theorem dX2_goes_119 : decode cX2_goes 119 = .ok (.getfield 57, 3) := by decide +kernel
theorem dX2_goes_122 : decode cX2_goes 122 = .ok (.iload_n 1, 1) := by decide +kernel
theorem dX2_goes_123 : decode cX2_goes 123 = .ok (.iaload, 1) := by decide +kernel
theorem dX2_goes_124 : decode cX2_goes 124 = .ok (.invokevirtual 133, 3) := by decide +kernel
theorem dX2_goes_127 : decode cX2_goes 127 = .ok (.iastore, 1) := by decide +kernel
theorem dX2_goes_128 : decode cX2_goes 128 = .ok (.iconst 1, 1) := by decide +kernel
theorem dX2_goes_129 : decode cX2_goes 129 = .ok (.ireturn, 1) := by decide +kernel
def w_X2_goes (I : mI) (o : Nat) (oh : Nat) (a1 : Int32) (a2 : Int32) (post : Bool → mI → Prop) : Prop := w_X3_walks I oh a1 (fun b1 => (b1 = false → post false I) ∧ (b1 = true → vp_in a1 6 ∧ ((I (oh + 7) a1.toNatClampNeg) ≤ a2 → vp_in a1 6 ∧ (¬ a2 = (I (oh + 7) a1.toNatClampNeg) → vp_in a1 6 ∧ vp_in a1 6 ∧ w_X3_openGoal I oh a1 (I (o + 16) a1.toNatClampNeg) (I (o + 15) a1.toNatClampNeg) (fun r2 => vp_in a1 6 ∧ ∀ I3, I3 = up2 I (o + 16) a1.toNatClampNeg r2 → vp_in a1 6 ∧ vp_in a1 6 ∧ ((I3 (o + 16) a1.toNatClampNeg) < (I3 (oh + 9) a1.toNatClampNeg) → vp_in a1 6 ∧ vp_in a1 6 ∧ w_X3_nextStep I3 oh a1 (I3 (o + 15) a1.toNatClampNeg) (I3 (o + 16) a1.toNatClampNeg) (fun r4 => vp_in a1 6 ∧ ∀ I5, I5 = up2 I3 (o + 15) a1.toNatClampNeg r4 → post true I5)) ∧ (¬ (I3 (o + 16) a1.toNatClampNeg) < (I3 (oh + 9) a1.toNatClampNeg) → post false I3))) ∧ (a2 = (I (oh + 7) a1.toNatClampNeg) → vp_in a1 6 ∧ vp_in a1 6 ∧ ∀ I6, I6 = up2 I (o + 15) a1.toNatClampNeg (I (oh + 8) a1.toNatClampNeg) → post true I6)) ∧ (¬ (I (oh + 7) a1.toNatClampNeg) ≤ a2 → post false I)))
set_option maxRecDepth 100000 in
set_option maxHeartbeats 4000000 in
theorem c_X2_goes {l : Launch} {D : va_G} {cA : Nat → ClassId} {Z : mZ} {bs : Ad} {n : Nat} {K : mK} {R : mR} {I : mI} {L : mL} {o : Nat} {oh : Nat} {a1 : Int32} {a2 : Int32} {post : Bool → mI → Prop} (ho : isX2 K R o oh) (hw : w_X2_goes I o oh a1 a2 post) : Met l yX2_goes (.code yX2_goes cX2_goes 3 (some .boolean) :: gw) ({ frames := 2, cells := 0, slots := 0, locals := 64 } : Room) (PreM D cA Z bs (n, K, R, I, L) [.ref (ad bs o), .int a1, .int a2]) (QI D cA bs (fun r u => ∃ b, r = bI b ∧ ∃ I', u = (n, K, R, I', L) ∧ post b I')) 0 0 (Ab bs) := by
  refine m_met (by decide) (Nat.le_of_ble_eq_true rfl) (fun p e s m below meth c ls E hr hlk hM hS hl => ?_)
  have E : Ev p s m _ c cX2_goes 3 RX2 D cA Z bs := E
  have hl : lv_has ls 3 [(0, .ref (ad bs o)), (1, .int a1), (2, .int a2)] := hl
  have hx := E.1.1
  have hb := E.1.2.1
  generalize hHe : s.heap = H at hM ⊢
  have hS : va_S (Ab bs) s.heap H [] := by rw [← hHe]; exact va_S.rf
  clear hHe
  refine lv_aload_n hx hb dX2_goes_0 rfl (lv_at hl 0 rfl) ?_
  refine m_getr E hM fs_X2_60 ho.1.1 ho.2.1 dX2_goes_1 ?_
  refine lv_iload_n hx hb dX2_goes_4 rfl (lv_at hl 1 rfl) ?_
  refine m_ci (m_runV E hM hS cs_X2_116 ho.2.2.1 (by decide) rfl rfl (c_X3_walks ho.2.2 hw) rfl rfl ⟨Nat.le_of_ble_eq_true rfl, Nat.le_of_ble_eq_true rfl⟩ rfl hl.1 rfl (Nat.le_of_ble_eq_true rfl) dX2_goes_5 ⟨Nat.le_of_ble_eq_true rfl, Nat.le_of_ble_eq_true rfl⟩) hS (fun r9 u H locs hp hM hS => ?_)
  obtain ⟨b1, rfl, rfl, hw⟩ := hp
  refine lv_if_eq (tgt := 24) hx hb dX2_goes_8 (by decide) (fun cq => ?_) (fun cq => ?_)
  · have hw := hw.1 (bI_f cq)
    refine lv_iconst (v := 0) hx hb dX2_goes_24 (by decide) ?_
    exact m_retz hx hb hr hlk (Or.inl rfl) hM hS ⟨false, rfl, _, rfl, hw⟩ dX2_goes_25
  · have hw := hw.2 (bI_t cq)
    refine lv_iload_n hx hb dX2_goes_11 rfl (lv_at hl 2 rfl) ?_
    refine lv_aload_n hx hb dX2_goes_12 rfl (lv_at hl 0 rfl) ?_
    refine m_getr E hM fs_X2_60 ho.1.1 ho.2.1 dX2_goes_13 ?_
    refine m_getr E hM fs_X2_120 ho.2.2.1 (isO_at ho.2.2 6 rfl).1 dX2_goes_16 ?_
    refine lv_iload_n hx hb dX2_goes_19 rfl (lv_at hl 1 rfl) ?_
    obtain ⟨hv, hw⟩ := hw
    refine m_iald E hM (isO_at ho.2.2 6 rfl).2 hv dX2_goes_20 ?_
    refine lv_icmp_ge (tgt := 26) hx hb dX2_goes_21 (by decide) (fun cq => ?_) (fun cq => ?_)
    · have hw := hw.1 cq
      refine lv_iload_n hx hb dX2_goes_26 rfl (lv_at hl 2 rfl) ?_
      refine lv_aload_n hx hb dX2_goes_27 rfl (lv_at hl 0 rfl) ?_
      refine m_getr E hM fs_X2_60 ho.1.1 ho.2.1 dX2_goes_28 ?_
      refine m_getr E hM fs_X2_120 ho.2.2.1 (isO_at ho.2.2 6 rfl).1 dX2_goes_31 ?_
      refine lv_iload_n hx hb dX2_goes_34 rfl (lv_at hl 1 rfl) ?_
      obtain ⟨hv, hw⟩ := hw
      refine m_iald E hM (isO_at ho.2.2 6 rfl).2 hv dX2_goes_35 ?_
      refine lv_icmp_ne (tgt := 56) hx hb dX2_goes_36 (by decide) (fun cq => ?_) (fun cq => ?_)
      · have hw := hw.1 cq
        refine lv_aload_n hx hb dX2_goes_56 rfl (lv_at hl 0 rfl) ?_
        refine m_getr E hM fs_X2_57 ho.1.1 (isO_at ho.1 15 rfl).1 dX2_goes_57 ?_
        refine lv_iload_n hx hb dX2_goes_60 rfl (lv_at hl 1 rfl) ?_
        refine lv_aload_n hx hb dX2_goes_61 rfl (lv_at hl 0 rfl) ?_
        refine m_getr E hM fs_X2_60 ho.1.1 ho.2.1 dX2_goes_62 ?_
        refine lv_iload_n hx hb dX2_goes_65 rfl (lv_at hl 1 rfl) ?_
        refine lv_aload_n hx hb dX2_goes_66 rfl (lv_at hl 0 rfl) ?_
        refine m_getr E hM fs_X2_57 ho.1.1 (isO_at ho.1 15 rfl).1 dX2_goes_67 ?_
        refine lv_iload_n hx hb dX2_goes_70 rfl (lv_at hl 1 rfl) ?_
        obtain ⟨hv, hw⟩ := hw
        refine m_iald E hM (isO_at ho.1 15 rfl).2 hv dX2_goes_71 ?_
        refine lv_aload_n hx hb dX2_goes_72 rfl (lv_at hl 0 rfl) ?_
        refine m_getr E hM fs_X2_54 ho.1.1 (isO_at ho.1 14 rfl).1 dX2_goes_73 ?_
        refine lv_iload_n hx hb dX2_goes_76 rfl (lv_at hl 1 rfl) ?_
        obtain ⟨hv, hw⟩ := hw
        refine m_iald E hM (isO_at ho.1 14 rfl).2 hv dX2_goes_77 ?_
        refine m_ci (m_runV E hM hS cs_X2_126 ho.2.2.1 (by decide) rfl rfl (c_X3_openGoal ho.2.2 hw) rfl rfl ⟨Nat.le_of_ble_eq_true rfl, Nat.le_of_ble_eq_true rfl⟩ rfl hl.1 rfl (Nat.le_of_ble_eq_true rfl) dX2_goes_78 ⟨Nat.le_of_ble_eq_true rfl, Nat.le_of_ble_eq_true rfl⟩) hS (fun r2 u H locs hp hM hS => ?_)
        obtain ⟨rfl, hw⟩ := hp
        obtain ⟨hv, hw⟩ := hw
        refine m_iast E hM hS (isO_at ho.1 15 rfl).2 hv dX2_goes_81 (fun I3 H locs eI3 hM hS => ?_)
        have hw := hw I3 eI3
        refine lv_aload_n hx hb dX2_goes_82 rfl (lv_at hl 0 rfl) ?_
        refine m_getr E hM fs_X2_57 ho.1.1 (isO_at ho.1 15 rfl).1 dX2_goes_83 ?_
        refine lv_iload_n hx hb dX2_goes_86 rfl (lv_at hl 1 rfl) ?_
        obtain ⟨hv, hw⟩ := hw
        refine m_iald E hM (isO_at ho.1 15 rfl).2 hv dX2_goes_87 ?_
        refine lv_aload_n hx hb dX2_goes_88 rfl (lv_at hl 0 rfl) ?_
        refine m_getr E hM fs_X2_60 ho.1.1 ho.2.1 dX2_goes_89 ?_
        refine m_getr E hM fs_X2_130 ho.2.2.1 (isO_at ho.2.2 8 rfl).1 dX2_goes_92 ?_
        refine lv_iload_n hx hb dX2_goes_95 rfl (lv_at hl 1 rfl) ?_
        obtain ⟨hv, hw⟩ := hw
        refine m_iald E hM (isO_at ho.2.2 8 rfl).2 hv dX2_goes_96 ?_
        refine lv_icmp_lt (tgt := 102) hx hb dX2_goes_97 (by decide) (fun cq => ?_) (fun cq => ?_)
        · have hw := hw.1 cq
          refine lv_aload_n hx hb dX2_goes_102 rfl (lv_at hl 0 rfl) ?_
          refine m_getr E hM fs_X2_54 ho.1.1 (isO_at ho.1 14 rfl).1 dX2_goes_103 ?_
          refine lv_iload_n hx hb dX2_goes_106 rfl (lv_at hl 1 rfl) ?_
          refine lv_aload_n hx hb dX2_goes_107 rfl (lv_at hl 0 rfl) ?_
          refine m_getr E hM fs_X2_60 ho.1.1 ho.2.1 dX2_goes_108 ?_
          refine lv_iload_n hx hb dX2_goes_111 rfl (lv_at hl 1 rfl) ?_
          refine lv_aload_n hx hb dX2_goes_112 rfl (lv_at hl 0 rfl) ?_
          refine m_getr E hM fs_X2_54 ho.1.1 (isO_at ho.1 14 rfl).1 dX2_goes_113 ?_
          refine lv_iload_n hx hb dX2_goes_116 rfl (lv_at hl 1 rfl) ?_
          obtain ⟨hv, hw⟩ := hw
          refine m_iald E hM (isO_at ho.1 14 rfl).2 hv dX2_goes_117 ?_
          refine lv_aload_n hx hb dX2_goes_118 rfl (lv_at hl 0 rfl) ?_
          refine m_getr E hM fs_X2_57 ho.1.1 (isO_at ho.1 15 rfl).1 dX2_goes_119 ?_
          refine lv_iload_n hx hb dX2_goes_122 rfl (lv_at hl 1 rfl) ?_
          obtain ⟨hv, hw⟩ := hw
          refine m_iald E hM (isO_at ho.1 15 rfl).2 hv dX2_goes_123 ?_
          refine m_ci (m_runV E hM hS cs_X2_133 ho.2.2.1 (by decide) rfl rfl (c_X3_nextStep ho.2.2 hw) rfl rfl ⟨Nat.le_of_ble_eq_true rfl, Nat.le_of_ble_eq_true rfl⟩ rfl hl.1 rfl (Nat.le_of_ble_eq_true rfl) dX2_goes_124 ⟨Nat.le_of_ble_eq_true rfl, Nat.le_of_ble_eq_true rfl⟩) hS (fun r4 u H locs hp hM hS => ?_)
          obtain ⟨rfl, hw⟩ := hp
          obtain ⟨hv, hw⟩ := hw
          refine m_iast E hM hS (isO_at ho.1 14 rfl).2 hv dX2_goes_127 (fun I5 H locs eI5 hM hS => ?_)
          have hw := hw I5 eI5
          refine lv_iconst (v := 1) hx hb dX2_goes_128 (by decide) ?_
          exact m_retz hx hb hr hlk (Or.inr rfl) hM hS ⟨true, rfl, _, rfl, hw⟩ dX2_goes_129
        · have hw := hw.2 cq
          refine lv_iconst (v := 0) hx hb dX2_goes_100 (by decide) ?_
          exact m_retz hx hb hr hlk (Or.inl rfl) hM hS ⟨false, rfl, _, rfl, hw⟩ dX2_goes_101
      · have hw := hw.2 cq
        refine lv_aload_n hx hb dX2_goes_39 rfl (lv_at hl 0 rfl) ?_
        refine m_getr E hM fs_X2_54 ho.1.1 (isO_at ho.1 14 rfl).1 dX2_goes_40 ?_
        refine lv_iload_n hx hb dX2_goes_43 rfl (lv_at hl 1 rfl) ?_
        refine lv_aload_n hx hb dX2_goes_44 rfl (lv_at hl 0 rfl) ?_
        refine m_getr E hM fs_X2_60 ho.1.1 ho.2.1 dX2_goes_45 ?_
        refine m_getr E hM fs_X2_123 ho.2.2.1 (isO_at ho.2.2 7 rfl).1 dX2_goes_48 ?_
        refine lv_iload_n hx hb dX2_goes_51 rfl (lv_at hl 1 rfl) ?_
        obtain ⟨hv, hw⟩ := hw
        refine m_iald E hM (isO_at ho.2.2 7 rfl).2 hv dX2_goes_52 ?_
        obtain ⟨hv, hw⟩ := hw
        refine m_iast E hM hS (isO_at ho.1 14 rfl).2 hv dX2_goes_53 (fun I6 H locs eI6 hM hS => ?_)
        have hw := hw I6 eI6
        refine lv_iconst (v := 1) hx hb dX2_goes_54 (by decide) ?_
        exact m_retz hx hb hr hlk (Or.inr rfl) hM hS ⟨true, rfl, _, rfl, hw⟩ dX2_goes_55
    · have hw := hw.2 cq
      refine lv_iconst (v := 0) hx hb dX2_goes_24 (by decide) ?_
      exact m_retz hx hb hr hlk (Or.inl rfl) hM hS ⟨false, rfl, _, rfl, hw⟩ dX2_goes_25
theorem dX2_addTread_0 : decode cX2_addTread 0 = .ok (.aload_n 0, 1) := by decide +kernel
theorem dX2_addTread_1 : decode cX2_addTread 1 = .ok (.getfield 64, 3) := by decide +kernel
theorem dX2_addTread_4 : decode cX2_addTread 4 = .ok (.sipush 600, 3) := by decide +kernel
theorem dX2_addTread_7 : decode cX2_addTread 7 = .ok (.if_icmp .lt 4, 3) := by decide +kernel
theorem dX2_addTread_10 : decode cX2_addTread 10 = .ok (.return_, 1) := by decide +kernel
theorem dX2_addTread_11 : decode cX2_addTread 11 = .ok (.aload_n 0, 1) := by decide +kernel
theorem dX2_addTread_12 : decode cX2_addTread 12 = .ok (.getfield 64, 3) := by decide +kernel
theorem dX2_addTread_15 : decode cX2_addTread 15 = .ok (.istore_n 3, 1) := by decide +kernel
theorem dX2_addTread_16 : decode cX2_addTread 16 = .ok (.aload_n 0, 1) := by decide +kernel
theorem dX2_addTread_17 : decode cX2_addTread 17 = .ok (.getfield 54, 3) := by decide +kernel
theorem dX2_addTread_20 : decode cX2_addTread 20 = .ok (.iload_n 1, 1) := by decide +kernel
theorem dX2_addTread_21 : decode cX2_addTread 21 = .ok (.iaload, 1) := by decide +kernel
theorem dX2_addTread_22 : decode cX2_addTread 22 = .ok (.istore 4, 2) := by decide +kernel
theorem dX2_addTread_24 : decode cX2_addTread 24 = .ok (.aload_n 0, 1) := by decide +kernel
theorem dX2_addTread_25 : decode cX2_addTread 25 = .ok (.getfield 51, 3) := by decide +kernel
theorem dX2_addTread_28 : decode cX2_addTread 28 = .ok (.iload 4, 2) := by decide +kernel
theorem dX2_addTread_30 : decode cX2_addTread 30 = .ok (.iaload, 1) := by decide +kernel
theorem dX2_addTread_31 : decode cX2_addTread 31 = .ok (.istore 5, 2) := by decide +kernel
theorem dX2_addTread_33 : decode cX2_addTread 33 = .ok (.aload_n 0, 1) := by decide +kernel
theorem dX2_addTread_34 : decode cX2_addTread 34 = .ok (.getfield 9, 3) := by decide +kernel
theorem dX2_addTread_37 : decode cX2_addTread 37 = .ok (.iload_n 3, 1) := by decide +kernel
theorem dX2_addTread_38 : decode cX2_addTread 38 = .ok (.iload_n 1, 1) := by decide +kernel
theorem dX2_addTread_39 : decode cX2_addTread 39 = .ok (.iastore, 1) := by decide +kernel
theorem dX2_addTread_40 : decode cX2_addTread 40 = .ok (.aload_n 0, 1) := by decide +kernel
theorem dX2_addTread_41 : decode cX2_addTread 41 = .ok (.getfield 15, 3) := by decide +kernel
theorem dX2_addTread_44 : decode cX2_addTread 44 = .ok (.iload_n 3, 1) := by decide +kernel
theorem dX2_addTread_45 : decode cX2_addTread 45 = .ok (.iload 4, 2) := by decide +kernel
theorem dX2_addTread_47 : decode cX2_addTread 47 = .ok (.iastore, 1) := by decide +kernel
theorem dX2_addTread_48 : decode cX2_addTread 48 = .ok (.aload_n 0, 1) := by decide +kernel
theorem dX2_addTread_49 : decode cX2_addTread 49 = .ok (.getfield 18, 3) := by decide +kernel
theorem dX2_addTread_52 : decode cX2_addTread 52 = .ok (.iload_n 3, 1) := by decide +kernel
theorem dX2_addTread_53 : decode cX2_addTread 53 = .ok (.iload_n 2, 1) := by decide +kernel
theorem dX2_addTread_54 : decode cX2_addTread 54 = .ok (.iastore, 1) := by decide +kernel
theorem dX2_addTread_55 : decode cX2_addTread 55 = .ok (.aload_n 0, 1) := by decide +kernel
theorem dX2_addTread_56 : decode cX2_addTread 56 = .ok (.getfield 21, 3) := by decide +kernel
theorem dX2_addTread_59 : decode cX2_addTread 59 = .ok (.iload_n 3, 1) := by decide +kernel
theorem dX2_addTread_60 : decode cX2_addTread 60 = .ok (.aload_n 0, 1) := by decide +kernel
theorem dX2_addTread_61 : decode cX2_addTread 61 = .ok (.getfield 60, 3) := by decide +kernel
theorem dX2_addTread_64 : decode cX2_addTread 64 = .ok (.iload_n 1, 1) := by decide +kernel
theorem dX2_addTread_65 : decode cX2_addTread 65 = .ok (.iload_n 2, 1) := by decide +kernel
theorem dX2_addTread_66 : decode cX2_addTread 66 = .ok (.invokevirtual 136, 3) := by decide +kernel
theorem dX2_addTread_69 : decode cX2_addTread 69 = .ok (.iastore, 1) := by decide +kernel
theorem dX2_addTread_70 : decode cX2_addTread 70 = .ok (.aload_n 0, 1) := by decide +kernel
theorem dX2_addTread_71 : decode cX2_addTread 71 = .ok (.getfield 24, 3) := by decide +kernel
theorem dX2_addTread_74 : decode cX2_addTread 74 = .ok (.iload_n 3, 1) := by decide +kernel
theorem dX2_addTread_75 : decode cX2_addTread 75 = .ok (.aload_n 0, 1) := by decide +kernel
theorem dX2_addTread_76 : decode cX2_addTread 76 = .ok (.getfield 60, 3) := by decide +kernel
theorem dX2_addTread_79 : decode cX2_addTread 79 = .ok (.iload_n 1, 1) := by decide +kernel
theorem dX2_addTread_80 : decode cX2_addTread 80 = .ok (.iload 4, 2) := by decide +kernel
theorem dX2_addTread_82 : decode cX2_addTread 82 = .ok (.aload_n 0, 1) := by decide +kernel
theorem dX2_addTread_83 : decode cX2_addTread 83 = .ok (.getfield 21, 3) := by decide +kernel
theorem dX2_addTread_86 : decode cX2_addTread 86 = .ok (.iload_n 3, 1) := by decide +kernel
theorem dX2_addTread_87 : decode cX2_addTread 87 = .ok (.iaload, 1) := by decide +kernel
theorem dX2_addTread_88 : decode cX2_addTread 88 = .ok (.invokevirtual 139, 3) := by decide +kernel
theorem dX2_addTread_91 : decode cX2_addTread 91 = .ok (.iastore, 1) := by decide +kernel
theorem dX2_addTread_92 : decode cX2_addTread 92 = .ok (.aload_n 0, 1) := by decide +kernel
theorem dX2_addTread_93 : decode cX2_addTread 93 = .ok (.getfield 27, 3) := by decide +kernel
theorem dX2_addTread_96 : decode cX2_addTread 96 = .ok (.iload_n 3, 1) := by decide +kernel
theorem dX2_addTread_97 : decode cX2_addTread 97 = .ok (.iload 5, 2) := by decide +kernel
theorem dX2_addTread_99 : decode cX2_addTread 99 = .ok (.iconst (-1), 1) := by decide +kernel
theorem dX2_addTread_100 : decode cX2_addTread 100 = .ok (.if_icmp .eq 27, 3) := by decide +kernel
theorem dX2_addTread_103 : decode cX2_addTread 103 = .ok (.iload_n 2, 1) := by decide +kernel
theorem dX2_addTread_104 : decode cX2_addTread 104 = .ok (.aload_n 0, 1) := by decide +kernel
theorem dX2_addTread_105 : decode cX2_addTread 105 = .ok (.getfield 18, 3) := by decide +kernel
theorem dX2_addTread_108 : decode cX2_addTread 108 = .ok (.iload 5, 2) := by decide +kernel
theorem dX2_addTread_110 : decode cX2_addTread 110 = .ok (.iaload, 1) := by decide +kernel
theorem dX2_addTread_111 : decode cX2_addTread 111 = .ok (.isub, 1) := by decide +kernel
theorem dX2_addTread_112 : decode cX2_addTread 112 = .ok (.aload_n 0, 1) := by decide +kernel
theorem dX2_addTread_113 : decode cX2_addTread 113 = .ok (.getfield 60, 3) := by decide +kernel
theorem dX2_addTread_116 : decode cX2_addTread 116 = .ok (.getfield 142, 3) := by decide +kernel
theorem dX2_addTread_119 : decode cX2_addTread 119 = .ok (.if_icmp .gt 8, 3) := by decide +kernel
theorem dX2_addTread_122 : decode cX2_addTread 122 = .ok (.iload 5, 2) := by decide +kernel
theorem dX2_addTread_124 : decode cX2_addTread 124 = .ok (.goto 4, 3) := by decide +kernel
theorem dX2_addTread_127 : decode cX2_addTread 127 = .ok (.iconst (-1), 1) := by decide +kernel
theorem dX2_addTread_128 : decode cX2_addTread 128 = .ok (.iastore, 1) := by decide +kernel
theorem dX2_addTread_129 : decode cX2_addTread 129 = .ok (.aload_n 0, 1) := by decide +kernel
theorem dX2_addTread_130 : decode cX2_addTread 130 = .ok (.getfield 30, 3) := by decide +kernel
theorem dX2_addTread_133 : decode cX2_addTread 133 = .ok (.iload_n 3, 1) := by decide +kernel
theorem dX2_addTread_134 : decode cX2_addTread 134 = .ok (.aload_n 0, 1) := by decide +kernel
theorem dX2_addTread_135 : decode cX2_addTread 135 = .ok (.iload 4, 2) := by decide +kernel
theorem dX2_addTread_137 : decode cX2_addTread 137 = .ok (.aload_n 0, 1) := by decide +kernel
theorem dX2_addTread_138 : decode cX2_addTread 138 = .ok (.getfield 24, 3) := by decide +kernel
theorem dX2_addTread_141 : decode cX2_addTread 141 = .ok (.iload_n 3, 1) := by decide +kernel
theorem dX2_addTread_142 : decode cX2_addTread 142 = .ok (.iaload, 1) := by decide +kernel
theorem dX2_addTread_143 : decode cX2_addTread 143 = .ok (.invokevirtual 145, 3) := by decide +kernel
theorem dX2_addTread_146 : decode cX2_addTread 146 = .ok (.iastore, 1) := by decide +kernel
theorem dX2_addTread_147 : decode cX2_addTread 147 = .ok (.aload_n 0, 1) := by decide +kernel
theorem dX2_addTread_148 : decode cX2_addTread 148 = .ok (.getfield 33, 3) := by decide +kernel
theorem dX2_addTread_151 : decode cX2_addTread 151 = .ok (.iload_n 3, 1) := by decide +kernel
theorem dX2_addTread_152 : decode cX2_addTread 152 = .ok (.aload_n 0, 1) := by decide +kernel
theorem dX2_addTread_153 : decode cX2_addTread 153 = .ok (.getfield 27, 3) := by decide +kernel
theorem dX2_addTread_156 : decode cX2_addTread 156 = .ok (.iload_n 3, 1) := by decide +kernel
theorem dX2_addTread_157 : decode cX2_addTread 157 = .ok (.iaload, 1) := by decide +kernel
theorem dX2_addTread_158 : decode cX2_addTread 158 = .ok (.iconst (-1), 1) := by decide +kernel
theorem dX2_addTread_159 : decode cX2_addTread 159 = .ok (.if_icmp .ne 7, 3) := by decide +kernel
theorem dX2_addTread_162 : decode cX2_addTread 162 = .ok (.iconst 0, 1) := by decide +kernel
theorem dX2_addTread_163 : decode cX2_addTread 163 = .ok (.goto 18, 3) := by decide +kernel
theorem dX2_addTread_166 : decode cX2_addTread 166 = .ok (.aload_n 0, 1) := by decide +kernel
theorem dX2_addTread_167 : decode cX2_addTread 167 = .ok (.iload 4, 2) := by decide +kernel
theorem dX2_addTread_169 : decode cX2_addTread 169 = .ok (.aload_n 0, 1) := by decide +kernel
theorem dX2_addTread_170 : decode cX2_addTread 170 = .ok (.getfield 24, 3) := by decide +kernel
theorem dX2_addTread_173 : decode cX2_addTread 173 = .ok (.iload 5, 2) := by decide +kernel
theorem dX2_addTread_175 : decode cX2_addTread 175 = .ok (.iaload, 1) := by decide +kernel
theorem dX2_addTread_176 : decode cX2_addTread 176 = .ok (.iconst 2, 1) := by decide +kernel
theorem dX2_addTread_177 : decode cX2_addTread 177 = .ok (.idiv, 1) := by decide +kernel
theorem dX2_addTread_178 : decode cX2_addTread 178 = .ok (.invokevirtual 145, 3) := by decide +kernel
theorem dX2_addTread_181 : decode cX2_addTread 181 = .ok (.iastore, 1) := by decide +kernel
theorem dX2_addTread_182 : decode cX2_addTread 182 = .ok (.aload_n 0, 1) := by decide +kernel
theorem dX2_addTread_183 : decode cX2_addTread 183 = .ok (.getfield 36, 3) := by decide +kernel
theorem dX2_addTread_186 : decode cX2_addTread 186 = .ok (.iload_n 3, 1) := by decide +kernel
theorem dX2_addTread_187 : decode cX2_addTread 187 = .ok (.aload_n 0, 1) := by decide +kernel
theorem dX2_addTread_188 : decode cX2_addTread 188 = .ok (.getfield 27, 3) := by decide +kernel
theorem dX2_addTread_191 : decode cX2_addTread 191 = .ok (.iload_n 3, 1) := by decide +kernel
theorem dX2_addTread_192 : decode cX2_addTread 192 = .ok (.iaload, 1) := by decide +kernel
theorem dX2_addTread_193 : decode cX2_addTread 193 = .ok (.iconst (-1), 1) := by decide +kernel
theorem dX2_addTread_194 : decode cX2_addTread 194 = .ok (.if_icmp .ne 7, 3) := by decide +kernel
theorem dX2_addTread_197 : decode cX2_addTread 197 = .ok (.iconst 1, 1) := by decide +kernel
theorem dX2_addTread_198 : decode cX2_addTread 198 = .ok (.goto 12, 3) := by decide +kernel
theorem dX2_addTread_201 : decode cX2_addTread 201 = .ok (.aload_n 0, 1) := by decide +kernel
theorem dX2_addTread_202 : decode cX2_addTread 202 = .ok (.getfield 36, 3) := by decide +kernel
theorem dX2_addTread_205 : decode cX2_addTread 205 = .ok (.iload 5, 2) := by decide +kernel
theorem dX2_addTread_207 : decode cX2_addTread 207 = .ok (.iaload, 1) := by decide +kernel
theorem dX2_addTread_208 : decode cX2_addTread 208 = .ok (.iconst 1, 1) := by decide +kernel
theorem dX2_addTread_209 : decode cX2_addTread 209 = .ok (.iadd, 1) := by decide +kernel
theorem dX2_addTread_210 : decode cX2_addTread 210 = .ok (.iastore, 1) := by decide +kernel
theorem dX2_addTread_211 : decode cX2_addTread 211 = .ok (.aload_n 0, 1) := by decide +kernel
theorem dX2_addTread_212 : decode cX2_addTread 212 = .ok (.getfield 51, 3) := by decide +kernel
theorem dX2_addTread_215 : decode cX2_addTread 215 = .ok (.iload 4, 2) := by decide +kernel
theorem dX2_addTread_217 : decode cX2_addTread 217 = .ok (.iload_n 3, 1) := by decide +kernel
theorem dX2_addTread_218 : decode cX2_addTread 218 = .ok (.iastore, 1) := by decide +kernel
theorem dX2_addTread_219 : decode cX2_addTread 219 = .ok (.aload_n 0, 1) := by decide +kernel
theorem dX2_addTread_220 : decode cX2_addTread 220 = .ok (.getfield 39, 3) := by decide +kernel
theorem dX2_addTread_223 : decode cX2_addTread 223 = .ok (.iload_n 1, 1) := by decide +kernel
theorem dX2_addTread_224 : decode cX2_addTread 224 = .ok (.iload_n 2, 1) := by decide +kernel
theorem dX2_addTread_225 : decode cX2_addTread 225 = .ok (.iastore, 1) := by decide +kernel
theorem dX2_addTread_226 : decode cX2_addTread 226 = .ok (.aload_n 0, 1) := by decide +kernel
theorem dX2_addTread_227 : decode cX2_addTread 227 = .ok (.dup, 1) := by decide +kernel
theorem dX2_addTread_228 : decode cX2_addTread 228 = .ok (.getfield 64, 3) := by decide +kernel
theorem dX2_addTread_231 : decode cX2_addTread 231 = .ok (.iconst 1, 1) := by decide +kernel
theorem dX2_addTread_232 : decode cX2_addTread 232 = .ok (.iadd, 1) := by decide +kernel
theorem dX2_addTread_233 : decode cX2_addTread 233 = .ok (.putfield 64, 3) := by decide +kernel
theorem dX2_addTread_236 : decode cX2_addTread 236 = .ok (.return_, 1) := by decide +kernel
def w_X2_addTread_210 (o : Nat) (oh : Nat) (a1 : Int32) (a2 : Int32) (post : mI → Prop) (I : mI) (v3 : Int32) (v4 : Int32) (s1 : Int32) (s2 : Int32) : Prop := vp_in s1 600 ∧ ∀ I16, I16 = up2 I (o + 9) s1.toNatClampNeg s2 → vp_in v4 24 ∧ ∀ I17, I17 = up2 I16 (o + 14) v4.toNatClampNeg v3 → vp_in a1 6 ∧ ∀ I18, I18 = up2 I17 (o + 10) a1.toNatClampNeg a2 → ∀ I19, I19 = up2 I18 o 2 ((I18 o 2) + 1) → post I19
set_option maxRecDepth 100000 in
set_option maxHeartbeats 4000000 in
theorem s_X2_addTread_210 {p : Program} {l : Launch} {e : Env} {s : State} {m : MethodId} {args : Array Value} {below : List Frame} {meth : Method} {c : Code} {D : va_G} {cA : Nat → ClassId} {Z : mZ} {bs : Ad} {n : Nat} {K : mK} {R : mR} {L : mL} (E : Ev p s m args c cX2_addTread 6 RX2 D cA Z bs) (hr : meth.sig.returnType = none) (hlk : meth.locks = false) {o : Nat} {oh : Nat} {a1 : Int32} {a2 : Int32} (ho : isX2 K R o oh) {post : mI → Prop} {I : mI} {v3 : Int32} {v4 : Int32} {s1 : Int32} {s2 : Int32} {H : Heap} {locs : List Loc} {ls : Array Slot} (hw : w_X2_addTread_210 o oh a1 a2 post I v3 v4 s1 s2) (hM : mm D cA bs (n, K, R, I, L) H) (hS : va_S (Ab bs) s.heap H locs) (hl : lv_has ls 6 [(0, .ref (ad bs o)), (1, .int a1), (2, .int a2), (3, .int v3), (4, .int v4)]) : W p l e ({ frames := 2, cells := 0, slots := 0, locals := 63 } : Room) s m args below meth c H locs 0 0 (MQ below (QV D cA bs (fun u => ∃ I', u = (n, K, R, I', L) ∧ post I')) args s 0 0 (Ab bs)) (F0 m 210 ls [.int s2, .int s1, .ref (ad bs (o + 9))]) := by
  have hx := E.1.1
  have hb := E.1.2.1
  obtain ⟨hv, hw⟩ := hw
  refine m_iast E hM hS (isO_at ho.1 8 rfl).2 hv dX2_addTread_210 (fun I16 H locs eI16 hM hS => ?_)
  have hw := hw I16 eI16
  refine lv_aload_n hx hb dX2_addTread_211 rfl (lv_at hl 0 rfl) ?_
  refine m_getr E hM fs_X2_51 ho.1.1 (isO_at ho.1 13 rfl).1 dX2_addTread_212 ?_
  refine lv_iload hx hb dX2_addTread_215 (lv_at hl 4 rfl) ?_
  refine lv_iload_n hx hb dX2_addTread_217 rfl (lv_at hl 3 rfl) ?_
  obtain ⟨hv, hw⟩ := hw
  refine m_iast E hM hS (isO_at ho.1 13 rfl).2 hv dX2_addTread_218 (fun I17 H locs eI17 hM hS => ?_)
  have hw := hw I17 eI17
  refine lv_aload_n hx hb dX2_addTread_219 rfl (lv_at hl 0 rfl) ?_
  refine m_getr E hM fs_X2_39 ho.1.1 (isO_at ho.1 9 rfl).1 dX2_addTread_220 ?_
  refine lv_iload_n hx hb dX2_addTread_223 rfl (lv_at hl 1 rfl) ?_
  refine lv_iload_n hx hb dX2_addTread_224 rfl (lv_at hl 2 rfl) ?_
  obtain ⟨hv, hw⟩ := hw
  refine m_iast E hM hS (isO_at ho.1 9 rfl).2 hv dX2_addTread_225 (fun I18 H locs eI18 hM hS => ?_)
  have hw := hw I18 eI18
  refine lv_aload_n hx hb dX2_addTread_226 rfl (lv_at hl 0 rfl) ?_
  refine lv_dup hx hb dX2_addTread_227 rfl ?_
  refine m_geti E hM fs_X2_64 ho.1.1 dX2_addTread_228 ?_
  refine lv_iconst (v := 1) hx hb dX2_addTread_231 (by decide) ?_
  refine lv_iadd hx hb dX2_addTread_232 ?_
  refine m_puti E hM hS fp_X2_64 ho.1.1 rfl rfl dX2_addTread_233 (fun I19 H locs eI19 hM hS => ?_)
  have hw := hw I19 eI19
  exact m_retv hx hb hr hlk hM hS ⟨_, rfl, hw⟩ dX2_addTread_236
def w_X2_addTread_181 (o : Nat) (oh : Nat) (a1 : Int32) (a2 : Int32) (post : mI → Prop) (I : mI) (v3 : Int32) (v4 : Int32) (v5 : Int32) (s1 : Int32) (s2 : Int32) : Prop := vp_in s1 600 ∧ ∀ I15, I15 = up2 I (o + 8) s1.toNatClampNeg s2 → vp_in v3 600 ∧ (¬ (I15 (o + 6) v3.toNatClampNeg) = (-1) → vp_in v5 600 ∧ (w_X2_addTread_210 o oh a1 a2 post) I15 v3 v4 v3 ((I15 (o + 9) v5.toNatClampNeg) + 1)) ∧ ((I15 (o + 6) v3.toNatClampNeg) = (-1) → (w_X2_addTread_210 o oh a1 a2 post) I15 v3 v4 v3 1)
set_option maxRecDepth 100000 in
set_option maxHeartbeats 4000000 in
theorem s_X2_addTread_181 {p : Program} {l : Launch} {e : Env} {s : State} {m : MethodId} {args : Array Value} {below : List Frame} {meth : Method} {c : Code} {D : va_G} {cA : Nat → ClassId} {Z : mZ} {bs : Ad} {n : Nat} {K : mK} {R : mR} {L : mL} (E : Ev p s m args c cX2_addTread 6 RX2 D cA Z bs) (hr : meth.sig.returnType = none) (hlk : meth.locks = false) {o : Nat} {oh : Nat} {a1 : Int32} {a2 : Int32} (ho : isX2 K R o oh) {post : mI → Prop} {I : mI} {v3 : Int32} {v4 : Int32} {v5 : Int32} {s1 : Int32} {s2 : Int32} {H : Heap} {locs : List Loc} {ls : Array Slot} (hw : w_X2_addTread_181 o oh a1 a2 post I v3 v4 v5 s1 s2) (hM : mm D cA bs (n, K, R, I, L) H) (hS : va_S (Ab bs) s.heap H locs) (hl : lv_has ls 6 [(0, .ref (ad bs o)), (1, .int a1), (2, .int a2), (3, .int v3), (4, .int v4), (5, .int v5)]) : W p l e ({ frames := 2, cells := 0, slots := 0, locals := 63 } : Room) s m args below meth c H locs 0 0 (MQ below (QV D cA bs (fun u => ∃ I', u = (n, K, R, I', L) ∧ post I')) args s 0 0 (Ab bs)) (F0 m 181 ls [.int s2, .int s1, .ref (ad bs (o + 8))]) := by
  have hx := E.1.1
  have hb := E.1.2.1
  obtain ⟨hv, hw⟩ := hw
  refine m_iast E hM hS (isO_at ho.1 7 rfl).2 hv dX2_addTread_181 (fun I15 H locs eI15 hM hS => ?_)
  have hw := hw I15 eI15
  refine lv_aload_n hx hb dX2_addTread_182 rfl (lv_at hl 0 rfl) ?_
  refine m_getr E hM fs_X2_36 ho.1.1 (isO_at ho.1 8 rfl).1 dX2_addTread_183 ?_
  refine lv_iload_n hx hb dX2_addTread_186 rfl (lv_at hl 3 rfl) ?_
  refine lv_aload_n hx hb dX2_addTread_187 rfl (lv_at hl 0 rfl) ?_
  refine m_getr E hM fs_X2_27 ho.1.1 (isO_at ho.1 5 rfl).1 dX2_addTread_188 ?_
  refine lv_iload_n hx hb dX2_addTread_191 rfl (lv_at hl 3 rfl) ?_
  obtain ⟨hv, hw⟩ := hw
  refine m_iald E hM (isO_at ho.1 5 rfl).2 hv dX2_addTread_192 ?_
  refine lv_iconst (v := (-1)) hx hb dX2_addTread_193 (by decide) ?_
  refine lv_icmp_ne (tgt := 201) hx hb dX2_addTread_194 (by decide) (fun cq => ?_) (fun cq => ?_)
  · have hw := hw.1 cq
    refine lv_aload_n hx hb dX2_addTread_201 rfl (lv_at hl 0 rfl) ?_
    refine m_getr E hM fs_X2_36 ho.1.1 (isO_at ho.1 8 rfl).1 dX2_addTread_202 ?_
    refine lv_iload hx hb dX2_addTread_205 (lv_at hl 5 rfl) ?_
    obtain ⟨hv, hw⟩ := hw
    refine m_iald E hM (isO_at ho.1 8 rfl).2 hv dX2_addTread_207 ?_
    refine lv_iconst (v := 1) hx hb dX2_addTread_208 (by decide) ?_
    refine lv_iadd hx hb dX2_addTread_209 ?_
    exact s_X2_addTread_210 E hr hlk ho  hw hM hS (lv_sub hl [0, 1, 2, 3, 4] rfl)
  · have hw := hw.2 cq
    refine lv_iconst (v := 1) hx hb dX2_addTread_197 (by decide) ?_
    refine lv_goto (tgt := 210) hx hb dX2_addTread_198 (by decide) ?_
    exact s_X2_addTread_210 E hr hlk ho  hw hM hS (lv_sub hl [0, 1, 2, 3, 4] rfl)
def w_X2_addTread_128 (o : Nat) (oh : Nat) (a1 : Int32) (a2 : Int32) (post : mI → Prop) (I : mI) (v3 : Int32) (v4 : Int32) (v5 : Int32) (s1 : Int32) (s2 : Int32) : Prop := vp_in s1 600 ∧ ∀ I11, I11 = up2 I (o + 6) s1.toNatClampNeg s2 → vp_in v3 600 ∧ w_X2_hearers I11 o oh v4 (I11 (o + 5) v3.toNatClampNeg) (fun r12 => vp_in v3 600 ∧ ∀ I13, I13 = up2 I11 (o + 7) v3.toNatClampNeg r12 → vp_in v3 600 ∧ (¬ (I13 (o + 6) v3.toNatClampNeg) = (-1) → vp_in v5 600 ∧ w_X2_hearers I13 o oh v4 ((I13 (o + 5) v5.toNatClampNeg) / 2) (fun r14 => (w_X2_addTread_181 o oh a1 a2 post) I13 v3 v4 v5 v3 r14)) ∧ ((I13 (o + 6) v3.toNatClampNeg) = (-1) → (w_X2_addTread_181 o oh a1 a2 post) I13 v3 v4 v5 v3 0))
set_option maxRecDepth 100000 in
set_option maxHeartbeats 4000000 in
theorem s_X2_addTread_128 {p : Program} {l : Launch} {e : Env} {s : State} {m : MethodId} {args : Array Value} {below : List Frame} {meth : Method} {c : Code} {D : va_G} {cA : Nat → ClassId} {Z : mZ} {bs : Ad} {n : Nat} {K : mK} {R : mR} {L : mL} (E : Ev p s m args c cX2_addTread 6 RX2 D cA Z bs) (hr : meth.sig.returnType = none) (hlk : meth.locks = false) {o : Nat} {oh : Nat} {a1 : Int32} {a2 : Int32} (ho : isX2 K R o oh) {post : mI → Prop} {I : mI} {v3 : Int32} {v4 : Int32} {v5 : Int32} {s1 : Int32} {s2 : Int32} {H : Heap} {locs : List Loc} {ls : Array Slot} (hw : w_X2_addTread_128 o oh a1 a2 post I v3 v4 v5 s1 s2) (hM : mm D cA bs (n, K, R, I, L) H) (hS : va_S (Ab bs) s.heap H locs) (hl : lv_has ls 6 [(0, .ref (ad bs o)), (1, .int a1), (2, .int a2), (3, .int v3), (4, .int v4), (5, .int v5)]) : W p l e ({ frames := 2, cells := 0, slots := 0, locals := 63 } : Room) s m args below meth c H locs 0 0 (MQ below (QV D cA bs (fun u => ∃ I', u = (n, K, R, I', L) ∧ post I')) args s 0 0 (Ab bs)) (F0 m 128 ls [.int s2, .int s1, .ref (ad bs (o + 6))]) := by
  have hx := E.1.1
  have hb := E.1.2.1
  obtain ⟨hv, hw⟩ := hw
  refine m_iast E hM hS (isO_at ho.1 5 rfl).2 hv dX2_addTread_128 (fun I11 H locs eI11 hM hS => ?_)
  have hw := hw I11 eI11
  refine lv_aload_n hx hb dX2_addTread_129 rfl (lv_at hl 0 rfl) ?_
  refine m_getr E hM fs_X2_30 ho.1.1 (isO_at ho.1 6 rfl).1 dX2_addTread_130 ?_
  refine lv_iload_n hx hb dX2_addTread_133 rfl (lv_at hl 3 rfl) ?_
  refine lv_aload_n hx hb dX2_addTread_134 rfl (lv_at hl 0 rfl) ?_
  refine lv_iload hx hb dX2_addTread_135 (lv_at hl 4 rfl) ?_
  refine lv_aload_n hx hb dX2_addTread_137 rfl (lv_at hl 0 rfl) ?_
  refine m_getr E hM fs_X2_24 ho.1.1 (isO_at ho.1 4 rfl).1 dX2_addTread_138 ?_
  refine lv_iload_n hx hb dX2_addTread_141 rfl (lv_at hl 3 rfl) ?_
  obtain ⟨hv, hw⟩ := hw
  refine m_iald E hM (isO_at ho.1 4 rfl).2 hv dX2_addTread_142 ?_
  refine m_ci (m_runV E hM hS cs_X2_145 ho.1.1 (by decide) rfl rfl (c_X2_hearers ho hw) rfl rfl ⟨Nat.le_of_ble_eq_true rfl, Nat.le_of_ble_eq_true rfl⟩ rfl hl.1 rfl (Nat.le_of_ble_eq_true rfl) dX2_addTread_143 ⟨Nat.le_of_ble_eq_true rfl, Nat.le_of_ble_eq_true rfl⟩) hS (fun r12 u H locs hp hM hS => ?_)
  obtain ⟨rfl, hw⟩ := hp
  obtain ⟨hv, hw⟩ := hw
  refine m_iast E hM hS (isO_at ho.1 6 rfl).2 hv dX2_addTread_146 (fun I13 H locs eI13 hM hS => ?_)
  have hw := hw I13 eI13
  refine lv_aload_n hx hb dX2_addTread_147 rfl (lv_at hl 0 rfl) ?_
  refine m_getr E hM fs_X2_33 ho.1.1 (isO_at ho.1 7 rfl).1 dX2_addTread_148 ?_
  refine lv_iload_n hx hb dX2_addTread_151 rfl (lv_at hl 3 rfl) ?_
  refine lv_aload_n hx hb dX2_addTread_152 rfl (lv_at hl 0 rfl) ?_
  refine m_getr E hM fs_X2_27 ho.1.1 (isO_at ho.1 5 rfl).1 dX2_addTread_153 ?_
  refine lv_iload_n hx hb dX2_addTread_156 rfl (lv_at hl 3 rfl) ?_
  obtain ⟨hv, hw⟩ := hw
  refine m_iald E hM (isO_at ho.1 5 rfl).2 hv dX2_addTread_157 ?_
  refine lv_iconst (v := (-1)) hx hb dX2_addTread_158 (by decide) ?_
  refine lv_icmp_ne (tgt := 166) hx hb dX2_addTread_159 (by decide) (fun cq => ?_) (fun cq => ?_)
  · have hw := hw.1 cq
    refine lv_aload_n hx hb dX2_addTread_166 rfl (lv_at hl 0 rfl) ?_
    refine lv_iload hx hb dX2_addTread_167 (lv_at hl 4 rfl) ?_
    refine lv_aload_n hx hb dX2_addTread_169 rfl (lv_at hl 0 rfl) ?_
    refine m_getr E hM fs_X2_24 ho.1.1 (isO_at ho.1 4 rfl).1 dX2_addTread_170 ?_
    refine lv_iload hx hb dX2_addTread_173 (lv_at hl 5 rfl) ?_
    obtain ⟨hv, hw⟩ := hw
    refine m_iald E hM (isO_at ho.1 4 rfl).2 hv dX2_addTread_175 ?_
    refine lv_iconst (v := 2) hx hb dX2_addTread_176 (by decide) ?_
    refine lv_idiv hx hb dX2_addTread_177 (by decide) ?_
    refine m_ci (m_runV E hM hS cs_X2_145 ho.1.1 (by decide) rfl rfl (c_X2_hearers ho hw) rfl rfl ⟨Nat.le_of_ble_eq_true rfl, Nat.le_of_ble_eq_true rfl⟩ rfl hl.1 rfl (Nat.le_of_ble_eq_true rfl) dX2_addTread_178 ⟨Nat.le_of_ble_eq_true rfl, Nat.le_of_ble_eq_true rfl⟩) hS (fun r14 u H locs hp hM hS => ?_)
    obtain ⟨rfl, hw⟩ := hp
    exact s_X2_addTread_181 E hr hlk ho  hw hM hS (lv_sub hl [0, 1, 2, 3, 4, 5] rfl)
  · have hw := hw.2 cq
    refine lv_iconst (v := 0) hx hb dX2_addTread_162 (by decide) ?_
    refine lv_goto (tgt := 181) hx hb dX2_addTread_163 (by decide) ?_
    exact s_X2_addTread_181 E hr hlk ho  hw hM hS (lv_sub hl [0, 1, 2, 3, 4, 5] rfl)
def w_X2_addTread_127 (o : Nat) (oh : Nat) (a1 : Int32) (a2 : Int32) (post : mI → Prop) (I : mI) (v3 : Int32) (v4 : Int32) (v5 : Int32) (s1 : Int32) : Prop := (w_X2_addTread_128 o oh a1 a2 post) I v3 v4 v5 s1 (-1)
set_option maxRecDepth 100000 in
set_option maxHeartbeats 4000000 in
theorem s_X2_addTread_127 {p : Program} {l : Launch} {e : Env} {s : State} {m : MethodId} {args : Array Value} {below : List Frame} {meth : Method} {c : Code} {D : va_G} {cA : Nat → ClassId} {Z : mZ} {bs : Ad} {n : Nat} {K : mK} {R : mR} {L : mL} (E : Ev p s m args c cX2_addTread 6 RX2 D cA Z bs) (hr : meth.sig.returnType = none) (hlk : meth.locks = false) {o : Nat} {oh : Nat} {a1 : Int32} {a2 : Int32} (ho : isX2 K R o oh) {post : mI → Prop} {I : mI} {v3 : Int32} {v4 : Int32} {v5 : Int32} {s1 : Int32} {H : Heap} {locs : List Loc} {ls : Array Slot} (hw : w_X2_addTread_127 o oh a1 a2 post I v3 v4 v5 s1) (hM : mm D cA bs (n, K, R, I, L) H) (hS : va_S (Ab bs) s.heap H locs) (hl : lv_has ls 6 [(0, .ref (ad bs o)), (1, .int a1), (2, .int a2), (3, .int v3), (4, .int v4), (5, .int v5)]) : W p l e ({ frames := 2, cells := 0, slots := 0, locals := 63 } : Room) s m args below meth c H locs 0 0 (MQ below (QV D cA bs (fun u => ∃ I', u = (n, K, R, I', L) ∧ post I')) args s 0 0 (Ab bs)) (F0 m 127 ls [.int s1, .ref (ad bs (o + 6))]) := by
  have hx := E.1.1
  have hb := E.1.2.1
  refine lv_iconst (v := (-1)) hx hb dX2_addTread_127 (by decide) ?_
  exact s_X2_addTread_128 E hr hlk ho  hw hM hS (lv_sub hl [0, 1, 2, 3, 4, 5] rfl)
def w_X2_addTread (I : mI) (o : Nat) (oh : Nat) (a1 : Int32) (a2 : Int32) (post : mI → Prop) : Prop := ((I o 2) < 600 → ∀ x1, x1 = (I o 2) → vp_in a1 6 ∧ ∀ x2, x2 = (I (o + 15) a1.toNatClampNeg) → vp_in x2 24 ∧ ∀ x3, x3 = (I (o + 14) x2.toNatClampNeg) → vp_in x1 600 ∧ ∀ I4, I4 = up2 I (o + 1) x1.toNatClampNeg a1 → vp_in x1 600 ∧ ∀ I5, I5 = up2 I4 (o + 2) x1.toNatClampNeg x2 → vp_in x1 600 ∧ ∀ I6, I6 = up2 I5 (o + 3) x1.toNatClampNeg a2 → w_X3_shoeAt I6 oh a1 a2 (fun r7 => vp_in x1 600 ∧ ∀ I8, I8 = up2 I6 (o + 4) x1.toNatClampNeg r7 → vp_in x1 600 ∧ w_X3_loudOf I8 oh a1 x2 (I8 (o + 4) x1.toNatClampNeg) (fun r9 => vp_in x1 600 ∧ ∀ I10, I10 = up2 I8 (o + 5) x1.toNatClampNeg r9 → (x3 = (-1) → (w_X2_addTread_127 o oh a1 a2 post) I10 x1 x2 x3 x1) ∧ (¬ x3 = (-1) → vp_in x3 600 ∧ ((I10 oh 1) < (a2 - (I10 (o + 3) x3.toNatClampNeg)) → (w_X2_addTread_127 o oh a1 a2 post) I10 x1 x2 x3 x1) ∧ (¬ (I10 oh 1) < (a2 - (I10 (o + 3) x3.toNatClampNeg)) → (w_X2_addTread_128 o oh a1 a2 post) I10 x1 x2 x3 x1 x3))))) ∧ (¬ (I o 2) < 600 → post I)
set_option maxRecDepth 100000 in
set_option maxHeartbeats 4000000 in
theorem c_X2_addTread {l : Launch} {D : va_G} {cA : Nat → ClassId} {Z : mZ} {bs : Ad} {n : Nat} {K : mK} {R : mR} {I : mI} {L : mL} {o : Nat} {oh : Nat} {a1 : Int32} {a2 : Int32} {post : mI → Prop} (ho : isX2 K R o oh) (hw : w_X2_addTread I o oh a1 a2 post) : Met l yX2_addTread (.code yX2_addTread cX2_addTread 6 none :: gw) ({ frames := 2, cells := 0, slots := 0, locals := 63 } : Room) (PreM D cA Z bs (n, K, R, I, L) [.ref (ad bs o), .int a1, .int a2]) (QV D cA bs (fun u => ∃ I', u = (n, K, R, I', L) ∧ post I')) 0 0 (Ab bs) := by
  refine m_met (by decide) (Nat.le_of_ble_eq_true rfl) (fun p e s m below meth c ls E hr hlk hM hS hl => ?_)
  have E : Ev p s m _ c cX2_addTread 6 RX2 D cA Z bs := E
  have hl : lv_has ls 6 [(0, .ref (ad bs o)), (1, .int a1), (2, .int a2)] := hl
  have hx := E.1.1
  have hb := E.1.2.1
  generalize hHe : s.heap = H at hM ⊢
  have hS : va_S (Ab bs) s.heap H [] := by rw [← hHe]; exact va_S.rf
  clear hHe
  refine lv_aload_n hx hb dX2_addTread_0 rfl (lv_at hl 0 rfl) ?_
  refine m_geti E hM fs_X2_64 ho.1.1 dX2_addTread_1 ?_
  refine lv_sipush (v := 600) hx hb dX2_addTread_4 (by decide) ?_
  refine lv_icmp_lt (tgt := 11) hx hb dX2_addTread_7 (by decide) (fun cq => ?_) (fun cq => ?_)
  · have hw := hw.1 cq
    refine lv_aload_n hx hb dX2_addTread_11 rfl (lv_at hl 0 rfl) ?_
    refine m_geti E hM fs_X2_64 ho.1.1 dX2_addTread_12 ?_
    refine lv_topi (fun x1 ex1 => ?_)
    have hw := hw x1 ex1
    refine lv_istore_n (lv' := [(3, .int x1), (0, .ref (ad bs o)), (1, .int a1), (2, .int a2)]) hx hb dX2_addTread_15 rfl hl (by decide) rfl (fun ls hl => ?_)
    refine lv_aload_n hx hb dX2_addTread_16 rfl (lv_at hl 1 rfl) ?_
    refine m_getr E hM fs_X2_54 ho.1.1 (isO_at ho.1 14 rfl).1 dX2_addTread_17 ?_
    refine lv_iload_n hx hb dX2_addTread_20 rfl (lv_at hl 2 rfl) ?_
    obtain ⟨hv, hw⟩ := hw
    refine m_iald E hM (isO_at ho.1 14 rfl).2 hv dX2_addTread_21 ?_
    refine lv_topi (fun x2 ex2 => ?_)
    have hw := hw x2 ex2
    refine lv_istore (lv' := [(4, .int x2), (3, .int x1), (0, .ref (ad bs o)), (1, .int a1), (2, .int a2)]) hx hb dX2_addTread_22 hl (by decide) rfl (fun ls hl => ?_)
    refine lv_aload_n hx hb dX2_addTread_24 rfl (lv_at hl 2 rfl) ?_
    refine m_getr E hM fs_X2_51 ho.1.1 (isO_at ho.1 13 rfl).1 dX2_addTread_25 ?_
    refine lv_iload hx hb dX2_addTread_28 (lv_at hl 0 rfl) ?_
    obtain ⟨hv, hw⟩ := hw
    refine m_iald E hM (isO_at ho.1 13 rfl).2 hv dX2_addTread_30 ?_
    refine lv_topi (fun x3 ex3 => ?_)
    have hw := hw x3 ex3
    refine lv_istore (lv' := [(5, .int x3), (4, .int x2), (3, .int x1), (0, .ref (ad bs o)), (1, .int a1), (2, .int a2)]) hx hb dX2_addTread_31 hl (by decide) rfl (fun ls hl => ?_)
    refine lv_aload_n hx hb dX2_addTread_33 rfl (lv_at hl 3 rfl) ?_
    refine m_getr E hM fs_X2_9 ho.1.1 (isO_at ho.1 0 rfl).1 dX2_addTread_34 ?_
    refine lv_iload_n hx hb dX2_addTread_37 rfl (lv_at hl 2 rfl) ?_
    refine lv_iload_n hx hb dX2_addTread_38 rfl (lv_at hl 4 rfl) ?_
    obtain ⟨hv, hw⟩ := hw
    refine m_iast E hM hS (isO_at ho.1 0 rfl).2 hv dX2_addTread_39 (fun I4 H locs eI4 hM hS => ?_)
    have hw := hw I4 eI4
    refine lv_aload_n hx hb dX2_addTread_40 rfl (lv_at hl 3 rfl) ?_
    refine m_getr E hM fs_X2_15 ho.1.1 (isO_at ho.1 1 rfl).1 dX2_addTread_41 ?_
    refine lv_iload_n hx hb dX2_addTread_44 rfl (lv_at hl 2 rfl) ?_
    refine lv_iload hx hb dX2_addTread_45 (lv_at hl 1 rfl) ?_
    obtain ⟨hv, hw⟩ := hw
    refine m_iast E hM hS (isO_at ho.1 1 rfl).2 hv dX2_addTread_47 (fun I5 H locs eI5 hM hS => ?_)
    have hw := hw I5 eI5
    refine lv_aload_n hx hb dX2_addTread_48 rfl (lv_at hl 3 rfl) ?_
    refine m_getr E hM fs_X2_18 ho.1.1 (isO_at ho.1 2 rfl).1 dX2_addTread_49 ?_
    refine lv_iload_n hx hb dX2_addTread_52 rfl (lv_at hl 2 rfl) ?_
    refine lv_iload_n hx hb dX2_addTread_53 rfl (lv_at hl 5 rfl) ?_
    obtain ⟨hv, hw⟩ := hw
    refine m_iast E hM hS (isO_at ho.1 2 rfl).2 hv dX2_addTread_54 (fun I6 H locs eI6 hM hS => ?_)
    have hw := hw I6 eI6
    refine lv_aload_n hx hb dX2_addTread_55 rfl (lv_at hl 3 rfl) ?_
    refine m_getr E hM fs_X2_21 ho.1.1 (isO_at ho.1 3 rfl).1 dX2_addTread_56 ?_
    refine lv_iload_n hx hb dX2_addTread_59 rfl (lv_at hl 2 rfl) ?_
    refine lv_aload_n hx hb dX2_addTread_60 rfl (lv_at hl 3 rfl) ?_
    refine m_getr E hM fs_X2_60 ho.1.1 ho.2.1 dX2_addTread_61 ?_
    refine lv_iload_n hx hb dX2_addTread_64 rfl (lv_at hl 4 rfl) ?_
    refine lv_iload_n hx hb dX2_addTread_65 rfl (lv_at hl 5 rfl) ?_
    refine m_ci (m_runV E hM hS cs_X2_136 ho.2.2.1 (by decide) rfl rfl (c_X3_shoeAt ho.2.2 hw) rfl rfl ⟨Nat.le_of_ble_eq_true rfl, Nat.le_of_ble_eq_true rfl⟩ rfl hl.1 rfl (Nat.le_of_ble_eq_true rfl) dX2_addTread_66 ⟨Nat.le_of_ble_eq_true rfl, Nat.le_of_ble_eq_true rfl⟩) hS (fun r7 u H locs hp hM hS => ?_)
    obtain ⟨rfl, hw⟩ := hp
    obtain ⟨hv, hw⟩ := hw
    refine m_iast E hM hS (isO_at ho.1 3 rfl).2 hv dX2_addTread_69 (fun I8 H locs eI8 hM hS => ?_)
    have hw := hw I8 eI8
    refine lv_aload_n hx hb dX2_addTread_70 rfl (lv_at hl 3 rfl) ?_
    refine m_getr E hM fs_X2_24 ho.1.1 (isO_at ho.1 4 rfl).1 dX2_addTread_71 ?_
    refine lv_iload_n hx hb dX2_addTread_74 rfl (lv_at hl 2 rfl) ?_
    refine lv_aload_n hx hb dX2_addTread_75 rfl (lv_at hl 3 rfl) ?_
    refine m_getr E hM fs_X2_60 ho.1.1 ho.2.1 dX2_addTread_76 ?_
    refine lv_iload_n hx hb dX2_addTread_79 rfl (lv_at hl 4 rfl) ?_
    refine lv_iload hx hb dX2_addTread_80 (lv_at hl 1 rfl) ?_
    refine lv_aload_n hx hb dX2_addTread_82 rfl (lv_at hl 3 rfl) ?_
    refine m_getr E hM fs_X2_21 ho.1.1 (isO_at ho.1 3 rfl).1 dX2_addTread_83 ?_
    refine lv_iload_n hx hb dX2_addTread_86 rfl (lv_at hl 2 rfl) ?_
    obtain ⟨hv, hw⟩ := hw
    refine m_iald E hM (isO_at ho.1 3 rfl).2 hv dX2_addTread_87 ?_
    refine m_ci (m_runV E hM hS cs_X2_139 ho.2.2.1 (by decide) rfl rfl (c_X3_loudOf ho.2.2 hw) rfl rfl ⟨Nat.le_of_ble_eq_true rfl, Nat.le_of_ble_eq_true rfl⟩ rfl hl.1 rfl (Nat.le_of_ble_eq_true rfl) dX2_addTread_88 ⟨Nat.le_of_ble_eq_true rfl, Nat.le_of_ble_eq_true rfl⟩) hS (fun r9 u H locs hp hM hS => ?_)
    obtain ⟨rfl, hw⟩ := hp
    obtain ⟨hv, hw⟩ := hw
    refine m_iast E hM hS (isO_at ho.1 4 rfl).2 hv dX2_addTread_91 (fun I10 H locs eI10 hM hS => ?_)
    have hw := hw I10 eI10
    refine lv_aload_n hx hb dX2_addTread_92 rfl (lv_at hl 3 rfl) ?_
    refine m_getr E hM fs_X2_27 ho.1.1 (isO_at ho.1 5 rfl).1 dX2_addTread_93 ?_
    refine lv_iload_n hx hb dX2_addTread_96 rfl (lv_at hl 2 rfl) ?_
    refine lv_iload hx hb dX2_addTread_97 (lv_at hl 0 rfl) ?_
    refine lv_iconst (v := (-1)) hx hb dX2_addTread_99 (by decide) ?_
    refine lv_icmp_eq (tgt := 127) hx hb dX2_addTread_100 (by decide) (fun cq => ?_) (fun cq => ?_)
    · have hw := hw.1 cq
      exact s_X2_addTread_127 E hr hlk ho  hw hM hS (lv_sub hl [3, 4, 5, 2, 1, 0] rfl)
    · have hw := hw.2 cq
      refine lv_iload_n hx hb dX2_addTread_103 rfl (lv_at hl 5 rfl) ?_
      refine lv_aload_n hx hb dX2_addTread_104 rfl (lv_at hl 3 rfl) ?_
      refine m_getr E hM fs_X2_18 ho.1.1 (isO_at ho.1 2 rfl).1 dX2_addTread_105 ?_
      refine lv_iload hx hb dX2_addTread_108 (lv_at hl 0 rfl) ?_
      obtain ⟨hv, hw⟩ := hw
      refine m_iald E hM (isO_at ho.1 2 rfl).2 hv dX2_addTread_110 ?_
      refine lv_isub hx hb dX2_addTread_111 ?_
      refine lv_aload_n hx hb dX2_addTread_112 rfl (lv_at hl 3 rfl) ?_
      refine m_getr E hM fs_X2_60 ho.1.1 ho.2.1 dX2_addTread_113 ?_
      refine m_geti E hM fs_X2_142 ho.2.2.1 dX2_addTread_116 ?_
      refine lv_icmp_gt (tgt := 127) hx hb dX2_addTread_119 (by decide) (fun cq => ?_) (fun cq => ?_)
      · have hw := hw.1 cq
        exact s_X2_addTread_127 E hr hlk ho  hw hM hS (lv_sub hl [3, 4, 5, 2, 1, 0] rfl)
      · have hw := hw.2 cq
        refine lv_iload hx hb dX2_addTread_122 (lv_at hl 0 rfl) ?_
        refine lv_goto (tgt := 128) hx hb dX2_addTread_124 (by decide) ?_
        exact s_X2_addTread_128 E hr hlk ho  hw hM hS (lv_sub hl [3, 4, 5, 2, 1, 0] rfl)
  · have hw := hw.2 cq
    exact m_retv hx hb hr hlk hM hS ⟨_, rfl, hw⟩ dX2_addTread_10
theorem dX2_walkAll_0 : decode cX2_walkAll 0 = .ok (.aload_n 0, 1) := by decide +kernel
theorem dX2_walkAll_1 : decode cX2_walkAll 1 = .ok (.iconst 0, 1) := by decide +kernel
theorem dX2_walkAll_2 : decode cX2_walkAll 2 = .ok (.putfield 64, 3) := by decide +kernel
theorem dX2_walkAll_5 : decode cX2_walkAll 5 = .ok (.aload_n 0, 1) := by decide +kernel
theorem dX2_walkAll_6 : decode cX2_walkAll 6 = .ok (.getfield 39, 3) := by decide +kernel
theorem dX2_walkAll_9 : decode cX2_walkAll 9 = .ok (.iconst (-1), 1) := by decide +kernel
theorem dX2_walkAll_10 : decode cX2_walkAll 10 = .ok (.invokestatic 68, 3) := by decide +kernel
theorem dX2_walkAll_13 : decode cX2_walkAll 13 = .ok (.aload_n 0, 1) := by decide +kernel
theorem dX2_walkAll_14 : decode cX2_walkAll 14 = .ok (.getfield 51, 3) := by decide +kernel
theorem dX2_walkAll_17 : decode cX2_walkAll 17 = .ok (.iconst (-1), 1) := by decide +kernel
theorem dX2_walkAll_18 : decode cX2_walkAll 18 = .ok (.invokestatic 68, 3) := by decide +kernel
theorem dX2_walkAll_21 : decode cX2_walkAll 21 = .ok (.aload_n 0, 1) := by decide +kernel
theorem dX2_walkAll_22 : decode cX2_walkAll 22 = .ok (.getfield 54, 3) := by decide +kernel
theorem dX2_walkAll_25 : decode cX2_walkAll 25 = .ok (.iconst (-1), 1) := by decide +kernel
theorem dX2_walkAll_26 : decode cX2_walkAll 26 = .ok (.invokestatic 68, 3) := by decide +kernel
theorem dX2_walkAll_29 : decode cX2_walkAll 29 = .ok (.aload_n 0, 1) := by decide +kernel
theorem dX2_walkAll_30 : decode cX2_walkAll 30 = .ok (.getfield 57, 3) := by decide +kernel
theorem dX2_walkAll_33 : decode cX2_walkAll 33 = .ok (.iconst 0, 1) := by decide +kernel
theorem dX2_walkAll_34 : decode cX2_walkAll 34 = .ok (.invokestatic 68, 3) := by decide +kernel
theorem dX2_walkAll_37 : decode cX2_walkAll 37 = .ok (.aload_n 0, 1) := by decide +kernel
theorem dX2_walkAll_38 : decode cX2_walkAll 38 = .ok (.invokevirtual 74, 3) := by decide +kernel
theorem dX2_walkAll_41 : decode cX2_walkAll 41 = .ok (.iconst 0, 1) := by decide +kernel
theorem dX2_walkAll_42 : decode cX2_walkAll 42 = .ok (.istore_n 1, 1) := by decide +kernel
theorem dX2_walkAll_43 : decode cX2_walkAll 43 = .ok (.iload_n 1, 1) := by decide +kernel
theorem dX2_walkAll_44 : decode cX2_walkAll 44 = .ok (.bipush 100, 2) := by decide +kernel
theorem dX2_walkAll_46 : decode cX2_walkAll 46 = .ok (.if_icmp .ge 60, 3) := by decide +kernel
theorem dX2_walkAll_49 : decode cX2_walkAll 49 = .ok (.iconst 0, 1) := by decide +kernel
theorem dX2_walkAll_50 : decode cX2_walkAll 50 = .ok (.istore_n 2, 1) := by decide +kernel
theorem dX2_walkAll_51 : decode cX2_walkAll 51 = .ok (.iload_n 2, 1) := by decide +kernel
theorem dX2_walkAll_52 : decode cX2_walkAll 52 = .ok (.aload_n 0, 1) := by decide +kernel
theorem dX2_walkAll_53 : decode cX2_walkAll 53 = .ok (.getfield 60, 3) := by decide +kernel
theorem dX2_walkAll_56 : decode cX2_walkAll 56 = .ok (.getfield 77, 3) := by decide +kernel
theorem dX2_walkAll_59 : decode cX2_walkAll 59 = .ok (.if_icmp .ge 41, 3) := by decide +kernel
theorem dX2_walkAll_62 : decode cX2_walkAll 62 = .ok (.aload_n 0, 1) := by decide +kernel
theorem dX2_walkAll_63 : decode cX2_walkAll 63 = .ok (.iload_n 2, 1) := by decide +kernel
theorem dX2_walkAll_64 : decode cX2_walkAll 64 = .ok (.iload_n 1, 1) := by decide +kernel
theorem dX2_walkAll_65 : decode cX2_walkAll 65 = .ok (.invokevirtual 82, 3) := by decide +kernel
theorem dX2_walkAll_68 : decode cX2_walkAll 68 = .ok (.ifCond .eq 9, 3) := by decide +kernel
theorem dX2_walkAll_71 : decode cX2_walkAll 71 = .ok (.aload_n 0, 1) := by decide +kernel
theorem dX2_walkAll_72 : decode cX2_walkAll 72 = .ok (.iload_n 2, 1) := by decide +kernel
theorem dX2_walkAll_73 : decode cX2_walkAll 73 = .ok (.iload_n 1, 1) := by decide +kernel
theorem dX2_walkAll_74 : decode cX2_walkAll 74 = .ok (.invokevirtual 86, 3) := by decide +kernel
theorem dX2_walkAll_77 : decode cX2_walkAll 77 = .ok (.aload_n 0, 1) := by decide +kernel
theorem dX2_walkAll_78 : decode cX2_walkAll 78 = .ok (.getfield 48, 3) := by decide +kernel
theorem dX2_walkAll_81 : decode cX2_walkAll 81 = .ok (.iload_n 2, 1) := by decide +kernel
theorem dX2_walkAll_82 : decode cX2_walkAll 82 = .ok (.bipush 100, 2) := by decide +kernel
theorem dX2_walkAll_84 : decode cX2_walkAll 84 = .ok (.imul, 1) := by decide +kernel
theorem dX2_walkAll_85 : decode cX2_walkAll 85 = .ok (.iload_n 1, 1) := by decide +kernel
theorem dX2_walkAll_86 : decode cX2_walkAll 86 = .ok (.iadd, 1) := by decide +kernel
theorem dX2_walkAll_87 : decode cX2_walkAll 87 = .ok (.aload_n 0, 1) := by decide +kernel
theorem dX2_walkAll_88 : decode cX2_walkAll 88 = .ok (.getfield 54, 3) := by decide +kernel
theorem dX2_walkAll_91 : decode cX2_walkAll 91 = .ok (.iload_n 2, 1) := by decide +kernel
theorem dX2_walkAll_92 : decode cX2_walkAll 92 = .ok (.iaload, 1) := by decide +kernel
theorem dX2_walkAll_93 : decode cX2_walkAll 93 = .ok (.iastore, 1) := by decide +kernel
theorem dX2_walkAll_94 : decode cX2_walkAll 94 = .ok (.iinc 2 1, 3) := by decide +kernel
theorem dX2_walkAll_97 : decode cX2_walkAll 97 = .ok (.goto (-46), 3) := by decide +kernel
theorem dX2_walkAll_100 : decode cX2_walkAll 100 = .ok (.iinc 1 1, 3) := by decide +kernel
theorem dX2_walkAll_103 : decode cX2_walkAll 103 = .ok (.goto (-60), 3) := by decide +kernel
theorem dX2_walkAll_106 : decode cX2_walkAll 106 = .ok (.aload_n 0, 1) := by decide +kernel
theorem dX2_walkAll_107 : decode cX2_walkAll 107 = .ok (.iconst 1, 1) := by decide +kernel
theorem dX2_walkAll_108 : decode cX2_walkAll 108 = .ok (.putfield 90, 3) := by decide +kernel
theorem dX2_walkAll_111 : decode cX2_walkAll 111 = .ok (.return_, 1) := by decide +kernel
def w_X2_walkAll_77 (o : Nat) (oh : Nat) (post : mI → Prop) (k51 : mI → Int32 → Int32 → Prop) (I : mI) (v1 : Int32) (v2 : Int32) : Prop := vp_in v2 6 ∧ vp_in ((v2 * 100) + v1) 600 ∧ ∀ I11, I11 = up2 I (o + 13) (((v2 * 100) + v1).toNatClampNeg) (I (o + 15) v2.toNatClampNeg) → ∀ x12, x12 = v2 + 1 → k51 I11 v1 x12
set_option maxRecDepth 100000 in
set_option maxHeartbeats 4000000 in
theorem s_X2_walkAll_77 {p : Program} {l : Launch} {e : Env} {s : State} {m : MethodId} {args : Array Value} {below : List Frame} {meth : Method} {c : Code} {D : va_G} {cA : Nat → ClassId} {Z : mZ} {bs : Ad} {n : Nat} {K : mK} {R : mR} {L : mL} (E : Ev p s m args c cX2_walkAll 3 RX2 D cA Z bs) (hr : meth.sig.returnType = none) (hlk : meth.locks = false) {o : Nat} {oh : Nat} (ho : isX2 K R o oh) {post : mI → Prop} {k51 : mI → Int32 → Int32 → Prop} (hk51 : ∀ (I : mI) (v1 : Int32) (v2 : Int32) (H : Heap) (locs : List Loc) (ls : Array Slot), k51 I v1 v2 → mm D cA bs (n, K, R, I, L) H → va_S (Ab bs) s.heap H locs → lv_has ls 3 [(0, .ref (ad bs o)), (1, .int v1), (2, .int v2)] → W p l e ({ frames := 3, cells := 0, slots := 0, locals := 88 } : Room) s m args below meth c H locs 0 0 (MQ below (QV D cA bs (fun u => ∃ I', u = (n, K, R, I', L) ∧ post I')) args s 0 0 (Ab bs)) (F0 m 51 ls [])) {I : mI} {v1 : Int32} {v2 : Int32} {H : Heap} {locs : List Loc} {ls : Array Slot} (hw : w_X2_walkAll_77 o oh post k51 I v1 v2) (hM : mm D cA bs (n, K, R, I, L) H) (hS : va_S (Ab bs) s.heap H locs) (hl : lv_has ls 3 [(0, .ref (ad bs o)), (1, .int v1), (2, .int v2)]) : W p l e ({ frames := 3, cells := 0, slots := 0, locals := 88 } : Room) s m args below meth c H locs 0 0 (MQ below (QV D cA bs (fun u => ∃ I', u = (n, K, R, I', L) ∧ post I')) args s 0 0 (Ab bs)) (F0 m 77 ls []) := by
  have hx := E.1.1
  have hb := E.1.2.1
  refine lv_aload_n hx hb dX2_walkAll_77 rfl (lv_at hl 0 rfl) ?_
  refine m_getr E hM fs_X2_48 ho.1.1 (isO_at ho.1 12 rfl).1 dX2_walkAll_78 ?_
  refine lv_iload_n hx hb dX2_walkAll_81 rfl (lv_at hl 2 rfl) ?_
  refine lv_bipush (v := 100) hx hb dX2_walkAll_82 (by decide) ?_
  refine lv_imul hx hb dX2_walkAll_84 ?_
  refine lv_iload_n hx hb dX2_walkAll_85 rfl (lv_at hl 1 rfl) ?_
  refine lv_iadd hx hb dX2_walkAll_86 ?_
  refine lv_aload_n hx hb dX2_walkAll_87 rfl (lv_at hl 0 rfl) ?_
  refine m_getr E hM fs_X2_54 ho.1.1 (isO_at ho.1 14 rfl).1 dX2_walkAll_88 ?_
  refine lv_iload_n hx hb dX2_walkAll_91 rfl (lv_at hl 2 rfl) ?_
  obtain ⟨hv, hw⟩ := hw
  refine m_iald E hM (isO_at ho.1 14 rfl).2 hv dX2_walkAll_92 ?_
  obtain ⟨hv, hw⟩ := hw
  refine m_iast E hM hS (isO_at ho.1 12 rfl).2 hv dX2_walkAll_93 (fun I11 H locs eI11 hM hS => ?_)
  have hw := hw I11 eI11
  obtain ⟨x12, ex12⟩ : ∃ y : Int32, y = v2 + 1 := ⟨_, rfl⟩
  have hw := hw x12 ex12
  refine lv_iinc (v := x12) (lv' := [(2, .int x12), (0, .ref (ad bs o)), (1, .int v1)]) hx hb dX2_walkAll_94 hl (k := 2) rfl (by rw [ex12]; rfl) (by decide) rfl (fun ls hl => ?_)
  refine lv_goto (tgt := 51) hx hb dX2_walkAll_97 (by decide) ?_
  exact hk51 _ _ _ H locs ls  hw hM hS (lv_sub hl [1, 2, 0] rfl)
def w_X2_walkAll_51 (o : Nat) (oh : Nat) (post : mI → Prop) (k43 : mI → Int32 → Prop) (I : mI) (v1 : Int32) (v2 : Int32) : Prop := ∀ ZZ : (mI → Int32 → Int32 → Prop), (∀ (I : mI) (v1 : Int32) (v2 : Int32), (((I oh 3) ≤ v2 → ∀ x7, x7 = v1 + 1 → k43 I x7) ∧ (¬ (I oh 3) ≤ v2 → w_X2_goes I o oh v2 v1 (fun b8 I9 => (b8 = false → (w_X2_walkAll_77 o oh post ZZ) I9 v1 v2) ∧ (b8 = true → w_X2_addTread I9 o oh v2 v1 (fun I10 => (w_X2_walkAll_77 o oh post ZZ) I10 v1 v2))))) → ZZ I v1 v2) → ZZ I v1 v2
set_option maxRecDepth 100000 in
set_option maxHeartbeats 4000000 in
theorem s_X2_walkAll_51 {p : Program} {l : Launch} {e : Env} {s : State} {m : MethodId} {args : Array Value} {below : List Frame} {meth : Method} {c : Code} {D : va_G} {cA : Nat → ClassId} {Z : mZ} {bs : Ad} {n : Nat} {K : mK} {R : mR} {L : mL} (E : Ev p s m args c cX2_walkAll 3 RX2 D cA Z bs) (hr : meth.sig.returnType = none) (hlk : meth.locks = false) {o : Nat} {oh : Nat} (ho : isX2 K R o oh) {post : mI → Prop} {k43 : mI → Int32 → Prop} (hk43 : ∀ (I : mI) (v1 : Int32) (H : Heap) (locs : List Loc) (ls : Array Slot), k43 I v1 → mm D cA bs (n, K, R, I, L) H → va_S (Ab bs) s.heap H locs → lv_has ls 3 [(0, .ref (ad bs o)), (1, .int v1)] → W p l e ({ frames := 3, cells := 0, slots := 0, locals := 88 } : Room) s m args below meth c H locs 0 0 (MQ below (QV D cA bs (fun u => ∃ I', u = (n, K, R, I', L) ∧ post I')) args s 0 0 (Ab bs)) (F0 m 43 ls [])) {I : mI} {v1 : Int32} {v2 : Int32} {H : Heap} {locs : List Loc} {ls : Array Slot} (hw : w_X2_walkAll_51 o oh post k43 I v1 v2) (hM : mm D cA bs (n, K, R, I, L) H) (hS : va_S (Ab bs) s.heap H locs) (hl : lv_has ls 3 [(0, .ref (ad bs o)), (1, .int v1), (2, .int v2)]) : W p l e ({ frames := 3, cells := 0, slots := 0, locals := 88 } : Room) s m args below meth c H locs 0 0 (MQ below (QV D cA bs (fun u => ∃ I', u = (n, K, R, I', L) ∧ post I')) args s 0 0 (Ab bs)) (F0 m 51 ls []) := by
  have hx := E.1.1
  have hb := E.1.2.1
  refine hw (fun I v1 v2 => ∀ (H : Heap) (locs : List Loc) (ls : Array Slot), mm D cA bs (n, K, R, I, L) H → va_S (Ab bs) s.heap H locs → lv_has ls 3 [(0, .ref (ad bs o)), (1, .int v1), (2, .int v2)] → W p l e ({ frames := 3, cells := 0, slots := 0, locals := 88 } : Room) s m args below meth c H locs 0 0 (MQ below (QV D cA bs (fun u => ∃ I', u = (n, K, R, I', L) ∧ post I')) args s 0 0 (Ab bs)) (F0 m 51 ls [])) ?_ H locs ls hM hS hl
  clear hw hM hS hl
  intro I v1 v2 hw H locs ls hM hS hl
  refine lv_iload_n hx hb dX2_walkAll_51 rfl (lv_at hl 2 rfl) ?_
  refine lv_aload_n hx hb dX2_walkAll_52 rfl (lv_at hl 0 rfl) ?_
  refine m_getr E hM fs_X2_60 ho.1.1 ho.2.1 dX2_walkAll_53 ?_
  refine m_geti E hM fs_X2_77 ho.2.2.1 dX2_walkAll_56 ?_
  refine lv_icmp_ge (tgt := 100) hx hb dX2_walkAll_59 (by decide) (fun cq => ?_) (fun cq => ?_)
  · have hw := hw.1 cq
    obtain ⟨x7, ex7⟩ : ∃ y : Int32, y = v1 + 1 := ⟨_, rfl⟩
    have hw := hw x7 ex7
    refine lv_iinc (v := x7) (lv' := [(1, .int x7), (0, .ref (ad bs o)), (2, .int v2)]) hx hb dX2_walkAll_100 hl (k := 1) rfl (by rw [ex7]; rfl) (by decide) rfl (fun ls hl => ?_)
    refine lv_goto (tgt := 43) hx hb dX2_walkAll_103 (by decide) ?_
    exact hk43 _ _ H locs ls  hw hM hS (lv_sub hl [1, 0] rfl)
  · have hw := hw.2 cq
    refine lv_aload_n hx hb dX2_walkAll_62 rfl (lv_at hl 0 rfl) ?_
    refine lv_iload_n hx hb dX2_walkAll_63 rfl (lv_at hl 2 rfl) ?_
    refine lv_iload_n hx hb dX2_walkAll_64 rfl (lv_at hl 1 rfl) ?_
    refine m_ci (m_runV E hM hS cs_X2_82 ho.1.1 (by decide) rfl rfl (c_X2_goes ho hw) rfl rfl ⟨Nat.le_of_ble_eq_true rfl, Nat.le_of_ble_eq_true rfl⟩ rfl hl.1 rfl (Nat.le_of_ble_eq_true rfl) dX2_walkAll_65 ⟨Nat.le_of_ble_eq_true rfl, Nat.le_of_ble_eq_true rfl⟩) hS (fun r9 u H locs hp hM hS => ?_)
    obtain ⟨b8, rfl, I9, rfl, hw⟩ := hp
    refine lv_if_eq (tgt := 77) hx hb dX2_walkAll_68 (by decide) (fun cq => ?_) (fun cq => ?_)
    · have hw := hw.1 (bI_f cq)
      exact s_X2_walkAll_77 E hr hlk ho (fun I v1 v2 H locs ls  hw hM hS hl => hw H locs ls  hM hS hl)  hw hM hS (lv_sub hl [0, 1, 2] rfl)
    · have hw := hw.2 (bI_t cq)
      refine lv_aload_n hx hb dX2_walkAll_71 rfl (lv_at hl 0 rfl) ?_
      refine lv_iload_n hx hb dX2_walkAll_72 rfl (lv_at hl 2 rfl) ?_
      refine lv_iload_n hx hb dX2_walkAll_73 rfl (lv_at hl 1 rfl) ?_
      refine m_cv (m_runV E hM hS cs_X2_86 ho.1.1 (by decide) rfl rfl (c_X2_addTread ho hw) rfl rfl ⟨Nat.le_of_ble_eq_true rfl, Nat.le_of_ble_eq_true rfl⟩ rfl hl.1 rfl (Nat.le_of_ble_eq_true rfl) dX2_walkAll_74 ⟨Nat.le_of_ble_eq_true rfl, Nat.le_of_ble_eq_true rfl⟩) hS (fun u H locs hp hM hS => ?_)
      obtain ⟨I10, rfl, hw⟩ := hp
      exact s_X2_walkAll_77 E hr hlk ho (fun I v1 v2 H locs ls  hw hM hS hl => hw H locs ls  hM hS hl)  hw hM hS (lv_sub hl [0, 1, 2] rfl)
def w_X2_walkAll_43 (o : Nat) (oh : Nat) (post : mI → Prop) (k106 : mI → Prop) (I : mI) (v1 : Int32) : Prop := ∀ ZZ : (mI → Int32 → Prop), (∀ (I : mI) (v1 : Int32), ((100 ≤ v1 → k106 I) ∧ (¬ 100 ≤ v1 → (w_X2_walkAll_51 o oh post ZZ) I v1 0)) → ZZ I v1) → ZZ I v1
set_option maxRecDepth 100000 in
set_option maxHeartbeats 4000000 in
theorem s_X2_walkAll_43 {p : Program} {l : Launch} {e : Env} {s : State} {m : MethodId} {args : Array Value} {below : List Frame} {meth : Method} {c : Code} {D : va_G} {cA : Nat → ClassId} {Z : mZ} {bs : Ad} {n : Nat} {K : mK} {R : mR} {L : mL} (E : Ev p s m args c cX2_walkAll 3 RX2 D cA Z bs) (hr : meth.sig.returnType = none) (hlk : meth.locks = false) {o : Nat} {oh : Nat} (ho : isX2 K R o oh) {post : mI → Prop} {k106 : mI → Prop} (hk106 : ∀ (I : mI) (H : Heap) (locs : List Loc) (ls : Array Slot), k106 I → mm D cA bs (n, K, R, I, L) H → va_S (Ab bs) s.heap H locs → lv_has ls 3 [(0, .ref (ad bs o))] → W p l e ({ frames := 3, cells := 0, slots := 0, locals := 88 } : Room) s m args below meth c H locs 0 0 (MQ below (QV D cA bs (fun u => ∃ I', u = (n, K, R, I', L) ∧ post I')) args s 0 0 (Ab bs)) (F0 m 106 ls [])) {I : mI} {v1 : Int32} {H : Heap} {locs : List Loc} {ls : Array Slot} (hw : w_X2_walkAll_43 o oh post k106 I v1) (hM : mm D cA bs (n, K, R, I, L) H) (hS : va_S (Ab bs) s.heap H locs) (hl : lv_has ls 3 [(0, .ref (ad bs o)), (1, .int v1)]) : W p l e ({ frames := 3, cells := 0, slots := 0, locals := 88 } : Room) s m args below meth c H locs 0 0 (MQ below (QV D cA bs (fun u => ∃ I', u = (n, K, R, I', L) ∧ post I')) args s 0 0 (Ab bs)) (F0 m 43 ls []) := by
  have hx := E.1.1
  have hb := E.1.2.1
  refine hw (fun I v1 => ∀ (H : Heap) (locs : List Loc) (ls : Array Slot), mm D cA bs (n, K, R, I, L) H → va_S (Ab bs) s.heap H locs → lv_has ls 3 [(0, .ref (ad bs o)), (1, .int v1)] → W p l e ({ frames := 3, cells := 0, slots := 0, locals := 88 } : Room) s m args below meth c H locs 0 0 (MQ below (QV D cA bs (fun u => ∃ I', u = (n, K, R, I', L) ∧ post I')) args s 0 0 (Ab bs)) (F0 m 43 ls [])) ?_ H locs ls hM hS hl
  clear hw hM hS hl
  intro I v1 hw H locs ls hM hS hl
  refine lv_iload_n hx hb dX2_walkAll_43 rfl (lv_at hl 1 rfl) ?_
  refine lv_bipush (v := 100) hx hb dX2_walkAll_44 (by decide) ?_
  refine lv_icmp_ge (tgt := 106) hx hb dX2_walkAll_46 (by decide) (fun cq => ?_) (fun cq => ?_)
  · have hw := hw.1 cq
    exact hk106 _ H locs ls  hw hM hS (lv_sub hl [0] rfl)
  · have hw := hw.2 cq
    refine lv_iconst (v := 0) hx hb dX2_walkAll_49 (by decide) ?_
    refine lv_istore_n (lv' := [(2, .int 0), (0, .ref (ad bs o)), (1, .int v1)]) hx hb dX2_walkAll_50 rfl hl (by decide) rfl (fun ls hl => ?_)
    exact s_X2_walkAll_51 E hr hlk ho (fun I v1 H locs ls  hw hM hS hl => hw H locs ls  hM hS hl)  hw hM hS (lv_sub hl [1, 2, 0] rfl)
def w_X2_walkAll_106 (o : Nat) (oh : Nat) (post : mI → Prop) (I : mI) : Prop := ∀ I13, I13 = up2 I o 1 1 → post I13
set_option maxRecDepth 100000 in
set_option maxHeartbeats 4000000 in
theorem s_X2_walkAll_106 {p : Program} {l : Launch} {e : Env} {s : State} {m : MethodId} {args : Array Value} {below : List Frame} {meth : Method} {c : Code} {D : va_G} {cA : Nat → ClassId} {Z : mZ} {bs : Ad} {n : Nat} {K : mK} {R : mR} {L : mL} (E : Ev p s m args c cX2_walkAll 3 RX2 D cA Z bs) (hr : meth.sig.returnType = none) (hlk : meth.locks = false) {o : Nat} {oh : Nat} (ho : isX2 K R o oh) {post : mI → Prop} {I : mI} {H : Heap} {locs : List Loc} {ls : Array Slot} (hw : w_X2_walkAll_106 o oh post I) (hM : mm D cA bs (n, K, R, I, L) H) (hS : va_S (Ab bs) s.heap H locs) (hl : lv_has ls 3 [(0, .ref (ad bs o))]) : W p l e ({ frames := 3, cells := 0, slots := 0, locals := 88 } : Room) s m args below meth c H locs 0 0 (MQ below (QV D cA bs (fun u => ∃ I', u = (n, K, R, I', L) ∧ post I')) args s 0 0 (Ab bs)) (F0 m 106 ls []) := by
  have hx := E.1.1
  have hb := E.1.2.1
  refine lv_aload_n hx hb dX2_walkAll_106 rfl (lv_at hl 0 rfl) ?_
  refine lv_iconst (v := 1) hx hb dX2_walkAll_107 (by decide) ?_
  refine m_puti E hM hS fp_X2_90 ho.1.1 rfl rfl dX2_walkAll_108 (fun I13 H locs eI13 hM hS => ?_)
  have hw := hw I13 eI13
  exact m_retv hx hb hr hlk hM hS ⟨_, rfl, hw⟩ dX2_walkAll_111
def w_X2_walkAll (I : mI) (o : Nat) (oh : Nat) (post : mI → Prop) : Prop := ∀ I1, I1 = up2 I o 2 0 → w_J7_fill_53178 I1 (o + 10) 6 (-1) (fun I2 => w_J7_fill_53178 I2 (o + 14) 24 (-1) (fun I3 => w_J7_fill_53178 I3 (o + 15) 6 (-1) (fun I4 => w_J7_fill_53178 I4 (o + 16) 6 0 (fun I5 => w_X2_listen I5 o oh (fun I6 => (w_X2_walkAll_43 o oh post (w_X2_walkAll_106 o oh post)) I6 0)))))
set_option maxRecDepth 100000 in
set_option maxHeartbeats 4000000 in
theorem c_X2_walkAll {l : Launch} {D : va_G} {cA : Nat → ClassId} {Z : mZ} {bs : Ad} {n : Nat} {K : mK} {R : mR} {I : mI} {L : mL} {o : Nat} {oh : Nat} {post : mI → Prop} (ho : isX2 K R o oh) (hw : w_X2_walkAll I o oh post) : Met l yX2_walkAll (.code yX2_walkAll cX2_walkAll 3 none :: gw) ({ frames := 3, cells := 0, slots := 0, locals := 88 } : Room) (PreM D cA Z bs (n, K, R, I, L) [.ref (ad bs o)]) (QV D cA bs (fun u => ∃ I', u = (n, K, R, I', L) ∧ post I')) 0 0 (Ab bs) := by
  refine m_met (by decide) (Nat.le_of_ble_eq_true rfl) (fun p e s m below meth c ls E hr hlk hM hS hl => ?_)
  have E : Ev p s m _ c cX2_walkAll 3 RX2 D cA Z bs := E
  have hl : lv_has ls 3 [(0, .ref (ad bs o))] := hl
  have hx := E.1.1
  have hb := E.1.2.1
  generalize hHe : s.heap = H at hM ⊢
  have hS : va_S (Ab bs) s.heap H [] := by rw [← hHe]; exact va_S.rf
  clear hHe
  refine lv_aload_n hx hb dX2_walkAll_0 rfl (lv_at hl 0 rfl) ?_
  refine lv_iconst (v := 0) hx hb dX2_walkAll_1 (by decide) ?_
  refine m_puti E hM hS fp_X2_64 ho.1.1 rfl rfl dX2_walkAll_2 (fun I1 H locs eI1 hM hS => ?_)
  have hw := hw I1 eI1
  refine lv_aload_n hx hb dX2_walkAll_5 rfl (lv_at hl 0 rfl) ?_
  refine m_getr E hM fs_X2_39 ho.1.1 (isO_at ho.1 9 rfl).1 dX2_walkAll_6 ?_
  refine lv_iconst (v := (-1)) hx hb dX2_walkAll_9 (by decide) ?_
  refine m_cv (m_runS E hM hS cs_X2_68 (c_J7_fill_53178 ((isO_at ho.1 9 rfl).2) hw) rfl rfl ⟨Nat.le_of_ble_eq_true rfl, Nat.le_of_ble_eq_true rfl⟩ rfl hl.1 rfl (Nat.le_of_ble_eq_true rfl) dX2_walkAll_10 ⟨Nat.le_of_ble_eq_true rfl, Nat.le_of_ble_eq_true rfl⟩) hS (fun u H locs hp hM hS => ?_)
  obtain ⟨I2, rfl, hw⟩ := hp
  refine lv_aload_n hx hb dX2_walkAll_13 rfl (lv_at hl 0 rfl) ?_
  refine m_getr E hM fs_X2_51 ho.1.1 (isO_at ho.1 13 rfl).1 dX2_walkAll_14 ?_
  refine lv_iconst (v := (-1)) hx hb dX2_walkAll_17 (by decide) ?_
  refine m_cv (m_runS E hM hS cs_X2_68 (c_J7_fill_53178 ((isO_at ho.1 13 rfl).2) hw) rfl rfl ⟨Nat.le_of_ble_eq_true rfl, Nat.le_of_ble_eq_true rfl⟩ rfl hl.1 rfl (Nat.le_of_ble_eq_true rfl) dX2_walkAll_18 ⟨Nat.le_of_ble_eq_true rfl, Nat.le_of_ble_eq_true rfl⟩) hS (fun u H locs hp hM hS => ?_)
  obtain ⟨I3, rfl, hw⟩ := hp
  refine lv_aload_n hx hb dX2_walkAll_21 rfl (lv_at hl 0 rfl) ?_
  refine m_getr E hM fs_X2_54 ho.1.1 (isO_at ho.1 14 rfl).1 dX2_walkAll_22 ?_
  refine lv_iconst (v := (-1)) hx hb dX2_walkAll_25 (by decide) ?_
  refine m_cv (m_runS E hM hS cs_X2_68 (c_J7_fill_53178 ((isO_at ho.1 14 rfl).2) hw) rfl rfl ⟨Nat.le_of_ble_eq_true rfl, Nat.le_of_ble_eq_true rfl⟩ rfl hl.1 rfl (Nat.le_of_ble_eq_true rfl) dX2_walkAll_26 ⟨Nat.le_of_ble_eq_true rfl, Nat.le_of_ble_eq_true rfl⟩) hS (fun u H locs hp hM hS => ?_)
  obtain ⟨I4, rfl, hw⟩ := hp
  refine lv_aload_n hx hb dX2_walkAll_29 rfl (lv_at hl 0 rfl) ?_
  refine m_getr E hM fs_X2_57 ho.1.1 (isO_at ho.1 15 rfl).1 dX2_walkAll_30 ?_
  refine lv_iconst (v := 0) hx hb dX2_walkAll_33 (by decide) ?_
  refine m_cv (m_runS E hM hS cs_X2_68 (c_J7_fill_53178 ((isO_at ho.1 15 rfl).2) hw) rfl rfl ⟨Nat.le_of_ble_eq_true rfl, Nat.le_of_ble_eq_true rfl⟩ rfl hl.1 rfl (Nat.le_of_ble_eq_true rfl) dX2_walkAll_34 ⟨Nat.le_of_ble_eq_true rfl, Nat.le_of_ble_eq_true rfl⟩) hS (fun u H locs hp hM hS => ?_)
  obtain ⟨I5, rfl, hw⟩ := hp
  refine lv_aload_n hx hb dX2_walkAll_37 rfl (lv_at hl 0 rfl) ?_
  refine m_cv (m_runV E hM hS cs_X2_74 ho.1.1 (by decide) rfl rfl (c_X2_listen ho hw) rfl rfl ⟨Nat.le_of_ble_eq_true rfl, Nat.le_of_ble_eq_true rfl⟩ rfl hl.1 rfl (Nat.le_of_ble_eq_true rfl) dX2_walkAll_38 ⟨Nat.le_of_ble_eq_true rfl, Nat.le_of_ble_eq_true rfl⟩) hS (fun u H locs hp hM hS => ?_)
  obtain ⟨I6, rfl, hw⟩ := hp
  refine lv_iconst (v := 0) hx hb dX2_walkAll_41 (by decide) ?_
  refine lv_istore_n (lv' := [(1, .int 0), (0, .ref (ad bs o))]) hx hb dX2_walkAll_42 rfl hl (by decide) rfl (fun ls hl => ?_)
  exact s_X2_walkAll_43 E hr hlk ho (fun I H locs ls  hw hM hS hl => s_X2_walkAll_106 E hr hlk ho  hw hM hS hl)  hw hM hS (lv_sub hl [1, 0] rfl)
theorem dX2_spotAt_0 : decode cX2_spotAt 0 = .ok (.aload_n 0, 1) := by decide +kernel
theorem dX2_spotAt_1 : decode cX2_spotAt 1 = .ok (.getfield 48, 3) := by decide +kernel
theorem dX2_spotAt_4 : decode cX2_spotAt 4 = .ok (.iload_n 1, 1) := by decide +kernel
theorem dX2_spotAt_5 : decode cX2_spotAt 5 = .ok (.bipush 100, 2) := by decide +kernel
theorem dX2_spotAt_7 : decode cX2_spotAt 7 = .ok (.imul, 1) := by decide +kernel
theorem dX2_spotAt_8 : decode cX2_spotAt 8 = .ok (.iload_n 2, 1) := by decide +kernel
theorem dX2_spotAt_9 : decode cX2_spotAt 9 = .ok (.iadd, 1) := by decide +kernel
theorem dX2_spotAt_10 : decode cX2_spotAt 10 = .ok (.aload_n 0, 1) := by decide +kernel
theorem dX2_spotAt_11 : decode cX2_spotAt 11 = .ok (.getfield 48, 3) := by decide +kernel
theorem dX2_spotAt_14 : decode cX2_spotAt 14 = .ok (.arraylength, 1) := by decide +kernel
theorem dX2_spotAt_15 : decode cX2_spotAt 15 = .ok (.iconst (-1), 1) := by decide +kernel
theorem dX2_spotAt_16 : decode cX2_spotAt 16 = .ok (.invokestatic 148, 3) := by decide +kernel
theorem dX2_spotAt_19 : decode cX2_spotAt 19 = .ok (.ireturn, 1) := by decide +kernel
def w_X2_spotAt (I : mI) (o : Nat) (oh : Nat) (a1 : Int32) (a2 : Int32) (post : Int32 → Prop) : Prop := w_X11_pick I (o + 13) 600 ((a1 * 100) + a2) (Int32.ofNat 600) (-1) (fun r1 => post r1)
set_option maxRecDepth 100000 in
set_option maxHeartbeats 4000000 in
theorem c_X2_spotAt {l : Launch} {D : va_G} {cA : Nat → ClassId} {Z : mZ} {bs : Ad} {n : Nat} {K : mK} {R : mR} {I : mI} {L : mL} {o : Nat} {oh : Nat} {a1 : Int32} {a2 : Int32} {post : Int32 → Prop} (ho : isX2 K R o oh) (hw : w_X2_spotAt I o oh a1 a2 post) : Met l yX2_spotAt (.code yX2_spotAt cX2_spotAt 3 (some .int) :: gw) ({ frames := 1, cells := 0, slots := 0, locals := 23 } : Room) (PreM D cA Z bs (n, K, R, I, L) [.ref (ad bs o), .int a1, .int a2]) (QI D cA bs (fun r u => u = (n, K, R, I, L) ∧ post r)) 0 0 (Ab bs) := by
  refine m_met (by decide) (Nat.le_of_ble_eq_true rfl) (fun p e s m below meth c ls E hr hlk hM hS hl => ?_)
  have E : Ev p s m _ c cX2_spotAt 3 RX2 D cA Z bs := E
  have hl : lv_has ls 3 [(0, .ref (ad bs o)), (1, .int a1), (2, .int a2)] := hl
  have hx := E.1.1
  have hb := E.1.2.1
  generalize hHe : s.heap = H at hM ⊢
  have hS : va_S (Ab bs) s.heap H [] := by rw [← hHe]; exact va_S.rf
  clear hHe
  refine lv_aload_n hx hb dX2_spotAt_0 rfl (lv_at hl 0 rfl) ?_
  refine m_getr E hM fs_X2_48 ho.1.1 (isO_at ho.1 12 rfl).1 dX2_spotAt_1 ?_
  refine lv_iload_n hx hb dX2_spotAt_4 rfl (lv_at hl 1 rfl) ?_
  refine lv_bipush (v := 100) hx hb dX2_spotAt_5 (by decide) ?_
  refine lv_imul hx hb dX2_spotAt_7 ?_
  refine lv_iload_n hx hb dX2_spotAt_8 rfl (lv_at hl 2 rfl) ?_
  refine lv_iadd hx hb dX2_spotAt_9 ?_
  refine lv_aload_n hx hb dX2_spotAt_10 rfl (lv_at hl 0 rfl) ?_
  refine m_getr E hM fs_X2_48 ho.1.1 (isO_at ho.1 12 rfl).1 dX2_spotAt_11 ?_
  refine m_alen E hM (isO_at ho.1 12 rfl).2 (by simp) dX2_spotAt_14 ?_
  refine lv_iconst (v := (-1)) hx hb dX2_spotAt_15 (by decide) ?_
  refine m_ci (m_runSN E hM hS cs_X2_148 (c_X11_pick ((isO_at ho.1 12 rfl).2) hw) rfl rfl ⟨Nat.le_of_ble_eq_true rfl, Nat.le_of_ble_eq_true rfl⟩ rfl hl.1 rfl (Nat.le_of_ble_eq_true rfl) dX2_spotAt_16 ⟨Nat.le_of_ble_eq_true rfl, Nat.le_of_ble_eq_true rfl⟩) hS (fun r1 u H locs hp hM hS => ?_)
  obtain ⟨rfl, hw⟩ := hp
  exact m_reti hx hb hr hlk hM hS ⟨rfl, hw⟩ dX2_spotAt_19
theorem dX2_notedBy_0 : decode cX2_notedBy 0 = .ok (.aload_n 0, 1) := by decide +kernel
theorem dX2_notedBy_1 : decode cX2_notedBy 1 = .ok (.getfield 30, 3) := by decide +kernel
theorem dX2_notedBy_4 : decode cX2_notedBy 4 = .ok (.iload_n 1, 1) := by decide +kernel
theorem dX2_notedBy_5 : decode cX2_notedBy 5 = .ok (.iaload, 1) := by decide +kernel
theorem dX2_notedBy_6 : decode cX2_notedBy 6 = .ok (.aload_n 0, 1) := by decide +kernel
theorem dX2_notedBy_7 : decode cX2_notedBy 7 = .ok (.getfield 33, 3) := by decide +kernel
theorem dX2_notedBy_10 : decode cX2_notedBy 10 = .ok (.iload_n 1, 1) := by decide +kernel
theorem dX2_notedBy_11 : decode cX2_notedBy 11 = .ok (.iaload, 1) := by decide +kernel
theorem dX2_notedBy_12 : decode cX2_notedBy 12 = .ok (.ior, 1) := by decide +kernel
theorem dX2_notedBy_13 : decode cX2_notedBy 13 = .ok (.ireturn, 1) := by decide +kernel
def w_X2_notedBy (I : mI) (o : Nat) (oh : Nat) (a1 : Int32) (post : Int32 → Prop) : Prop := vp_in a1 600 ∧ vp_in a1 600 ∧ post ((I (o + 7) a1.toNatClampNeg) ||| (I (o + 8) a1.toNatClampNeg))
set_option maxRecDepth 100000 in
set_option maxHeartbeats 4000000 in
theorem c_X2_notedBy {l : Launch} {D : va_G} {cA : Nat → ClassId} {Z : mZ} {bs : Ad} {n : Nat} {K : mK} {R : mR} {I : mI} {L : mL} {o : Nat} {oh : Nat} {a1 : Int32} {post : Int32 → Prop} (ho : isX2 K R o oh) (hw : w_X2_notedBy I o oh a1 post) : Met l yX2_notedBy (.code yX2_notedBy cX2_notedBy 2 (some .int) :: gw) ({ frames := 0, cells := 0, slots := 0, locals := 0 } : Room) (PreM D cA Z bs (n, K, R, I, L) [.ref (ad bs o), .int a1]) (QI D cA bs (fun r u => u = (n, K, R, I, L) ∧ post r)) 0 0 (Ab bs) := by
  refine m_met (by decide) (Nat.le_of_ble_eq_true rfl) (fun p e s m below meth c ls E hr hlk hM hS hl => ?_)
  have E : Ev p s m _ c cX2_notedBy 2 RX2 D cA Z bs := E
  have hl : lv_has ls 2 [(0, .ref (ad bs o)), (1, .int a1)] := hl
  have hx := E.1.1
  have hb := E.1.2.1
  generalize hHe : s.heap = H at hM ⊢
  have hS : va_S (Ab bs) s.heap H [] := by rw [← hHe]; exact va_S.rf
  clear hHe
  refine lv_aload_n hx hb dX2_notedBy_0 rfl (lv_at hl 0 rfl) ?_
  refine m_getr E hM fs_X2_30 ho.1.1 (isO_at ho.1 6 rfl).1 dX2_notedBy_1 ?_
  refine lv_iload_n hx hb dX2_notedBy_4 rfl (lv_at hl 1 rfl) ?_
  obtain ⟨hv, hw⟩ := hw
  refine m_iald E hM (isO_at ho.1 6 rfl).2 hv dX2_notedBy_5 ?_
  refine lv_aload_n hx hb dX2_notedBy_6 rfl (lv_at hl 0 rfl) ?_
  refine m_getr E hM fs_X2_33 ho.1.1 (isO_at ho.1 7 rfl).1 dX2_notedBy_7 ?_
  refine lv_iload_n hx hb dX2_notedBy_10 rfl (lv_at hl 1 rfl) ?_
  obtain ⟨hv, hw⟩ := hw
  refine m_iald E hM (isO_at ho.1 7 rfl).2 hv dX2_notedBy_11 ?_
  refine lv_ior hx hb dX2_notedBy_12 ?_
  exact m_reti hx hb hr hlk hM hS ⟨rfl, hw⟩ dX2_notedBy_13
theorem dX2_noteCount_0 : decode cX2_noteCount 0 = .ok (.iconst 0, 1) := by decide +kernel
theorem dX2_noteCount_1 : decode cX2_noteCount 1 = .ok (.istore_n 2, 1) := by decide +kernel
theorem dX2_noteCount_2 : decode cX2_noteCount 2 = .ok (.iconst 0, 1) := by decide +kernel
theorem dX2_noteCount_3 : decode cX2_noteCount 3 = .ok (.istore_n 3, 1) := by decide +kernel
theorem dX2_noteCount_4 : decode cX2_noteCount 4 = .ok (.iload_n 3, 1) := by decide +kernel
theorem dX2_noteCount_5 : decode cX2_noteCount 5 = .ok (.aload_n 0, 1) := by decide +kernel
theorem dX2_noteCount_6 : decode cX2_noteCount 6 = .ok (.getfield 64, 3) := by decide +kernel
theorem dX2_noteCount_9 : decode cX2_noteCount 9 = .ok (.if_icmp .ge 24, 3) := by decide +kernel
theorem dX2_noteCount_12 : decode cX2_noteCount 12 = .ok (.aload_n 0, 1) := by decide +kernel
theorem dX2_noteCount_13 : decode cX2_noteCount 13 = .ok (.iload_n 3, 1) := by decide +kernel
theorem dX2_noteCount_14 : decode cX2_noteCount 14 = .ok (.invokevirtual 152, 3) := by decide +kernel
theorem dX2_noteCount_17 : decode cX2_noteCount 17 = .ok (.iload_n 1, 1) := by decide +kernel
theorem dX2_noteCount_18 : decode cX2_noteCount 18 = .ok (.invokestatic 155, 3) := by decide +kernel
theorem dX2_noteCount_21 : decode cX2_noteCount 21 = .ok (.ifCond .eq 6, 3) := by decide +kernel
theorem dX2_noteCount_24 : decode cX2_noteCount 24 = .ok (.iinc 2 1, 3) := by decide +kernel
theorem dX2_noteCount_27 : decode cX2_noteCount 27 = .ok (.iinc 3 1, 3) := by decide +kernel
theorem dX2_noteCount_30 : decode cX2_noteCount 30 = .ok (.goto (-26), 3) := by decide +kernel
theorem dX2_noteCount_33 : decode cX2_noteCount 33 = .ok (.iload_n 2, 1) := by decide +kernel
theorem dX2_noteCount_34 : decode cX2_noteCount 34 = .ok (.ireturn, 1) := by decide +kernel
def w_X2_noteCount_4 (I : mI) (o : Nat) (oh : Nat) (a1 : Int32) (post : Int32 → Prop) (v2 : Int32) (v3 : Int32) : Prop := ∀ ZZ : (Int32 → Int32 → Prop), (∀ (v2 : Int32) (v3 : Int32), (((I o 2) ≤ v3 → post v2) ∧ (¬ (I o 2) ≤ v3 → w_X2_notedBy I o oh v3 (fun r1 => w_X11_has r1 a1 (fun b2 => (b2 = false → ∀ x3, x3 = v3 + 1 → ZZ v2 x3) ∧ (b2 = true → ∀ x4, x4 = v2 + 1 → ∀ x5, x5 = v3 + 1 → ZZ x4 x5))))) → ZZ v2 v3) → ZZ v2 v3
set_option maxRecDepth 100000 in
set_option maxHeartbeats 4000000 in
theorem s_X2_noteCount_4 {p : Program} {l : Launch} {e : Env} {s : State} {m : MethodId} {args : Array Value} {below : List Frame} {meth : Method} {c : Code} {D : va_G} {cA : Nat → ClassId} {Z : mZ} {bs : Ad} {n : Nat} {K : mK} {R : mR} {I : mI} {L : mL} (E : Ev p s m args c cX2_noteCount 4 RX2 D cA Z bs) (hr : meth.sig.returnType = (some .int)) (hlk : meth.locks = false) {o : Nat} {oh : Nat} {a1 : Int32} (ho : isX2 K R o oh) {post : Int32 → Prop} {v2 : Int32} {v3 : Int32} {H : Heap} {locs : List Loc} {ls : Array Slot} (hw : w_X2_noteCount_4 I o oh a1 post v2 v3) (hM : mm D cA bs (n, K, R, I, L) H) (hS : va_S (Ab bs) s.heap H locs) (hl : lv_has ls 4 [(0, .ref (ad bs o)), (1, .int a1), (2, .int v2), (3, .int v3)]) : W p l e ({ frames := 1, cells := 0, slots := 0, locals := 21 } : Room) s m args below meth c H locs 0 0 (MQ below (QI D cA bs (fun r u => u = (n, K, R, I, L) ∧ post r)) args s 0 0 (Ab bs)) (F0 m 4 ls []) := by
  have hx := E.1.1
  have hb := E.1.2.1
  refine hw (fun v2 v3 => ∀ (H : Heap) (locs : List Loc) (ls : Array Slot), mm D cA bs (n, K, R, I, L) H → va_S (Ab bs) s.heap H locs → lv_has ls 4 [(0, .ref (ad bs o)), (1, .int a1), (2, .int v2), (3, .int v3)] → W p l e ({ frames := 1, cells := 0, slots := 0, locals := 21 } : Room) s m args below meth c H locs 0 0 (MQ below (QI D cA bs (fun r u => u = (n, K, R, I, L) ∧ post r)) args s 0 0 (Ab bs)) (F0 m 4 ls [])) ?_ H locs ls hM hS hl
  clear hw hM hS hl
  intro v2 v3 hw H locs ls hM hS hl
  refine lv_iload_n hx hb dX2_noteCount_4 rfl (lv_at hl 3 rfl) ?_
  refine lv_aload_n hx hb dX2_noteCount_5 rfl (lv_at hl 0 rfl) ?_
  refine m_geti E hM fs_X2_64 ho.1.1 dX2_noteCount_6 ?_
  refine lv_icmp_ge (tgt := 33) hx hb dX2_noteCount_9 (by decide) (fun cq => ?_) (fun cq => ?_)
  · have hw := hw.1 cq
    refine lv_iload_n hx hb dX2_noteCount_33 rfl (lv_at hl 2 rfl) ?_
    exact m_reti hx hb hr hlk hM hS ⟨rfl, hw⟩ dX2_noteCount_34
  · have hw := hw.2 cq
    refine lv_aload_n hx hb dX2_noteCount_12 rfl (lv_at hl 0 rfl) ?_
    refine lv_iload_n hx hb dX2_noteCount_13 rfl (lv_at hl 3 rfl) ?_
    refine m_ci (m_runV E hM hS cs_X2_152 ho.1.1 (by decide) rfl rfl (c_X2_notedBy ho hw) rfl rfl ⟨Nat.le_of_ble_eq_true rfl, Nat.le_of_ble_eq_true rfl⟩ rfl hl.1 rfl (Nat.le_of_ble_eq_true rfl) dX2_noteCount_14 ⟨Nat.le_of_ble_eq_true rfl, Nat.le_of_ble_eq_true rfl⟩) hS (fun r1 u H locs hp hM hS => ?_)
    obtain ⟨rfl, hw⟩ := hp
    refine lv_iload_n hx hb dX2_noteCount_17 rfl (lv_at hl 1 rfl) ?_
    refine m_ci (m_runSN E hM hS cs_X2_155 (c_X11_has  hw) rfl rfl ⟨Nat.le_of_ble_eq_true rfl, Nat.le_of_ble_eq_true rfl⟩ rfl hl.1 rfl (Nat.le_of_ble_eq_true rfl) dX2_noteCount_18 ⟨Nat.le_of_ble_eq_true rfl, Nat.le_of_ble_eq_true rfl⟩) hS (fun r9 u H locs hp hM hS => ?_)
    obtain ⟨b2, rfl, rfl, hw⟩ := hp
    refine lv_if_eq (tgt := 27) hx hb dX2_noteCount_21 (by decide) (fun cq => ?_) (fun cq => ?_)
    · have hw := hw.1 (bI_f cq)
      obtain ⟨x3, ex3⟩ : ∃ y : Int32, y = v3 + 1 := ⟨_, rfl⟩
      have hw := hw x3 ex3
      refine lv_iinc (v := x3) (lv' := [(3, .int x3), (0, .ref (ad bs o)), (1, .int a1), (2, .int v2)]) hx hb dX2_noteCount_27 hl (k := 3) rfl (by rw [ex3]; rfl) (by decide) rfl (fun ls hl => ?_)
      refine lv_goto (tgt := 4) hx hb dX2_noteCount_30 (by decide) ?_
      exact hw H locs ls  hM hS (lv_sub hl [1, 2, 3, 0] rfl)
    · have hw := hw.2 (bI_t cq)
      obtain ⟨x4, ex4⟩ : ∃ y : Int32, y = v2 + 1 := ⟨_, rfl⟩
      have hw := hw x4 ex4
      refine lv_iinc (v := x4) (lv' := [(2, .int x4), (0, .ref (ad bs o)), (1, .int a1), (3, .int v3)]) hx hb dX2_noteCount_24 hl (k := 2) rfl (by rw [ex4]; rfl) (by decide) rfl (fun ls hl => ?_)
      obtain ⟨x5, ex5⟩ : ∃ y : Int32, y = v3 + 1 := ⟨_, rfl⟩
      have hw := hw x5 ex5
      refine lv_iinc (v := x5) (lv' := [(3, .int x5), (2, .int x4), (0, .ref (ad bs o)), (1, .int a1)]) hx hb dX2_noteCount_27 hl (k := 3) rfl (by rw [ex5]; rfl) (by decide) rfl (fun ls hl => ?_)
      refine lv_goto (tgt := 4) hx hb dX2_noteCount_30 (by decide) ?_
      exact hw H locs ls  hM hS (lv_sub hl [2, 3, 1, 0] rfl)
def w_X2_noteCount (I : mI) (o : Nat) (oh : Nat) (a1 : Int32) (post : Int32 → Prop) : Prop := (w_X2_noteCount_4 I o oh a1 post) 0 0
set_option maxRecDepth 100000 in
set_option maxHeartbeats 4000000 in
theorem c_X2_noteCount {l : Launch} {D : va_G} {cA : Nat → ClassId} {Z : mZ} {bs : Ad} {n : Nat} {K : mK} {R : mR} {I : mI} {L : mL} {o : Nat} {oh : Nat} {a1 : Int32} {post : Int32 → Prop} (ho : isX2 K R o oh) (hw : w_X2_noteCount I o oh a1 post) : Met l yX2_noteCount (.code yX2_noteCount cX2_noteCount 4 (some .int) :: gw) ({ frames := 1, cells := 0, slots := 0, locals := 21 } : Room) (PreM D cA Z bs (n, K, R, I, L) [.ref (ad bs o), .int a1]) (QI D cA bs (fun r u => u = (n, K, R, I, L) ∧ post r)) 0 0 (Ab bs) := by
  refine m_met (by decide) (Nat.le_of_ble_eq_true rfl) (fun p e s m below meth c ls E hr hlk hM hS hl => ?_)
  have E : Ev p s m _ c cX2_noteCount 4 RX2 D cA Z bs := E
  have hl : lv_has ls 4 [(0, .ref (ad bs o)), (1, .int a1)] := hl
  have hx := E.1.1
  have hb := E.1.2.1
  generalize hHe : s.heap = H at hM ⊢
  have hS : va_S (Ab bs) s.heap H [] := by rw [← hHe]; exact va_S.rf
  clear hHe
  refine lv_iconst (v := 0) hx hb dX2_noteCount_0 (by decide) ?_
  refine lv_istore_n (lv' := [(2, .int 0), (0, .ref (ad bs o)), (1, .int a1)]) hx hb dX2_noteCount_1 rfl hl (by decide) rfl (fun ls hl => ?_)
  refine lv_iconst (v := 0) hx hb dX2_noteCount_2 (by decide) ?_
  refine lv_istore_n (lv' := [(3, .int 0), (2, .int 0), (0, .ref (ad bs o)), (1, .int a1)]) hx hb dX2_noteCount_3 rfl hl (by decide) rfl (fun ls hl => ?_)
  exact s_X2_noteCount_4 E hr hlk ho  hw hM hS (lv_sub hl [2, 3, 1, 0] rfl)
theorem dX2_isGhost_0 : decode cX2_isGhost 0 = .ok (.aload_n 0, 1) := by decide +kernel
theorem dX2_isGhost_1 : decode cX2_isGhost 1 = .ok (.getfield 33, 3) := by decide +kernel
theorem dX2_isGhost_4 : decode cX2_isGhost 4 = .ok (.iload_n 1, 1) := by decide +kernel
theorem dX2_isGhost_5 : decode cX2_isGhost 5 = .ok (.iaload, 1) := by decide +kernel
theorem dX2_isGhost_6 : decode cX2_isGhost 6 = .ok (.iload_n 2, 1) := by decide +kernel
theorem dX2_isGhost_7 : decode cX2_isGhost 7 = .ok (.invokestatic 155, 3) := by decide +kernel
theorem dX2_isGhost_10 : decode cX2_isGhost 10 = .ok (.ifCond .eq 42, 3) := by decide +kernel
theorem dX2_isGhost_13 : decode cX2_isGhost 13 = .ok (.aload_n 0, 1) := by decide +kernel
theorem dX2_isGhost_14 : decode cX2_isGhost 14 = .ok (.getfield 27, 3) := by decide +kernel
theorem dX2_isGhost_17 : decode cX2_isGhost 17 = .ok (.iload_n 1, 1) := by decide +kernel
theorem dX2_isGhost_18 : decode cX2_isGhost 18 = .ok (.iaload, 1) := by decide +kernel
theorem dX2_isGhost_19 : decode cX2_isGhost 19 = .ok (.iconst (-1), 1) := by decide +kernel
theorem dX2_isGhost_20 : decode cX2_isGhost 20 = .ok (.if_icmp .eq 32, 3) := by decide +kernel
theorem dX2_isGhost_23 : decode cX2_isGhost 23 = .ok (.aload_n 0, 1) := by decide +kernel
theorem dX2_isGhost_24 : decode cX2_isGhost 24 = .ok (.getfield 39, 3) := by decide +kernel
theorem dX2_isGhost_27 : decode cX2_isGhost 27 = .ok (.aload_n 0, 1) := by decide +kernel
theorem dX2_isGhost_28 : decode cX2_isGhost 28 = .ok (.getfield 9, 3) := by decide +kernel
theorem dX2_isGhost_31 : decode cX2_isGhost 31 = .ok (.aload_n 0, 1) := by decide +kernel
theorem dX2_isGhost_32 : decode cX2_isGhost 32 = .ok (.getfield 27, 3) := by decide +kernel
theorem dX2_isGhost_35 : decode cX2_isGhost 35 = .ok (.iload_n 1, 1) := by decide +kernel
theorem dX2_isGhost_36 : decode cX2_isGhost 36 = .ok (.iaload, 1) := by decide +kernel
theorem dX2_isGhost_37 : decode cX2_isGhost 37 = .ok (.iaload, 1) := by decide +kernel
theorem dX2_isGhost_38 : decode cX2_isGhost 38 = .ok (.iaload, 1) := by decide +kernel
theorem dX2_isGhost_39 : decode cX2_isGhost 39 = .ok (.aload_n 0, 1) := by decide +kernel
theorem dX2_isGhost_40 : decode cX2_isGhost 40 = .ok (.getfield 18, 3) := by decide +kernel
theorem dX2_isGhost_43 : decode cX2_isGhost 43 = .ok (.iload_n 1, 1) := by decide +kernel
theorem dX2_isGhost_44 : decode cX2_isGhost 44 = .ok (.iaload, 1) := by decide +kernel
theorem dX2_isGhost_45 : decode cX2_isGhost 45 = .ok (.if_icmp .ge 7, 3) := by decide +kernel
theorem dX2_isGhost_48 : decode cX2_isGhost 48 = .ok (.iconst 1, 1) := by decide +kernel
theorem dX2_isGhost_49 : decode cX2_isGhost 49 = .ok (.goto 4, 3) := by decide +kernel
theorem dX2_isGhost_52 : decode cX2_isGhost 52 = .ok (.iconst 0, 1) := by decide +kernel
theorem dX2_isGhost_53 : decode cX2_isGhost 53 = .ok (.ireturn, 1) := by decide +kernel
def w_X2_isGhost (I : mI) (o : Nat) (oh : Nat) (a1 : Int32) (a2 : Int32) (post : Bool → Prop) : Prop := vp_in a1 600 ∧ w_X11_has (I (o + 8) a1.toNatClampNeg) a2 (fun b1 => (b1 = false → post false) ∧ (b1 = true → vp_in a1 600 ∧ ((I (o + 6) a1.toNatClampNeg) = (-1) → post false) ∧ (¬ (I (o + 6) a1.toNatClampNeg) = (-1) → vp_in a1 600 ∧ vp_in (I (o + 6) a1.toNatClampNeg) 600 ∧ vp_in (I (o + 1) (I (o + 6) a1.toNatClampNeg).toNatClampNeg) 6 ∧ vp_in a1 600 ∧ ((I (o + 3) a1.toNatClampNeg) ≤ (I (o + 10) (I (o + 1) (I (o + 6) a1.toNatClampNeg).toNatClampNeg).toNatClampNeg) → post false) ∧ (¬ (I (o + 3) a1.toNatClampNeg) ≤ (I (o + 10) (I (o + 1) (I (o + 6) a1.toNatClampNeg).toNatClampNeg).toNatClampNeg) → post true))))
set_option maxRecDepth 100000 in
set_option maxHeartbeats 4000000 in
theorem c_X2_isGhost {l : Launch} {D : va_G} {cA : Nat → ClassId} {Z : mZ} {bs : Ad} {n : Nat} {K : mK} {R : mR} {I : mI} {L : mL} {o : Nat} {oh : Nat} {a1 : Int32} {a2 : Int32} {post : Bool → Prop} (ho : isX2 K R o oh) (hw : w_X2_isGhost I o oh a1 a2 post) : Met l yX2_isGhost (.code yX2_isGhost cX2_isGhost 3 (some .boolean) :: gw) ({ frames := 1, cells := 0, slots := 0, locals := 21 } : Room) (PreM D cA Z bs (n, K, R, I, L) [.ref (ad bs o), .int a1, .int a2]) (QI D cA bs (fun r u => ∃ b, r = bI b ∧ u = (n, K, R, I, L) ∧ post b)) 0 0 (Ab bs) := by
  refine m_met (by decide) (Nat.le_of_ble_eq_true rfl) (fun p e s m below meth c ls E hr hlk hM hS hl => ?_)
  have E : Ev p s m _ c cX2_isGhost 3 RX2 D cA Z bs := E
  have hl : lv_has ls 3 [(0, .ref (ad bs o)), (1, .int a1), (2, .int a2)] := hl
  have hx := E.1.1
  have hb := E.1.2.1
  generalize hHe : s.heap = H at hM ⊢
  have hS : va_S (Ab bs) s.heap H [] := by rw [← hHe]; exact va_S.rf
  clear hHe
  refine lv_aload_n hx hb dX2_isGhost_0 rfl (lv_at hl 0 rfl) ?_
  refine m_getr E hM fs_X2_33 ho.1.1 (isO_at ho.1 7 rfl).1 dX2_isGhost_1 ?_
  refine lv_iload_n hx hb dX2_isGhost_4 rfl (lv_at hl 1 rfl) ?_
  obtain ⟨hv, hw⟩ := hw
  refine m_iald E hM (isO_at ho.1 7 rfl).2 hv dX2_isGhost_5 ?_
  refine lv_iload_n hx hb dX2_isGhost_6 rfl (lv_at hl 2 rfl) ?_
  refine m_ci (m_runSN E hM hS cs_X2_155 (c_X11_has  hw) rfl rfl ⟨Nat.le_of_ble_eq_true rfl, Nat.le_of_ble_eq_true rfl⟩ rfl hl.1 rfl (Nat.le_of_ble_eq_true rfl) dX2_isGhost_7 ⟨Nat.le_of_ble_eq_true rfl, Nat.le_of_ble_eq_true rfl⟩) hS (fun r9 u H locs hp hM hS => ?_)
  obtain ⟨b1, rfl, rfl, hw⟩ := hp
  refine lv_if_eq (tgt := 52) hx hb dX2_isGhost_10 (by decide) (fun cq => ?_) (fun cq => ?_)
  · have hw := hw.1 (bI_f cq)
    refine lv_iconst (v := 0) hx hb dX2_isGhost_52 (by decide) ?_
    exact m_retz hx hb hr hlk (Or.inl rfl) hM hS ⟨false, rfl, rfl, hw⟩ dX2_isGhost_53
  · have hw := hw.2 (bI_t cq)
    refine lv_aload_n hx hb dX2_isGhost_13 rfl (lv_at hl 0 rfl) ?_
    refine m_getr E hM fs_X2_27 ho.1.1 (isO_at ho.1 5 rfl).1 dX2_isGhost_14 ?_
    refine lv_iload_n hx hb dX2_isGhost_17 rfl (lv_at hl 1 rfl) ?_
    obtain ⟨hv, hw⟩ := hw
    refine m_iald E hM (isO_at ho.1 5 rfl).2 hv dX2_isGhost_18 ?_
    refine lv_iconst (v := (-1)) hx hb dX2_isGhost_19 (by decide) ?_
    refine lv_icmp_eq (tgt := 52) hx hb dX2_isGhost_20 (by decide) (fun cq => ?_) (fun cq => ?_)
    · have hw := hw.1 cq
      refine lv_iconst (v := 0) hx hb dX2_isGhost_52 (by decide) ?_
      exact m_retz hx hb hr hlk (Or.inl rfl) hM hS ⟨false, rfl, rfl, hw⟩ dX2_isGhost_53
    · have hw := hw.2 cq
      refine lv_aload_n hx hb dX2_isGhost_23 rfl (lv_at hl 0 rfl) ?_
      refine m_getr E hM fs_X2_39 ho.1.1 (isO_at ho.1 9 rfl).1 dX2_isGhost_24 ?_
      refine lv_aload_n hx hb dX2_isGhost_27 rfl (lv_at hl 0 rfl) ?_
      refine m_getr E hM fs_X2_9 ho.1.1 (isO_at ho.1 0 rfl).1 dX2_isGhost_28 ?_
      refine lv_aload_n hx hb dX2_isGhost_31 rfl (lv_at hl 0 rfl) ?_
      refine m_getr E hM fs_X2_27 ho.1.1 (isO_at ho.1 5 rfl).1 dX2_isGhost_32 ?_
      refine lv_iload_n hx hb dX2_isGhost_35 rfl (lv_at hl 1 rfl) ?_
      obtain ⟨hv, hw⟩ := hw
      refine m_iald E hM (isO_at ho.1 5 rfl).2 hv dX2_isGhost_36 ?_
      obtain ⟨hv, hw⟩ := hw
      refine m_iald E hM (isO_at ho.1 0 rfl).2 hv dX2_isGhost_37 ?_
      obtain ⟨hv, hw⟩ := hw
      refine m_iald E hM (isO_at ho.1 9 rfl).2 hv dX2_isGhost_38 ?_
      refine lv_aload_n hx hb dX2_isGhost_39 rfl (lv_at hl 0 rfl) ?_
      refine m_getr E hM fs_X2_18 ho.1.1 (isO_at ho.1 2 rfl).1 dX2_isGhost_40 ?_
      refine lv_iload_n hx hb dX2_isGhost_43 rfl (lv_at hl 1 rfl) ?_
      obtain ⟨hv, hw⟩ := hw
      refine m_iald E hM (isO_at ho.1 2 rfl).2 hv dX2_isGhost_44 ?_
      refine lv_icmp_ge (tgt := 52) hx hb dX2_isGhost_45 (by decide) (fun cq => ?_) (fun cq => ?_)
      · have hw := hw.1 cq
        refine lv_iconst (v := 0) hx hb dX2_isGhost_52 (by decide) ?_
        exact m_retz hx hb hr hlk (Or.inl rfl) hM hS ⟨false, rfl, rfl, hw⟩ dX2_isGhost_53
      · have hw := hw.2 cq
        refine lv_iconst (v := 1) hx hb dX2_isGhost_48 (by decide) ?_
        refine lv_goto (tgt := 53) hx hb dX2_isGhost_49 (by decide) ?_
        exact m_retz hx hb hr hlk (Or.inr rfl) hM hS ⟨true, rfl, rfl, hw⟩ dX2_isGhost_53
theorem dX2_ghostCount_0 : decode cX2_ghostCount 0 = .ok (.iconst 0, 1) := by decide +kernel
theorem dX2_ghostCount_1 : decode cX2_ghostCount 1 = .ok (.istore_n 2, 1) := by decide +kernel
theorem dX2_ghostCount_2 : decode cX2_ghostCount 2 = .ok (.iconst 0, 1) := by decide +kernel
theorem dX2_ghostCount_3 : decode cX2_ghostCount 3 = .ok (.istore_n 3, 1) := by decide +kernel
theorem dX2_ghostCount_4 : decode cX2_ghostCount 4 = .ok (.iload_n 3, 1) := by decide +kernel
theorem dX2_ghostCount_5 : decode cX2_ghostCount 5 = .ok (.aload_n 0, 1) := by decide +kernel
theorem dX2_ghostCount_6 : decode cX2_ghostCount 6 = .ok (.getfield 64, 3) := by decide +kernel
theorem dX2_ghostCount_9 : decode cX2_ghostCount 9 = .ok (.if_icmp .ge 21, 3) := by decide +kernel
theorem dX2_ghostCount_12 : decode cX2_ghostCount 12 = .ok (.aload_n 0, 1) := by decide +kernel
theorem dX2_ghostCount_13 : decode cX2_ghostCount 13 = .ok (.iload_n 3, 1) := by decide +kernel
theorem dX2_ghostCount_14 : decode cX2_ghostCount 14 = .ok (.iload_n 1, 1) := by decide +kernel
theorem dX2_ghostCount_15 : decode cX2_ghostCount 15 = .ok (.invokevirtual 158, 3) := by decide +kernel
theorem dX2_ghostCount_18 : decode cX2_ghostCount 18 = .ok (.ifCond .eq 6, 3) := by decide +kernel
theorem dX2_ghostCount_21 : decode cX2_ghostCount 21 = .ok (.iinc 2 1, 3) := by decide +kernel
theorem dX2_ghostCount_24 : decode cX2_ghostCount 24 = .ok (.iinc 3 1, 3) := by decide +kernel
theorem dX2_ghostCount_27 : decode cX2_ghostCount 27 = .ok (.goto (-23), 3) := by decide +kernel
theorem dX2_ghostCount_30 : decode cX2_ghostCount 30 = .ok (.iload_n 2, 1) := by decide +kernel
theorem dX2_ghostCount_31 : decode cX2_ghostCount 31 = .ok (.ireturn, 1) := by decide +kernel
def w_X2_ghostCount_4 (I : mI) (o : Nat) (oh : Nat) (a1 : Int32) (post : Int32 → Prop) (v2 : Int32) (v3 : Int32) : Prop := ∀ ZZ : (Int32 → Int32 → Prop), (∀ (v2 : Int32) (v3 : Int32), (((I o 2) ≤ v3 → post v2) ∧ (¬ (I o 2) ≤ v3 → w_X2_isGhost I o oh v3 a1 (fun b1 => (b1 = false → ∀ x2, x2 = v3 + 1 → ZZ v2 x2) ∧ (b1 = true → ∀ x3, x3 = v2 + 1 → ∀ x4, x4 = v3 + 1 → ZZ x3 x4)))) → ZZ v2 v3) → ZZ v2 v3
set_option maxRecDepth 100000 in
set_option maxHeartbeats 4000000 in
theorem s_X2_ghostCount_4 {p : Program} {l : Launch} {e : Env} {s : State} {m : MethodId} {args : Array Value} {below : List Frame} {meth : Method} {c : Code} {D : va_G} {cA : Nat → ClassId} {Z : mZ} {bs : Ad} {n : Nat} {K : mK} {R : mR} {I : mI} {L : mL} (E : Ev p s m args c cX2_ghostCount 4 RX2 D cA Z bs) (hr : meth.sig.returnType = (some .int)) (hlk : meth.locks = false) {o : Nat} {oh : Nat} {a1 : Int32} (ho : isX2 K R o oh) {post : Int32 → Prop} {v2 : Int32} {v3 : Int32} {H : Heap} {locs : List Loc} {ls : Array Slot} (hw : w_X2_ghostCount_4 I o oh a1 post v2 v3) (hM : mm D cA bs (n, K, R, I, L) H) (hS : va_S (Ab bs) s.heap H locs) (hl : lv_has ls 4 [(0, .ref (ad bs o)), (1, .int a1), (2, .int v2), (3, .int v3)]) : W p l e ({ frames := 2, cells := 0, slots := 0, locals := 43 } : Room) s m args below meth c H locs 0 0 (MQ below (QI D cA bs (fun r u => u = (n, K, R, I, L) ∧ post r)) args s 0 0 (Ab bs)) (F0 m 4 ls []) := by
  have hx := E.1.1
  have hb := E.1.2.1
  refine hw (fun v2 v3 => ∀ (H : Heap) (locs : List Loc) (ls : Array Slot), mm D cA bs (n, K, R, I, L) H → va_S (Ab bs) s.heap H locs → lv_has ls 4 [(0, .ref (ad bs o)), (1, .int a1), (2, .int v2), (3, .int v3)] → W p l e ({ frames := 2, cells := 0, slots := 0, locals := 43 } : Room) s m args below meth c H locs 0 0 (MQ below (QI D cA bs (fun r u => u = (n, K, R, I, L) ∧ post r)) args s 0 0 (Ab bs)) (F0 m 4 ls [])) ?_ H locs ls hM hS hl
  clear hw hM hS hl
  intro v2 v3 hw H locs ls hM hS hl
  refine lv_iload_n hx hb dX2_ghostCount_4 rfl (lv_at hl 3 rfl) ?_
  refine lv_aload_n hx hb dX2_ghostCount_5 rfl (lv_at hl 0 rfl) ?_
  refine m_geti E hM fs_X2_64 ho.1.1 dX2_ghostCount_6 ?_
  refine lv_icmp_ge (tgt := 30) hx hb dX2_ghostCount_9 (by decide) (fun cq => ?_) (fun cq => ?_)
  · have hw := hw.1 cq
    refine lv_iload_n hx hb dX2_ghostCount_30 rfl (lv_at hl 2 rfl) ?_
    exact m_reti hx hb hr hlk hM hS ⟨rfl, hw⟩ dX2_ghostCount_31
  · have hw := hw.2 cq
    refine lv_aload_n hx hb dX2_ghostCount_12 rfl (lv_at hl 0 rfl) ?_
    refine lv_iload_n hx hb dX2_ghostCount_13 rfl (lv_at hl 3 rfl) ?_
    refine lv_iload_n hx hb dX2_ghostCount_14 rfl (lv_at hl 1 rfl) ?_
    refine m_ci (m_runV E hM hS cs_X2_158 ho.1.1 (by decide) rfl rfl (c_X2_isGhost ho hw) rfl rfl ⟨Nat.le_of_ble_eq_true rfl, Nat.le_of_ble_eq_true rfl⟩ rfl hl.1 rfl (Nat.le_of_ble_eq_true rfl) dX2_ghostCount_15 ⟨Nat.le_of_ble_eq_true rfl, Nat.le_of_ble_eq_true rfl⟩) hS (fun r9 u H locs hp hM hS => ?_)
    obtain ⟨b1, rfl, rfl, hw⟩ := hp
    refine lv_if_eq (tgt := 24) hx hb dX2_ghostCount_18 (by decide) (fun cq => ?_) (fun cq => ?_)
    · have hw := hw.1 (bI_f cq)
      obtain ⟨x2, ex2⟩ : ∃ y : Int32, y = v3 + 1 := ⟨_, rfl⟩
      have hw := hw x2 ex2
      refine lv_iinc (v := x2) (lv' := [(3, .int x2), (0, .ref (ad bs o)), (1, .int a1), (2, .int v2)]) hx hb dX2_ghostCount_24 hl (k := 3) rfl (by rw [ex2]; rfl) (by decide) rfl (fun ls hl => ?_)
      refine lv_goto (tgt := 4) hx hb dX2_ghostCount_27 (by decide) ?_
      exact hw H locs ls  hM hS (lv_sub hl [1, 2, 3, 0] rfl)
    · have hw := hw.2 (bI_t cq)
      obtain ⟨x3, ex3⟩ : ∃ y : Int32, y = v2 + 1 := ⟨_, rfl⟩
      have hw := hw x3 ex3
      refine lv_iinc (v := x3) (lv' := [(2, .int x3), (0, .ref (ad bs o)), (1, .int a1), (3, .int v3)]) hx hb dX2_ghostCount_21 hl (k := 2) rfl (by rw [ex3]; rfl) (by decide) rfl (fun ls hl => ?_)
      obtain ⟨x4, ex4⟩ : ∃ y : Int32, y = v3 + 1 := ⟨_, rfl⟩
      have hw := hw x4 ex4
      refine lv_iinc (v := x4) (lv' := [(3, .int x4), (2, .int x3), (0, .ref (ad bs o)), (1, .int a1)]) hx hb dX2_ghostCount_24 hl (k := 3) rfl (by rw [ex4]; rfl) (by decide) rfl (fun ls hl => ?_)
      refine lv_goto (tgt := 4) hx hb dX2_ghostCount_27 (by decide) ?_
      exact hw H locs ls  hM hS (lv_sub hl [2, 3, 1, 0] rfl)
def w_X2_ghostCount (I : mI) (o : Nat) (oh : Nat) (a1 : Int32) (post : Int32 → Prop) : Prop := (w_X2_ghostCount_4 I o oh a1 post) 0 0
set_option maxRecDepth 100000 in
set_option maxHeartbeats 4000000 in
theorem c_X2_ghostCount {l : Launch} {D : va_G} {cA : Nat → ClassId} {Z : mZ} {bs : Ad} {n : Nat} {K : mK} {R : mR} {I : mI} {L : mL} {o : Nat} {oh : Nat} {a1 : Int32} {post : Int32 → Prop} (ho : isX2 K R o oh) (hw : w_X2_ghostCount I o oh a1 post) : Met l yX2_ghostCount (.code yX2_ghostCount cX2_ghostCount 4 (some .int) :: gw) ({ frames := 2, cells := 0, slots := 0, locals := 43 } : Room) (PreM D cA Z bs (n, K, R, I, L) [.ref (ad bs o), .int a1]) (QI D cA bs (fun r u => u = (n, K, R, I, L) ∧ post r)) 0 0 (Ab bs) := by
  refine m_met (by decide) (Nat.le_of_ble_eq_true rfl) (fun p e s m below meth c ls E hr hlk hM hS hl => ?_)
  have E : Ev p s m _ c cX2_ghostCount 4 RX2 D cA Z bs := E
  have hl : lv_has ls 4 [(0, .ref (ad bs o)), (1, .int a1)] := hl
  have hx := E.1.1
  have hb := E.1.2.1
  generalize hHe : s.heap = H at hM ⊢
  have hS : va_S (Ab bs) s.heap H [] := by rw [← hHe]; exact va_S.rf
  clear hHe
  refine lv_iconst (v := 0) hx hb dX2_ghostCount_0 (by decide) ?_
  refine lv_istore_n (lv' := [(2, .int 0), (0, .ref (ad bs o)), (1, .int a1)]) hx hb dX2_ghostCount_1 rfl hl (by decide) rfl (fun ls hl => ?_)
  refine lv_iconst (v := 0) hx hb dX2_ghostCount_2 (by decide) ?_
  refine lv_istore_n (lv' := [(3, .int 0), (2, .int 0), (0, .ref (ad bs o)), (1, .int a1)]) hx hb dX2_ghostCount_3 rfl hl (by decide) rfl (fun ls hl => ?_)
  exact s_X2_ghostCount_4 E hr hlk ho  hw hM hS (lv_sub hl [2, 3, 1, 0] rfl)
theorem dX2_noteNumber_0 : decode cX2_noteNumber 0 = .ok (.iconst 0, 1) := by decide +kernel
theorem dX2_noteNumber_1 : decode cX2_noteNumber 1 = .ok (.istore_n 3, 1) := by decide +kernel
theorem dX2_noteNumber_2 : decode cX2_noteNumber 2 = .ok (.iconst 0, 1) := by decide +kernel
theorem dX2_noteNumber_3 : decode cX2_noteNumber 3 = .ok (.istore 4, 2) := by decide +kernel
theorem dX2_noteNumber_5 : decode cX2_noteNumber 5 = .ok (.iload 4, 2) := by decide +kernel
theorem dX2_noteNumber_7 : decode cX2_noteNumber 7 = .ok (.aload_n 0, 1) := by decide +kernel
theorem dX2_noteNumber_8 : decode cX2_noteNumber 8 = .ok (.getfield 64, 3) := by decide +kernel
theorem dX2_noteNumber_11 : decode cX2_noteNumber 11 = .ok (.if_icmp .ge 33, 3) := by decide +kernel
theorem dX2_noteNumber_14 : decode cX2_noteNumber 14 = .ok (.aload_n 0, 1) := by decide +kernel
theorem dX2_noteNumber_15 : decode cX2_noteNumber 15 = .ok (.iload 4, 2) := by decide +kernel
theorem dX2_noteNumber_17 : decode cX2_noteNumber 17 = .ok (.invokevirtual 152, 3) := by decide +kernel
theorem dX2_noteNumber_20 : decode cX2_noteNumber 20 = .ok (.iload_n 1, 1) := by decide +kernel
theorem dX2_noteNumber_21 : decode cX2_noteNumber 21 = .ok (.invokestatic 155, 3) := by decide +kernel
theorem dX2_noteNumber_24 : decode cX2_noteNumber 24 = .ok (.ifCond .eq 14, 3) := by decide +kernel
theorem dX2_noteNumber_27 : decode cX2_noteNumber 27 = .ok (.iload_n 3, 1) := by decide +kernel
theorem dX2_noteNumber_28 : decode cX2_noteNumber 28 = .ok (.iload_n 2, 1) := by decide +kernel
theorem dX2_noteNumber_29 : decode cX2_noteNumber 29 = .ok (.if_icmp .ne 6, 3) := by decide +kernel
theorem dX2_noteNumber_32 : decode cX2_noteNumber 32 = .ok (.iload 4, 2) := by decide +kernel
theorem dX2_noteNumber_34 : decode cX2_noteNumber 34 = .ok (.ireturn, 1) := by decide +kernel
theorem dX2_noteNumber_35 : decode cX2_noteNumber 35 = .ok (.iinc 3 1, 3) := by decide +kernel
theorem dX2_noteNumber_38 : decode cX2_noteNumber 38 = .ok (.iinc 4 1, 3) := by decide +kernel
theorem dX2_noteNumber_41 : decode cX2_noteNumber 41 = .ok (.goto (-36), 3) := by decide +kernel
theorem dX2_noteNumber_44 : decode cX2_noteNumber 44 = .ok (.iconst (-1), 1) := by decide +kernel
theorem dX2_noteNumber_45 : decode cX2_noteNumber 45 = .ok (.ireturn, 1) := by decide +kernel
def w_X2_noteNumber_5 (I : mI) (o : Nat) (oh : Nat) (a1 : Int32) (a2 : Int32) (post : Int32 → Prop) (v3 : Int32) (v4 : Int32) : Prop := ∀ ZZ : (Int32 → Int32 → Prop), (∀ (v3 : Int32) (v4 : Int32), (((I o 2) ≤ v4 → post (-1)) ∧ (¬ (I o 2) ≤ v4 → w_X2_notedBy I o oh v4 (fun r1 => w_X11_has r1 a1 (fun b2 => (b2 = false → ∀ x3, x3 = v4 + 1 → ZZ v3 x3) ∧ (b2 = true → (¬ v3 = a2 → ∀ x4, x4 = v3 + 1 → ∀ x5, x5 = v4 + 1 → ZZ x4 x5) ∧ (v3 = a2 → post v4)))))) → ZZ v3 v4) → ZZ v3 v4
set_option maxRecDepth 100000 in
set_option maxHeartbeats 4000000 in
theorem s_X2_noteNumber_5 {p : Program} {l : Launch} {e : Env} {s : State} {m : MethodId} {args : Array Value} {below : List Frame} {meth : Method} {c : Code} {D : va_G} {cA : Nat → ClassId} {Z : mZ} {bs : Ad} {n : Nat} {K : mK} {R : mR} {I : mI} {L : mL} (E : Ev p s m args c cX2_noteNumber 5 RX2 D cA Z bs) (hr : meth.sig.returnType = (some .int)) (hlk : meth.locks = false) {o : Nat} {oh : Nat} {a1 : Int32} {a2 : Int32} (ho : isX2 K R o oh) {post : Int32 → Prop} {v3 : Int32} {v4 : Int32} {H : Heap} {locs : List Loc} {ls : Array Slot} (hw : w_X2_noteNumber_5 I o oh a1 a2 post v3 v4) (hM : mm D cA bs (n, K, R, I, L) H) (hS : va_S (Ab bs) s.heap H locs) (hl : lv_has ls 5 [(0, .ref (ad bs o)), (1, .int a1), (2, .int a2), (3, .int v3), (4, .int v4)]) : W p l e ({ frames := 1, cells := 0, slots := 0, locals := 21 } : Room) s m args below meth c H locs 0 0 (MQ below (QI D cA bs (fun r u => u = (n, K, R, I, L) ∧ post r)) args s 0 0 (Ab bs)) (F0 m 5 ls []) := by
  have hx := E.1.1
  have hb := E.1.2.1
  refine hw (fun v3 v4 => ∀ (H : Heap) (locs : List Loc) (ls : Array Slot), mm D cA bs (n, K, R, I, L) H → va_S (Ab bs) s.heap H locs → lv_has ls 5 [(0, .ref (ad bs o)), (1, .int a1), (2, .int a2), (3, .int v3), (4, .int v4)] → W p l e ({ frames := 1, cells := 0, slots := 0, locals := 21 } : Room) s m args below meth c H locs 0 0 (MQ below (QI D cA bs (fun r u => u = (n, K, R, I, L) ∧ post r)) args s 0 0 (Ab bs)) (F0 m 5 ls [])) ?_ H locs ls hM hS hl
  clear hw hM hS hl
  intro v3 v4 hw H locs ls hM hS hl
  refine lv_iload hx hb dX2_noteNumber_5 (lv_at hl 4 rfl) ?_
  refine lv_aload_n hx hb dX2_noteNumber_7 rfl (lv_at hl 0 rfl) ?_
  refine m_geti E hM fs_X2_64 ho.1.1 dX2_noteNumber_8 ?_
  refine lv_icmp_ge (tgt := 44) hx hb dX2_noteNumber_11 (by decide) (fun cq => ?_) (fun cq => ?_)
  · have hw := hw.1 cq
    refine lv_iconst (v := (-1)) hx hb dX2_noteNumber_44 (by decide) ?_
    exact m_reti hx hb hr hlk hM hS ⟨rfl, hw⟩ dX2_noteNumber_45
  · have hw := hw.2 cq
    refine lv_aload_n hx hb dX2_noteNumber_14 rfl (lv_at hl 0 rfl) ?_
    refine lv_iload hx hb dX2_noteNumber_15 (lv_at hl 4 rfl) ?_
    refine m_ci (m_runV E hM hS cs_X2_152 ho.1.1 (by decide) rfl rfl (c_X2_notedBy ho hw) rfl rfl ⟨Nat.le_of_ble_eq_true rfl, Nat.le_of_ble_eq_true rfl⟩ rfl hl.1 rfl (Nat.le_of_ble_eq_true rfl) dX2_noteNumber_17 ⟨Nat.le_of_ble_eq_true rfl, Nat.le_of_ble_eq_true rfl⟩) hS (fun r1 u H locs hp hM hS => ?_)
    obtain ⟨rfl, hw⟩ := hp
    refine lv_iload_n hx hb dX2_noteNumber_20 rfl (lv_at hl 1 rfl) ?_
    refine m_ci (m_runSN E hM hS cs_X2_155 (c_X11_has  hw) rfl rfl ⟨Nat.le_of_ble_eq_true rfl, Nat.le_of_ble_eq_true rfl⟩ rfl hl.1 rfl (Nat.le_of_ble_eq_true rfl) dX2_noteNumber_21 ⟨Nat.le_of_ble_eq_true rfl, Nat.le_of_ble_eq_true rfl⟩) hS (fun r9 u H locs hp hM hS => ?_)
    obtain ⟨b2, rfl, rfl, hw⟩ := hp
    refine lv_if_eq (tgt := 38) hx hb dX2_noteNumber_24 (by decide) (fun cq => ?_) (fun cq => ?_)
    · have hw := hw.1 (bI_f cq)
      obtain ⟨x3, ex3⟩ : ∃ y : Int32, y = v4 + 1 := ⟨_, rfl⟩
      have hw := hw x3 ex3
      refine lv_iinc (v := x3) (lv' := [(4, .int x3), (0, .ref (ad bs o)), (1, .int a1), (2, .int a2), (3, .int v3)]) hx hb dX2_noteNumber_38 hl (k := 4) rfl (by rw [ex3]; rfl) (by decide) rfl (fun ls hl => ?_)
      refine lv_goto (tgt := 5) hx hb dX2_noteNumber_41 (by decide) ?_
      exact hw H locs ls  hM hS (lv_sub hl [1, 2, 3, 4, 0] rfl)
    · have hw := hw.2 (bI_t cq)
      refine lv_iload_n hx hb dX2_noteNumber_27 rfl (lv_at hl 3 rfl) ?_
      refine lv_iload_n hx hb dX2_noteNumber_28 rfl (lv_at hl 2 rfl) ?_
      refine lv_icmp_ne (tgt := 35) hx hb dX2_noteNumber_29 (by decide) (fun cq => ?_) (fun cq => ?_)
      · have hw := hw.1 cq
        obtain ⟨x4, ex4⟩ : ∃ y : Int32, y = v3 + 1 := ⟨_, rfl⟩
        have hw := hw x4 ex4
        refine lv_iinc (v := x4) (lv' := [(3, .int x4), (0, .ref (ad bs o)), (1, .int a1), (2, .int a2), (4, .int v4)]) hx hb dX2_noteNumber_35 hl (k := 3) rfl (by rw [ex4]; rfl) (by decide) rfl (fun ls hl => ?_)
        obtain ⟨x5, ex5⟩ : ∃ y : Int32, y = v4 + 1 := ⟨_, rfl⟩
        have hw := hw x5 ex5
        refine lv_iinc (v := x5) (lv' := [(4, .int x5), (3, .int x4), (0, .ref (ad bs o)), (1, .int a1), (2, .int a2)]) hx hb dX2_noteNumber_38 hl (k := 4) rfl (by rw [ex5]; rfl) (by decide) rfl (fun ls hl => ?_)
        refine lv_goto (tgt := 5) hx hb dX2_noteNumber_41 (by decide) ?_
        exact hw H locs ls  hM hS (lv_sub hl [2, 3, 4, 1, 0] rfl)
      · have hw := hw.2 cq
        refine lv_iload hx hb dX2_noteNumber_32 (lv_at hl 4 rfl) ?_
        exact m_reti hx hb hr hlk hM hS ⟨rfl, hw⟩ dX2_noteNumber_34
def w_X2_noteNumber (I : mI) (o : Nat) (oh : Nat) (a1 : Int32) (a2 : Int32) (post : Int32 → Prop) : Prop := (w_X2_noteNumber_5 I o oh a1 a2 post) 0 0
set_option maxRecDepth 100000 in
set_option maxHeartbeats 4000000 in
theorem c_X2_noteNumber {l : Launch} {D : va_G} {cA : Nat → ClassId} {Z : mZ} {bs : Ad} {n : Nat} {K : mK} {R : mR} {I : mI} {L : mL} {o : Nat} {oh : Nat} {a1 : Int32} {a2 : Int32} {post : Int32 → Prop} (ho : isX2 K R o oh) (hw : w_X2_noteNumber I o oh a1 a2 post) : Met l yX2_noteNumber (.code yX2_noteNumber cX2_noteNumber 5 (some .int) :: gw) ({ frames := 1, cells := 0, slots := 0, locals := 21 } : Room) (PreM D cA Z bs (n, K, R, I, L) [.ref (ad bs o), .int a1, .int a2]) (QI D cA bs (fun r u => u = (n, K, R, I, L) ∧ post r)) 0 0 (Ab bs) := by
  refine m_met (by decide) (Nat.le_of_ble_eq_true rfl) (fun p e s m below meth c ls E hr hlk hM hS hl => ?_)
  have E : Ev p s m _ c cX2_noteNumber 5 RX2 D cA Z bs := E
  have hl : lv_has ls 5 [(0, .ref (ad bs o)), (1, .int a1), (2, .int a2)] := hl
  have hx := E.1.1
  have hb := E.1.2.1
  generalize hHe : s.heap = H at hM ⊢
  have hS : va_S (Ab bs) s.heap H [] := by rw [← hHe]; exact va_S.rf
  clear hHe
  refine lv_iconst (v := 0) hx hb dX2_noteNumber_0 (by decide) ?_
  refine lv_istore_n (lv' := [(3, .int 0), (0, .ref (ad bs o)), (1, .int a1), (2, .int a2)]) hx hb dX2_noteNumber_1 rfl hl (by decide) rfl (fun ls hl => ?_)
  refine lv_iconst (v := 0) hx hb dX2_noteNumber_2 (by decide) ?_
  refine lv_istore (lv' := [(4, .int 0), (3, .int 0), (0, .ref (ad bs o)), (1, .int a1), (2, .int a2)]) hx hb dX2_noteNumber_3 hl (by decide) rfl (fun ls hl => ?_)
  exact s_X2_noteNumber_5 E hr hlk ho  hw hM hS (lv_sub hl [2, 3, 4, 1, 0] rfl)
theorem dX2_echoShoe_0 : decode cX2_echoShoe 0 = .ok (.aload_n 0, 1) := by decide +kernel
theorem dX2_echoShoe_1 : decode cX2_echoShoe 1 = .ok (.getfield 33, 3) := by decide +kernel
theorem dX2_echoShoe_4 : decode cX2_echoShoe 4 = .ok (.iload_n 1, 1) := by decide +kernel
theorem dX2_echoShoe_5 : decode cX2_echoShoe 5 = .ok (.iaload, 1) := by decide +kernel
theorem dX2_echoShoe_6 : decode cX2_echoShoe 6 = .ok (.iload_n 2, 1) := by decide +kernel
theorem dX2_echoShoe_7 : decode cX2_echoShoe 7 = .ok (.invokestatic 155, 3) := by decide +kernel
theorem dX2_echoShoe_10 : decode cX2_echoShoe 10 = .ok (.ifCond .eq 27, 3) := by decide +kernel
theorem dX2_echoShoe_13 : decode cX2_echoShoe 13 = .ok (.aload_n 0, 1) := by decide +kernel
theorem dX2_echoShoe_14 : decode cX2_echoShoe 14 = .ok (.getfield 27, 3) := by decide +kernel
theorem dX2_echoShoe_17 : decode cX2_echoShoe 17 = .ok (.iload_n 1, 1) := by decide +kernel
theorem dX2_echoShoe_18 : decode cX2_echoShoe 18 = .ok (.iaload, 1) := by decide +kernel
theorem dX2_echoShoe_19 : decode cX2_echoShoe 19 = .ok (.iconst (-1), 1) := by decide +kernel
theorem dX2_echoShoe_20 : decode cX2_echoShoe 20 = .ok (.if_icmp .eq 17, 3) := by decide +kernel
theorem dX2_echoShoe_23 : decode cX2_echoShoe 23 = .ok (.aload_n 0, 1) := by decide +kernel
theorem dX2_echoShoe_24 : decode cX2_echoShoe 24 = .ok (.getfield 21, 3) := by decide +kernel
theorem dX2_echoShoe_27 : decode cX2_echoShoe 27 = .ok (.aload_n 0, 1) := by decide +kernel
theorem dX2_echoShoe_28 : decode cX2_echoShoe 28 = .ok (.getfield 27, 3) := by decide +kernel
theorem dX2_echoShoe_31 : decode cX2_echoShoe 31 = .ok (.iload_n 1, 1) := by decide +kernel
theorem dX2_echoShoe_32 : decode cX2_echoShoe 32 = .ok (.iaload, 1) := by decide +kernel
theorem dX2_echoShoe_33 : decode cX2_echoShoe 33 = .ok (.iaload, 1) := by decide +kernel
theorem dX2_echoShoe_34 : decode cX2_echoShoe 34 = .ok (.goto 4, 3) := by decide +kernel
theorem dX2_echoShoe_37 : decode cX2_echoShoe 37 = .ok (.iconst (-1), 1) := by decide +kernel
theorem dX2_echoShoe_38 : decode cX2_echoShoe 38 = .ok (.ireturn, 1) := by decide +kernel
def w_X2_echoShoe (I : mI) (o : Nat) (oh : Nat) (a1 : Int32) (a2 : Int32) (post : Int32 → Prop) : Prop := vp_in a1 600 ∧ w_X11_has (I (o + 8) a1.toNatClampNeg) a2 (fun b1 => (b1 = false → post (-1)) ∧ (b1 = true → vp_in a1 600 ∧ ((I (o + 6) a1.toNatClampNeg) = (-1) → post (-1)) ∧ (¬ (I (o + 6) a1.toNatClampNeg) = (-1) → vp_in a1 600 ∧ vp_in (I (o + 6) a1.toNatClampNeg) 600 ∧ post (I (o + 4) (I (o + 6) a1.toNatClampNeg).toNatClampNeg))))
set_option maxRecDepth 100000 in
set_option maxHeartbeats 4000000 in
theorem c_X2_echoShoe {l : Launch} {D : va_G} {cA : Nat → ClassId} {Z : mZ} {bs : Ad} {n : Nat} {K : mK} {R : mR} {I : mI} {L : mL} {o : Nat} {oh : Nat} {a1 : Int32} {a2 : Int32} {post : Int32 → Prop} (ho : isX2 K R o oh) (hw : w_X2_echoShoe I o oh a1 a2 post) : Met l yX2_echoShoe (.code yX2_echoShoe cX2_echoShoe 3 (some .int) :: gw) ({ frames := 1, cells := 0, slots := 0, locals := 21 } : Room) (PreM D cA Z bs (n, K, R, I, L) [.ref (ad bs o), .int a1, .int a2]) (QI D cA bs (fun r u => u = (n, K, R, I, L) ∧ post r)) 0 0 (Ab bs) := by
  refine m_met (by decide) (Nat.le_of_ble_eq_true rfl) (fun p e s m below meth c ls E hr hlk hM hS hl => ?_)
  have E : Ev p s m _ c cX2_echoShoe 3 RX2 D cA Z bs := E
  have hl : lv_has ls 3 [(0, .ref (ad bs o)), (1, .int a1), (2, .int a2)] := hl
  have hx := E.1.1
  have hb := E.1.2.1
  generalize hHe : s.heap = H at hM ⊢
  have hS : va_S (Ab bs) s.heap H [] := by rw [← hHe]; exact va_S.rf
  clear hHe
  refine lv_aload_n hx hb dX2_echoShoe_0 rfl (lv_at hl 0 rfl) ?_
  refine m_getr E hM fs_X2_33 ho.1.1 (isO_at ho.1 7 rfl).1 dX2_echoShoe_1 ?_
  refine lv_iload_n hx hb dX2_echoShoe_4 rfl (lv_at hl 1 rfl) ?_
  obtain ⟨hv, hw⟩ := hw
  refine m_iald E hM (isO_at ho.1 7 rfl).2 hv dX2_echoShoe_5 ?_
  refine lv_iload_n hx hb dX2_echoShoe_6 rfl (lv_at hl 2 rfl) ?_
  refine m_ci (m_runSN E hM hS cs_X2_155 (c_X11_has  hw) rfl rfl ⟨Nat.le_of_ble_eq_true rfl, Nat.le_of_ble_eq_true rfl⟩ rfl hl.1 rfl (Nat.le_of_ble_eq_true rfl) dX2_echoShoe_7 ⟨Nat.le_of_ble_eq_true rfl, Nat.le_of_ble_eq_true rfl⟩) hS (fun r9 u H locs hp hM hS => ?_)
  obtain ⟨b1, rfl, rfl, hw⟩ := hp
  refine lv_if_eq (tgt := 37) hx hb dX2_echoShoe_10 (by decide) (fun cq => ?_) (fun cq => ?_)
  · have hw := hw.1 (bI_f cq)
    refine lv_iconst (v := (-1)) hx hb dX2_echoShoe_37 (by decide) ?_
    exact m_reti hx hb hr hlk hM hS ⟨rfl, hw⟩ dX2_echoShoe_38
  · have hw := hw.2 (bI_t cq)
    refine lv_aload_n hx hb dX2_echoShoe_13 rfl (lv_at hl 0 rfl) ?_
    refine m_getr E hM fs_X2_27 ho.1.1 (isO_at ho.1 5 rfl).1 dX2_echoShoe_14 ?_
    refine lv_iload_n hx hb dX2_echoShoe_17 rfl (lv_at hl 1 rfl) ?_
    obtain ⟨hv, hw⟩ := hw
    refine m_iald E hM (isO_at ho.1 5 rfl).2 hv dX2_echoShoe_18 ?_
    refine lv_iconst (v := (-1)) hx hb dX2_echoShoe_19 (by decide) ?_
    refine lv_icmp_eq (tgt := 37) hx hb dX2_echoShoe_20 (by decide) (fun cq => ?_) (fun cq => ?_)
    · have hw := hw.1 cq
      refine lv_iconst (v := (-1)) hx hb dX2_echoShoe_37 (by decide) ?_
      exact m_reti hx hb hr hlk hM hS ⟨rfl, hw⟩ dX2_echoShoe_38
    · have hw := hw.2 cq
      refine lv_aload_n hx hb dX2_echoShoe_23 rfl (lv_at hl 0 rfl) ?_
      refine m_getr E hM fs_X2_21 ho.1.1 (isO_at ho.1 3 rfl).1 dX2_echoShoe_24 ?_
      refine lv_aload_n hx hb dX2_echoShoe_27 rfl (lv_at hl 0 rfl) ?_
      refine m_getr E hM fs_X2_27 ho.1.1 (isO_at ho.1 5 rfl).1 dX2_echoShoe_28 ?_
      refine lv_iload_n hx hb dX2_echoShoe_31 rfl (lv_at hl 1 rfl) ?_
      obtain ⟨hv, hw⟩ := hw
      refine m_iald E hM (isO_at ho.1 5 rfl).2 hv dX2_echoShoe_32 ?_
      obtain ⟨hv, hw⟩ := hw
      refine m_iald E hM (isO_at ho.1 3 rfl).2 hv dX2_echoShoe_33 ?_
      refine lv_goto (tgt := 38) hx hb dX2_echoShoe_34 (by decide) ?_
      exact m_reti hx hb hr hlk hM hS ⟨rfl, hw⟩ dX2_echoShoe_38
theorem dX2_unheardPeople_0 : decode cX2_unheardPeople 0 = .ok (.iconst 1, 1) := by decide +kernel
theorem dX2_unheardPeople_1 : decode cX2_unheardPeople 1 = .ok (.aload_n 0, 1) := by decide +kernel
theorem dX2_unheardPeople_2 : decode cX2_unheardPeople 2 = .ok (.getfield 60, 3) := by decide +kernel
theorem dX2_unheardPeople_5 : decode cX2_unheardPeople 5 = .ok (.getfield 77, 3) := by decide +kernel
theorem dX2_unheardPeople_8 : decode cX2_unheardPeople 8 = .ok (.ishl, 1) := by decide +kernel
theorem dX2_unheardPeople_9 : decode cX2_unheardPeople 9 = .ok (.iconst 1, 1) := by decide +kernel
theorem dX2_unheardPeople_10 : decode cX2_unheardPeople 10 = .ok (.isub, 1) := by decide +kernel
theorem dX2_unheardPeople_11 : decode cX2_unheardPeople 11 = .ok (.istore_n 1, 1) := by decide +kernel
theorem dX2_unheardPeople_12 : decode cX2_unheardPeople 12 = .ok (.iconst 0, 1) := by decide +kernel
theorem dX2_unheardPeople_13 : decode cX2_unheardPeople 13 = .ok (.istore_n 2, 1) := by decide +kernel
theorem dX2_unheardPeople_14 : decode cX2_unheardPeople 14 = .ok (.iload_n 2, 1) := by decide +kernel
theorem dX2_unheardPeople_15 : decode cX2_unheardPeople 15 = .ok (.aload_n 0, 1) := by decide +kernel
theorem dX2_unheardPeople_16 : decode cX2_unheardPeople 16 = .ok (.getfield 64, 3) := by decide +kernel
theorem dX2_unheardPeople_19 : decode cX2_unheardPeople 19 = .ok (.if_icmp .ge 31, 3) := by decide +kernel
theorem dX2_unheardPeople_22 : decode cX2_unheardPeople 22 = .ok (.aload_n 0, 1) := by decide +kernel
theorem dX2_unheardPeople_23 : decode cX2_unheardPeople 23 = .ok (.getfield 30, 3) := by decide +kernel
theorem dX2_unheardPeople_26 : decode cX2_unheardPeople 26 = .ok (.iload_n 2, 1) := by decide +kernel
theorem dX2_unheardPeople_27 : decode cX2_unheardPeople 27 = .ok (.iaload, 1) := by decide +kernel
theorem dX2_unheardPeople_28 : decode cX2_unheardPeople 28 = .ok (.ifCond .eq 16, 3) := by decide +kernel
theorem dX2_unheardPeople_31 : decode cX2_unheardPeople 31 = .ok (.iload_n 1, 1) := by decide +kernel
theorem dX2_unheardPeople_32 : decode cX2_unheardPeople 32 = .ok (.iconst 1, 1) := by decide +kernel
theorem dX2_unheardPeople_33 : decode cX2_unheardPeople 33 = .ok (.aload_n 0, 1) := by decide +kernel
theorem dX2_unheardPeople_34 : decode cX2_unheardPeople 34 = .ok (.getfield 9, 3) := by decide +kernel
theorem dX2_unheardPeople_37 : decode cX2_unheardPeople 37 = .ok (.iload_n 2, 1) := by decide +kernel
theorem dX2_unheardPeople_38 : decode cX2_unheardPeople 38 = .ok (.iaload, 1) := by decide +kernel
theorem dX2_unheardPeople_39 : decode cX2_unheardPeople 39 = .ok (.ishl, 1) := by decide +kernel
theorem dX2_unheardPeople_40 : decode cX2_unheardPeople 40 = .ok (.iconst (-1), 1) := by decide +kernel
theorem dX2_unheardPeople_41 : decode cX2_unheardPeople 41 = .ok (.ixor, 1) := by decide +kernel
theorem dX2_unheardPeople_42 : decode cX2_unheardPeople 42 = .ok (.iand, 1) := by decide +kernel
theorem dX2_unheardPeople_43 : decode cX2_unheardPeople 43 = .ok (.istore_n 1, 1) := by decide +kernel
theorem dX2_unheardPeople_44 : decode cX2_unheardPeople 44 = .ok (.iinc 2 1, 3) := by decide +kernel
theorem dX2_unheardPeople_47 : decode cX2_unheardPeople 47 = .ok (.goto (-33), 3) := by decide +kernel
theorem dX2_unheardPeople_50 : decode cX2_unheardPeople 50 = .ok (.iload_n 1, 1) := by decide +kernel
theorem dX2_unheardPeople_51 : decode cX2_unheardPeople 51 = .ok (.ireturn, 1) := by decide +kernel
def w_X2_unheardPeople_14 (I : mI) (o : Nat) (oh : Nat) (post : Int32 → Prop) (v1 : Int32) (v2 : Int32) : Prop := ∀ ZZ : (Int32 → Int32 → Prop), (∀ (v1 : Int32) (v2 : Int32), (((I o 2) ≤ v2 → post v1) ∧ (¬ (I o 2) ≤ v2 → vp_in v2 600 ∧ ((I (o + 7) v2.toNatClampNeg) = 0 → ∀ x2, x2 = v2 + 1 → ZZ v1 x2) ∧ (¬ (I (o + 7) v2.toNatClampNeg) = 0 → vp_in v2 600 ∧ ∀ x3, x3 = (v1 &&& ((1 <<< ((I (o + 1) v2.toNatClampNeg) &&& 31)) ^^^ (-1))) → ∀ x4, x4 = v2 + 1 → ZZ x3 x4))) → ZZ v1 v2) → ZZ v1 v2
set_option maxRecDepth 100000 in
set_option maxHeartbeats 4000000 in
theorem s_X2_unheardPeople_14 {p : Program} {l : Launch} {e : Env} {s : State} {m : MethodId} {args : Array Value} {below : List Frame} {meth : Method} {c : Code} {D : va_G} {cA : Nat → ClassId} {Z : mZ} {bs : Ad} {n : Nat} {K : mK} {R : mR} {I : mI} {L : mL} (E : Ev p s m args c cX2_unheardPeople 3 RX2 D cA Z bs) (hr : meth.sig.returnType = (some .int)) (hlk : meth.locks = false) {o : Nat} {oh : Nat} (ho : isX2 K R o oh) {post : Int32 → Prop} {v1 : Int32} {v2 : Int32} {H : Heap} {locs : List Loc} {ls : Array Slot} (hw : w_X2_unheardPeople_14 I o oh post v1 v2) (hM : mm D cA bs (n, K, R, I, L) H) (hS : va_S (Ab bs) s.heap H locs) (hl : lv_has ls 3 [(0, .ref (ad bs o)), (1, .int v1), (2, .int v2)]) : W p l e ({ frames := 0, cells := 0, slots := 0, locals := 0 } : Room) s m args below meth c H locs 0 0 (MQ below (QI D cA bs (fun r u => u = (n, K, R, I, L) ∧ post r)) args s 0 0 (Ab bs)) (F0 m 14 ls []) := by
  have hx := E.1.1
  have hb := E.1.2.1
  refine hw (fun v1 v2 => ∀ (H : Heap) (locs : List Loc) (ls : Array Slot), mm D cA bs (n, K, R, I, L) H → va_S (Ab bs) s.heap H locs → lv_has ls 3 [(0, .ref (ad bs o)), (1, .int v1), (2, .int v2)] → W p l e ({ frames := 0, cells := 0, slots := 0, locals := 0 } : Room) s m args below meth c H locs 0 0 (MQ below (QI D cA bs (fun r u => u = (n, K, R, I, L) ∧ post r)) args s 0 0 (Ab bs)) (F0 m 14 ls [])) ?_ H locs ls hM hS hl
  clear hw hM hS hl
  intro v1 v2 hw H locs ls hM hS hl
  refine lv_iload_n hx hb dX2_unheardPeople_14 rfl (lv_at hl 2 rfl) ?_
  refine lv_aload_n hx hb dX2_unheardPeople_15 rfl (lv_at hl 0 rfl) ?_
  refine m_geti E hM fs_X2_64 ho.1.1 dX2_unheardPeople_16 ?_
  refine lv_icmp_ge (tgt := 50) hx hb dX2_unheardPeople_19 (by decide) (fun cq => ?_) (fun cq => ?_)
  · have hw := hw.1 cq
    refine lv_iload_n hx hb dX2_unheardPeople_50 rfl (lv_at hl 1 rfl) ?_
    exact m_reti hx hb hr hlk hM hS ⟨rfl, hw⟩ dX2_unheardPeople_51
  · have hw := hw.2 cq
    refine lv_aload_n hx hb dX2_unheardPeople_22 rfl (lv_at hl 0 rfl) ?_
    refine m_getr E hM fs_X2_30 ho.1.1 (isO_at ho.1 6 rfl).1 dX2_unheardPeople_23 ?_
    refine lv_iload_n hx hb dX2_unheardPeople_26 rfl (lv_at hl 2 rfl) ?_
    obtain ⟨hv, hw⟩ := hw
    refine m_iald E hM (isO_at ho.1 6 rfl).2 hv dX2_unheardPeople_27 ?_
    refine lv_if_eq (tgt := 44) hx hb dX2_unheardPeople_28 (by decide) (fun cq => ?_) (fun cq => ?_)
    · have hw := hw.1 cq
      obtain ⟨x2, ex2⟩ : ∃ y : Int32, y = v2 + 1 := ⟨_, rfl⟩
      have hw := hw x2 ex2
      refine lv_iinc (v := x2) (lv' := [(2, .int x2), (0, .ref (ad bs o)), (1, .int v1)]) hx hb dX2_unheardPeople_44 hl (k := 2) rfl (by rw [ex2]; rfl) (by decide) rfl (fun ls hl => ?_)
      refine lv_goto (tgt := 14) hx hb dX2_unheardPeople_47 (by decide) ?_
      exact hw H locs ls  hM hS (lv_sub hl [1, 2, 0] rfl)
    · have hw := hw.2 cq
      refine lv_iload_n hx hb dX2_unheardPeople_31 rfl (lv_at hl 1 rfl) ?_
      refine lv_iconst (v := 1) hx hb dX2_unheardPeople_32 (by decide) ?_
      refine lv_aload_n hx hb dX2_unheardPeople_33 rfl (lv_at hl 0 rfl) ?_
      refine m_getr E hM fs_X2_9 ho.1.1 (isO_at ho.1 0 rfl).1 dX2_unheardPeople_34 ?_
      refine lv_iload_n hx hb dX2_unheardPeople_37 rfl (lv_at hl 2 rfl) ?_
      obtain ⟨hv, hw⟩ := hw
      refine m_iald E hM (isO_at ho.1 0 rfl).2 hv dX2_unheardPeople_38 ?_
      refine lv_ishl hx hb dX2_unheardPeople_39 ?_
      refine lv_iconst (v := (-1)) hx hb dX2_unheardPeople_40 (by decide) ?_
      refine lv_ixor hx hb dX2_unheardPeople_41 ?_
      refine lv_iand hx hb dX2_unheardPeople_42 ?_
      refine lv_topi (fun x3 ex3 => ?_)
      have hw := hw x3 ex3
      refine lv_istore_n (lv' := [(1, .int x3), (0, .ref (ad bs o)), (2, .int v2)]) hx hb dX2_unheardPeople_43 rfl hl (by decide) rfl (fun ls hl => ?_)
      obtain ⟨x4, ex4⟩ : ∃ y : Int32, y = v2 + 1 := ⟨_, rfl⟩
      have hw := hw x4 ex4
      refine lv_iinc (v := x4) (lv' := [(2, .int x4), (1, .int x3), (0, .ref (ad bs o))]) hx hb dX2_unheardPeople_44 hl (k := 2) rfl (by rw [ex4]; rfl) (by decide) rfl (fun ls hl => ?_)
      refine lv_goto (tgt := 14) hx hb dX2_unheardPeople_47 (by decide) ?_
      exact hw H locs ls  hM hS (lv_sub hl [2, 1, 0] rfl)
def w_X2_unheardPeople (I : mI) (o : Nat) (oh : Nat) (post : Int32 → Prop) : Prop := ∀ x1, x1 = ((1 <<< ((I oh 3) &&& 31)) - 1) → (w_X2_unheardPeople_14 I o oh post) x1 0
set_option maxRecDepth 100000 in
set_option maxHeartbeats 4000000 in
theorem c_X2_unheardPeople {l : Launch} {D : va_G} {cA : Nat → ClassId} {Z : mZ} {bs : Ad} {n : Nat} {K : mK} {R : mR} {I : mI} {L : mL} {o : Nat} {oh : Nat} {post : Int32 → Prop} (ho : isX2 K R o oh) (hw : w_X2_unheardPeople I o oh post) : Met l yX2_unheardPeople (.code yX2_unheardPeople cX2_unheardPeople 3 (some .int) :: gw) ({ frames := 0, cells := 0, slots := 0, locals := 0 } : Room) (PreM D cA Z bs (n, K, R, I, L) [.ref (ad bs o)]) (QI D cA bs (fun r u => u = (n, K, R, I, L) ∧ post r)) 0 0 (Ab bs) := by
  refine m_met (by decide) (Nat.le_of_ble_eq_true rfl) (fun p e s m below meth c ls E hr hlk hM hS hl => ?_)
  have E : Ev p s m _ c cX2_unheardPeople 3 RX2 D cA Z bs := E
  have hl : lv_has ls 3 [(0, .ref (ad bs o))] := hl
  have hx := E.1.1
  have hb := E.1.2.1
  generalize hHe : s.heap = H at hM ⊢
  have hS : va_S (Ab bs) s.heap H [] := by rw [← hHe]; exact va_S.rf
  clear hHe
  refine lv_iconst (v := 1) hx hb dX2_unheardPeople_0 (by decide) ?_
  refine lv_aload_n hx hb dX2_unheardPeople_1 rfl (lv_at hl 0 rfl) ?_
  refine m_getr E hM fs_X2_60 ho.1.1 ho.2.1 dX2_unheardPeople_2 ?_
  refine m_geti E hM fs_X2_77 ho.2.2.1 dX2_unheardPeople_5 ?_
  refine lv_ishl hx hb dX2_unheardPeople_8 ?_
  refine lv_iconst (v := 1) hx hb dX2_unheardPeople_9 (by decide) ?_
  refine lv_isub hx hb dX2_unheardPeople_10 ?_
  refine lv_topi (fun x1 ex1 => ?_)
  have hw := hw x1 ex1
  refine lv_istore_n (lv' := [(1, .int x1), (0, .ref (ad bs o))]) hx hb dX2_unheardPeople_11 rfl hl (by decide) rfl (fun ls hl => ?_)
  refine lv_iconst (v := 0) hx hb dX2_unheardPeople_12 (by decide) ?_
  refine lv_istore_n (lv' := [(2, .int 0), (1, .int x1), (0, .ref (ad bs o))]) hx hb dX2_unheardPeople_13 rfl hl (by decide) rfl (fun ls hl => ?_)
  exact s_X2_unheardPeople_14 E hr hlk ho  hw hM hS (lv_sub hl [2, 1, 0] rfl)
theorem dX2_longestRing_0 : decode cX2_longestRing 0 = .ok (.iconst 0, 1) := by decide +kernel
theorem dX2_longestRing_1 : decode cX2_longestRing 1 = .ok (.istore_n 1, 1) := by decide +kernel
theorem dX2_longestRing_2 : decode cX2_longestRing 2 = .ok (.iconst 0, 1) := by decide +kernel
theorem dX2_longestRing_3 : decode cX2_longestRing 3 = .ok (.istore_n 2, 1) := by decide +kernel
theorem dX2_longestRing_4 : decode cX2_longestRing 4 = .ok (.iload_n 2, 1) := by decide +kernel
theorem dX2_longestRing_5 : decode cX2_longestRing 5 = .ok (.aload_n 0, 1) := by decide +kernel
theorem dX2_longestRing_6 : decode cX2_longestRing 6 = .ok (.getfield 64, 3) := by decide +kernel
theorem dX2_longestRing_9 : decode cX2_longestRing 9 = .ok (.if_icmp .ge 20, 3) := by decide +kernel
theorem dX2_longestRing_12 : decode cX2_longestRing 12 = .ok (.iload_n 1, 1) := by decide +kernel
theorem dX2_longestRing_13 : decode cX2_longestRing 13 = .ok (.aload_n 0, 1) := by decide +kernel
theorem dX2_longestRing_14 : decode cX2_longestRing 14 = .ok (.getfield 36, 3) := by decide +kernel
theorem dX2_longestRing_17 : decode cX2_longestRing 17 = .ok (.iload_n 2, 1) := by decide +kernel
theorem dX2_longestRing_18 : decode cX2_longestRing 18 = .ok (.iaload, 1) := by decide +kernel
theorem dX2_longestRing_19 : decode cX2_longestRing 19 = .ok (.invokestatic 112, 3) := by decide +kernel
theorem dX2_longestRing_22 : decode cX2_longestRing 22 = .ok (.istore_n 1, 1) := by decide +kernel
theorem dX2_longestRing_23 : decode cX2_longestRing 23 = .ok (.iinc 2 1, 3) := by decide +kernel
theorem dX2_longestRing_26 : decode cX2_longestRing 26 = .ok (.goto (-22), 3) := by decide +kernel
theorem dX2_longestRing_29 : decode cX2_longestRing 29 = .ok (.iload_n 1, 1) := by decide +kernel
theorem dX2_longestRing_30 : decode cX2_longestRing 30 = .ok (.ireturn, 1) := by decide +kernel
def w_X2_longestRing_4 (I : mI) (o : Nat) (oh : Nat) (post : Int32 → Prop) (v1 : Int32) (v2 : Int32) : Prop := ∀ ZZ : (Int32 → Int32 → Prop), (∀ (v1 : Int32) (v2 : Int32), (((I o 2) ≤ v2 → post v1) ∧ (¬ (I o 2) ≤ v2 → vp_in v2 600 ∧ ∀ x1, x1 = (imax v1 (I (o + 9) v2.toNatClampNeg)) → ∀ x2, x2 = v2 + 1 → ZZ x1 x2)) → ZZ v1 v2) → ZZ v1 v2
set_option maxRecDepth 100000 in
set_option maxHeartbeats 4000000 in
theorem s_X2_longestRing_4 {p : Program} {l : Launch} {e : Env} {s : State} {m : MethodId} {args : Array Value} {below : List Frame} {meth : Method} {c : Code} {D : va_G} {cA : Nat → ClassId} {Z : mZ} {bs : Ad} {n : Nat} {K : mK} {R : mR} {I : mI} {L : mL} (E : Ev p s m args c cX2_longestRing 3 RX2 D cA Z bs) (hr : meth.sig.returnType = (some .int)) (hlk : meth.locks = false) {o : Nat} {oh : Nat} (ho : isX2 K R o oh) {post : Int32 → Prop} {v1 : Int32} {v2 : Int32} {H : Heap} {locs : List Loc} {ls : Array Slot} (hw : w_X2_longestRing_4 I o oh post v1 v2) (hM : mm D cA bs (n, K, R, I, L) H) (hS : va_S (Ab bs) s.heap H locs) (hl : lv_has ls 3 [(0, .ref (ad bs o)), (1, .int v1), (2, .int v2)]) : W p l e ({ frames := 1, cells := 0, slots := 0, locals := 40 } : Room) s m args below meth c H locs 0 0 (MQ below (QI D cA bs (fun r u => u = (n, K, R, I, L) ∧ post r)) args s 0 0 (Ab bs)) (F0 m 4 ls []) := by
  have hx := E.1.1
  have hb := E.1.2.1
  refine hw (fun v1 v2 => ∀ (H : Heap) (locs : List Loc) (ls : Array Slot), mm D cA bs (n, K, R, I, L) H → va_S (Ab bs) s.heap H locs → lv_has ls 3 [(0, .ref (ad bs o)), (1, .int v1), (2, .int v2)] → W p l e ({ frames := 1, cells := 0, slots := 0, locals := 40 } : Room) s m args below meth c H locs 0 0 (MQ below (QI D cA bs (fun r u => u = (n, K, R, I, L) ∧ post r)) args s 0 0 (Ab bs)) (F0 m 4 ls [])) ?_ H locs ls hM hS hl
  clear hw hM hS hl
  intro v1 v2 hw H locs ls hM hS hl
  refine lv_iload_n hx hb dX2_longestRing_4 rfl (lv_at hl 2 rfl) ?_
  refine lv_aload_n hx hb dX2_longestRing_5 rfl (lv_at hl 0 rfl) ?_
  refine m_geti E hM fs_X2_64 ho.1.1 dX2_longestRing_6 ?_
  refine lv_icmp_ge (tgt := 29) hx hb dX2_longestRing_9 (by decide) (fun cq => ?_) (fun cq => ?_)
  · have hw := hw.1 cq
    refine lv_iload_n hx hb dX2_longestRing_29 rfl (lv_at hl 1 rfl) ?_
    exact m_reti hx hb hr hlk hM hS ⟨rfl, hw⟩ dX2_longestRing_30
  · have hw := hw.2 cq
    refine lv_iload_n hx hb dX2_longestRing_12 rfl (lv_at hl 1 rfl) ?_
    refine lv_aload_n hx hb dX2_longestRing_13 rfl (lv_at hl 0 rfl) ?_
    refine m_getr E hM fs_X2_36 ho.1.1 (isO_at ho.1 8 rfl).1 dX2_longestRing_14 ?_
    refine lv_iload_n hx hb dX2_longestRing_17 rfl (lv_at hl 2 rfl) ?_
    obtain ⟨hv, hw⟩ := hw
    refine m_iald E hM (isO_at ho.1 8 rfl).2 hv dX2_longestRing_18 ?_
    refine m_max E ml_X2_112 hl.1 (Nat.le_of_ble_eq_true rfl) (Nat.le_of_ble_eq_true rfl) (Nat.le_of_ble_eq_true rfl) (Nat.le_of_ble_eq_true rfl) dX2_longestRing_19 ?_
    refine lv_topi (fun x1 ex1 => ?_)
    have hw := hw x1 ex1
    refine lv_istore_n (lv' := [(1, .int x1), (0, .ref (ad bs o)), (2, .int v2)]) hx hb dX2_longestRing_22 rfl hl (by decide) rfl (fun ls hl => ?_)
    obtain ⟨x2, ex2⟩ : ∃ y : Int32, y = v2 + 1 := ⟨_, rfl⟩
    have hw := hw x2 ex2
    refine lv_iinc (v := x2) (lv' := [(2, .int x2), (1, .int x1), (0, .ref (ad bs o))]) hx hb dX2_longestRing_23 hl (k := 2) rfl (by rw [ex2]; rfl) (by decide) rfl (fun ls hl => ?_)
    refine lv_goto (tgt := 4) hx hb dX2_longestRing_26 (by decide) ?_
    exact hw H locs ls  hM hS (lv_sub hl [2, 1, 0] rfl)
def w_X2_longestRing (I : mI) (o : Nat) (oh : Nat) (post : Int32 → Prop) : Prop := (w_X2_longestRing_4 I o oh post) 0 0
set_option maxRecDepth 100000 in
set_option maxHeartbeats 4000000 in
theorem c_X2_longestRing {l : Launch} {D : va_G} {cA : Nat → ClassId} {Z : mZ} {bs : Ad} {n : Nat} {K : mK} {R : mR} {I : mI} {L : mL} {o : Nat} {oh : Nat} {post : Int32 → Prop} (ho : isX2 K R o oh) (hw : w_X2_longestRing I o oh post) : Met l yX2_longestRing (.code yX2_longestRing cX2_longestRing 3 (some .int) :: gw) ({ frames := 1, cells := 0, slots := 0, locals := 40 } : Room) (PreM D cA Z bs (n, K, R, I, L) [.ref (ad bs o)]) (QI D cA bs (fun r u => u = (n, K, R, I, L) ∧ post r)) 0 0 (Ab bs) := by
  refine m_met (by decide) (Nat.le_of_ble_eq_true rfl) (fun p e s m below meth c ls E hr hlk hM hS hl => ?_)
  have E : Ev p s m _ c cX2_longestRing 3 RX2 D cA Z bs := E
  have hl : lv_has ls 3 [(0, .ref (ad bs o))] := hl
  have hx := E.1.1
  have hb := E.1.2.1
  generalize hHe : s.heap = H at hM ⊢
  have hS : va_S (Ab bs) s.heap H [] := by rw [← hHe]; exact va_S.rf
  clear hHe
  refine lv_iconst (v := 0) hx hb dX2_longestRing_0 (by decide) ?_
  refine lv_istore_n (lv' := [(1, .int 0), (0, .ref (ad bs o))]) hx hb dX2_longestRing_1 rfl hl (by decide) rfl (fun ls hl => ?_)
  refine lv_iconst (v := 0) hx hb dX2_longestRing_2 (by decide) ?_
  refine lv_istore_n (lv' := [(2, .int 0), (1, .int 0), (0, .ref (ad bs o))]) hx hb dX2_longestRing_3 rfl hl (by decide) rfl (fun ls hl => ?_)
  exact s_X2_longestRing_4 E hr hlk ho  hw hM hS (lv_sub hl [2, 1, 0] rfl)
theorem dX2_firstMeeting_0 : decode cX2_firstMeeting 0 = .ok (.iconst 0, 1) := by decide +kernel
theorem dX2_firstMeeting_1 : decode cX2_firstMeeting 1 = .ok (.istore_n 3, 1) := by decide +kernel
theorem dX2_firstMeeting_2 : decode cX2_firstMeeting 2 = .ok (.iload_n 3, 1) := by decide +kernel
theorem dX2_firstMeeting_3 : decode cX2_firstMeeting 3 = .ok (.bipush 100, 2) := by decide +kernel
theorem dX2_firstMeeting_5 : decode cX2_firstMeeting 5 = .ok (.if_icmp .ge 36, 3) := by decide +kernel
theorem dX2_firstMeeting_8 : decode cX2_firstMeeting 8 = .ok (.aload_n 0, 1) := by decide +kernel
theorem dX2_firstMeeting_9 : decode cX2_firstMeeting 9 = .ok (.iload_n 1, 1) := by decide +kernel
theorem dX2_firstMeeting_10 : decode cX2_firstMeeting 10 = .ok (.iload_n 3, 1) := by decide +kernel
theorem dX2_firstMeeting_11 : decode cX2_firstMeeting 11 = .ok (.invokevirtual 161, 3) := by decide +kernel
theorem dX2_firstMeeting_14 : decode cX2_firstMeeting 14 = .ok (.iconst (-1), 1) := by decide +kernel
theorem dX2_firstMeeting_15 : decode cX2_firstMeeting 15 = .ok (.if_icmp .eq 20, 3) := by decide +kernel
theorem dX2_firstMeeting_18 : decode cX2_firstMeeting 18 = .ok (.aload_n 0, 1) := by decide +kernel
theorem dX2_firstMeeting_19 : decode cX2_firstMeeting 19 = .ok (.iload_n 1, 1) := by decide +kernel
theorem dX2_firstMeeting_20 : decode cX2_firstMeeting 20 = .ok (.iload_n 3, 1) := by decide +kernel
theorem dX2_firstMeeting_21 : decode cX2_firstMeeting 21 = .ok (.invokevirtual 161, 3) := by decide +kernel
theorem dX2_firstMeeting_24 : decode cX2_firstMeeting 24 = .ok (.aload_n 0, 1) := by decide +kernel
theorem dX2_firstMeeting_25 : decode cX2_firstMeeting 25 = .ok (.iload_n 2, 1) := by decide +kernel
theorem dX2_firstMeeting_26 : decode cX2_firstMeeting 26 = .ok (.iload_n 3, 1) := by decide +kernel
theorem dX2_firstMeeting_27 : decode cX2_firstMeeting 27 = .ok (.invokevirtual 161, 3) := by decide +kernel
theorem dX2_firstMeeting_30 : decode cX2_firstMeeting 30 = .ok (.if_icmp .ne 5, 3) := by decide +kernel
theorem dX2_firstMeeting_33 : decode cX2_firstMeeting 33 = .ok (.iload_n 3, 1) := by decide +kernel
theorem dX2_firstMeeting_34 : decode cX2_firstMeeting 34 = .ok (.ireturn, 1) := by decide +kernel
theorem dX2_firstMeeting_35 : decode cX2_firstMeeting 35 = .ok (.iinc 3 1, 3) := by decide +kernel
theorem dX2_firstMeeting_38 : decode cX2_firstMeeting 38 = .ok (.goto (-36), 3) := by decide +kernel
theorem dX2_firstMeeting_41 : decode cX2_firstMeeting 41 = .ok (.iconst (-1), 1) := by decide +kernel
theorem dX2_firstMeeting_42 : decode cX2_firstMeeting 42 = .ok (.ireturn, 1) := by decide +kernel
def w_X2_firstMeeting_2 (I : mI) (o : Nat) (oh : Nat) (a1 : Int32) (a2 : Int32) (post : Int32 → Prop) (v3 : Int32) : Prop := ∀ ZZ : (Int32 → Prop), (∀ (v3 : Int32), ((100 ≤ v3 → post (-1)) ∧ (¬ 100 ≤ v3 → w_X2_spotAt I o oh a1 v3 (fun r1 => (r1 = (-1) → ∀ x2, x2 = v3 + 1 → ZZ x2) ∧ (¬ r1 = (-1) → w_X2_spotAt I o oh a1 v3 (fun r3 => w_X2_spotAt I o oh a2 v3 (fun r4 => (¬ r3 = r4 → ∀ x5, x5 = v3 + 1 → ZZ x5) ∧ (r3 = r4 → post v3))))))) → ZZ v3) → ZZ v3
set_option maxRecDepth 100000 in
set_option maxHeartbeats 4000000 in
theorem s_X2_firstMeeting_2 {p : Program} {l : Launch} {e : Env} {s : State} {m : MethodId} {args : Array Value} {below : List Frame} {meth : Method} {c : Code} {D : va_G} {cA : Nat → ClassId} {Z : mZ} {bs : Ad} {n : Nat} {K : mK} {R : mR} {I : mI} {L : mL} (E : Ev p s m args c cX2_firstMeeting 4 RX2 D cA Z bs) (hr : meth.sig.returnType = (some .int)) (hlk : meth.locks = false) {o : Nat} {oh : Nat} {a1 : Int32} {a2 : Int32} (ho : isX2 K R o oh) {post : Int32 → Prop} {v3 : Int32} {H : Heap} {locs : List Loc} {ls : Array Slot} (hw : w_X2_firstMeeting_2 I o oh a1 a2 post v3) (hM : mm D cA bs (n, K, R, I, L) H) (hS : va_S (Ab bs) s.heap H locs) (hl : lv_has ls 4 [(0, .ref (ad bs o)), (1, .int a1), (2, .int a2), (3, .int v3)]) : W p l e ({ frames := 2, cells := 0, slots := 0, locals := 45 } : Room) s m args below meth c H locs 0 0 (MQ below (QI D cA bs (fun r u => u = (n, K, R, I, L) ∧ post r)) args s 0 0 (Ab bs)) (F0 m 2 ls []) := by
  have hx := E.1.1
  have hb := E.1.2.1
  refine hw (fun v3 => ∀ (H : Heap) (locs : List Loc) (ls : Array Slot), mm D cA bs (n, K, R, I, L) H → va_S (Ab bs) s.heap H locs → lv_has ls 4 [(0, .ref (ad bs o)), (1, .int a1), (2, .int a2), (3, .int v3)] → W p l e ({ frames := 2, cells := 0, slots := 0, locals := 45 } : Room) s m args below meth c H locs 0 0 (MQ below (QI D cA bs (fun r u => u = (n, K, R, I, L) ∧ post r)) args s 0 0 (Ab bs)) (F0 m 2 ls [])) ?_ H locs ls hM hS hl
  clear hw hM hS hl
  intro v3 hw H locs ls hM hS hl
  refine lv_iload_n hx hb dX2_firstMeeting_2 rfl (lv_at hl 3 rfl) ?_
  refine lv_bipush (v := 100) hx hb dX2_firstMeeting_3 (by decide) ?_
  refine lv_icmp_ge (tgt := 41) hx hb dX2_firstMeeting_5 (by decide) (fun cq => ?_) (fun cq => ?_)
  · have hw := hw.1 cq
    refine lv_iconst (v := (-1)) hx hb dX2_firstMeeting_41 (by decide) ?_
    exact m_reti hx hb hr hlk hM hS ⟨rfl, hw⟩ dX2_firstMeeting_42
  · have hw := hw.2 cq
    refine lv_aload_n hx hb dX2_firstMeeting_8 rfl (lv_at hl 0 rfl) ?_
    refine lv_iload_n hx hb dX2_firstMeeting_9 rfl (lv_at hl 1 rfl) ?_
    refine lv_iload_n hx hb dX2_firstMeeting_10 rfl (lv_at hl 3 rfl) ?_
    refine m_ci (m_runV E hM hS cs_X2_161 ho.1.1 (by decide) rfl rfl (c_X2_spotAt ho hw) rfl rfl ⟨Nat.le_of_ble_eq_true rfl, Nat.le_of_ble_eq_true rfl⟩ rfl hl.1 rfl (Nat.le_of_ble_eq_true rfl) dX2_firstMeeting_11 ⟨Nat.le_of_ble_eq_true rfl, Nat.le_of_ble_eq_true rfl⟩) hS (fun r1 u H locs hp hM hS => ?_)
    obtain ⟨rfl, hw⟩ := hp
    refine lv_iconst (v := (-1)) hx hb dX2_firstMeeting_14 (by decide) ?_
    refine lv_icmp_eq (tgt := 35) hx hb dX2_firstMeeting_15 (by decide) (fun cq => ?_) (fun cq => ?_)
    · have hw := hw.1 cq
      obtain ⟨x2, ex2⟩ : ∃ y : Int32, y = v3 + 1 := ⟨_, rfl⟩
      have hw := hw x2 ex2
      refine lv_iinc (v := x2) (lv' := [(3, .int x2), (0, .ref (ad bs o)), (1, .int a1), (2, .int a2)]) hx hb dX2_firstMeeting_35 hl (k := 3) rfl (by rw [ex2]; rfl) (by decide) rfl (fun ls hl => ?_)
      refine lv_goto (tgt := 2) hx hb dX2_firstMeeting_38 (by decide) ?_
      exact hw H locs ls  hM hS (lv_sub hl [1, 2, 3, 0] rfl)
    · have hw := hw.2 cq
      refine lv_aload_n hx hb dX2_firstMeeting_18 rfl (lv_at hl 0 rfl) ?_
      refine lv_iload_n hx hb dX2_firstMeeting_19 rfl (lv_at hl 1 rfl) ?_
      refine lv_iload_n hx hb dX2_firstMeeting_20 rfl (lv_at hl 3 rfl) ?_
      refine m_ci (m_runV E hM hS cs_X2_161 ho.1.1 (by decide) rfl rfl (c_X2_spotAt ho hw) rfl rfl ⟨Nat.le_of_ble_eq_true rfl, Nat.le_of_ble_eq_true rfl⟩ rfl hl.1 rfl (Nat.le_of_ble_eq_true rfl) dX2_firstMeeting_21 ⟨Nat.le_of_ble_eq_true rfl, Nat.le_of_ble_eq_true rfl⟩) hS (fun r3 u H locs hp hM hS => ?_)
      obtain ⟨rfl, hw⟩ := hp
      refine lv_aload_n hx hb dX2_firstMeeting_24 rfl (lv_at hl 0 rfl) ?_
      refine lv_iload_n hx hb dX2_firstMeeting_25 rfl (lv_at hl 2 rfl) ?_
      refine lv_iload_n hx hb dX2_firstMeeting_26 rfl (lv_at hl 3 rfl) ?_
      refine m_ci (m_runV E hM hS cs_X2_161 ho.1.1 (by decide) rfl rfl (c_X2_spotAt ho hw) rfl rfl ⟨Nat.le_of_ble_eq_true rfl, Nat.le_of_ble_eq_true rfl⟩ rfl hl.1 rfl (Nat.le_of_ble_eq_true rfl) dX2_firstMeeting_27 ⟨Nat.le_of_ble_eq_true rfl, Nat.le_of_ble_eq_true rfl⟩) hS (fun r4 u H locs hp hM hS => ?_)
      obtain ⟨rfl, hw⟩ := hp
      refine lv_icmp_ne (tgt := 35) hx hb dX2_firstMeeting_30 (by decide) (fun cq => ?_) (fun cq => ?_)
      · have hw := hw.1 cq
        obtain ⟨x5, ex5⟩ : ∃ y : Int32, y = v3 + 1 := ⟨_, rfl⟩
        have hw := hw x5 ex5
        refine lv_iinc (v := x5) (lv' := [(3, .int x5), (0, .ref (ad bs o)), (1, .int a1), (2, .int a2)]) hx hb dX2_firstMeeting_35 hl (k := 3) rfl (by rw [ex5]; rfl) (by decide) rfl (fun ls hl => ?_)
        refine lv_goto (tgt := 2) hx hb dX2_firstMeeting_38 (by decide) ?_
        exact hw H locs ls  hM hS (lv_sub hl [1, 2, 3, 0] rfl)
      · have hw := hw.2 cq
        refine lv_iload_n hx hb dX2_firstMeeting_33 rfl (lv_at hl 3 rfl) ?_
        exact m_reti hx hb hr hlk hM hS ⟨rfl, hw⟩ dX2_firstMeeting_34
def w_X2_firstMeeting (I : mI) (o : Nat) (oh : Nat) (a1 : Int32) (a2 : Int32) (post : Int32 → Prop) : Prop := (w_X2_firstMeeting_2 I o oh a1 a2 post) 0
set_option maxRecDepth 100000 in
set_option maxHeartbeats 4000000 in
theorem c_X2_firstMeeting {l : Launch} {D : va_G} {cA : Nat → ClassId} {Z : mZ} {bs : Ad} {n : Nat} {K : mK} {R : mR} {I : mI} {L : mL} {o : Nat} {oh : Nat} {a1 : Int32} {a2 : Int32} {post : Int32 → Prop} (ho : isX2 K R o oh) (hw : w_X2_firstMeeting I o oh a1 a2 post) : Met l yX2_firstMeeting (.code yX2_firstMeeting cX2_firstMeeting 4 (some .int) :: gw) ({ frames := 2, cells := 0, slots := 0, locals := 45 } : Room) (PreM D cA Z bs (n, K, R, I, L) [.ref (ad bs o), .int a1, .int a2]) (QI D cA bs (fun r u => u = (n, K, R, I, L) ∧ post r)) 0 0 (Ab bs) := by
  refine m_met (by decide) (Nat.le_of_ble_eq_true rfl) (fun p e s m below meth c ls E hr hlk hM hS hl => ?_)
  have E : Ev p s m _ c cX2_firstMeeting 4 RX2 D cA Z bs := E
  have hl : lv_has ls 4 [(0, .ref (ad bs o)), (1, .int a1), (2, .int a2)] := hl
  have hx := E.1.1
  have hb := E.1.2.1
  generalize hHe : s.heap = H at hM ⊢
  have hS : va_S (Ab bs) s.heap H [] := by rw [← hHe]; exact va_S.rf
  clear hHe
  refine lv_iconst (v := 0) hx hb dX2_firstMeeting_0 (by decide) ?_
  refine lv_istore_n (lv' := [(3, .int 0), (0, .ref (ad bs o)), (1, .int a1), (2, .int a2)]) hx hb dX2_firstMeeting_1 rfl hl (by decide) rfl (fun ls hl => ?_)
  exact s_X2_firstMeeting_2 E hr hlk ho  hw hM hS (lv_sub hl [1, 2, 3, 0] rfl)
theorem dJ6_signum_0f7a4_0 : decode cJ6_signum_0f7a4 0 = .ok (.iload_n 0, 1) := by decide +kernel
theorem dJ6_signum_0f7a4_1 : decode cJ6_signum_0f7a4 1 = .ok (.bipush 31, 2) := by decide +kernel
theorem dJ6_signum_0f7a4_3 : decode cJ6_signum_0f7a4 3 = .ok (.ishr, 1) := by decide +kernel
theorem dJ6_signum_0f7a4_4 : decode cJ6_signum_0f7a4 4 = .ok (.iload_n 0, 1) := by decide +kernel
theorem dJ6_signum_0f7a4_5 : decode cJ6_signum_0f7a4 5 = .ok (.ineg, 1) := by decide +kernel
theorem dJ6_signum_0f7a4_6 : decode cJ6_signum_0f7a4 6 = .ok (.bipush 31, 2) := by decide +kernel
theorem dJ6_signum_0f7a4_8 : decode cJ6_signum_0f7a4 8 = .ok (.iushr, 1) := by decide +kernel
theorem dJ6_signum_0f7a4_9 : decode cJ6_signum_0f7a4 9 = .ok (.ior, 1) := by decide +kernel
theorem dJ6_signum_0f7a4_10 : decode cJ6_signum_0f7a4 10 = .ok (.ireturn, 1) := by decide +kernel
def w_J6_signum_0f7a4 (a1 : Int32) (post : Int32 → Prop) : Prop := post ((a1 >>> (31 &&& 31)) ||| (iushr (-a1) 31))
set_option maxRecDepth 100000 in
set_option maxHeartbeats 4000000 in
theorem c_J6_signum_0f7a4 {l : Launch} {D : va_G} {cA : Nat → ClassId} {Z : mZ} {bs : Ad} {n : Nat} {K : mK} {R : mR} {I : mI} {L : mL} {a1 : Int32} {post : Int32 → Prop}  (hw : w_J6_signum_0f7a4 a1 post) : Met l yJ6_signum_0f7a4 (.code yJ6_signum_0f7a4 cJ6_signum_0f7a4 1 (some .int) :: gw) ({ frames := 0, cells := 0, slots := 0, locals := 0 } : Room) (PreM D cA Z bs (n, K, R, I, L) [.int a1]) (QI D cA bs (fun r u => u = (n, K, R, I, L) ∧ post r)) 0 0 (Ab bs) := by
  refine m_met (by decide) (Nat.le_of_ble_eq_true rfl) (fun p e s m below meth c ls E hr hlk hM hS hl => ?_)
  have E : Ev p s m _ c cJ6_signum_0f7a4 1 RJ6 D cA Z bs := E
  have hl : lv_has ls 1 [(0, .int a1)] := hl
  have hx := E.1.1
  have hb := E.1.2.1
  generalize hHe : s.heap = H at hM ⊢
  have hS : va_S (Ab bs) s.heap H [] := by rw [← hHe]; exact va_S.rf
  clear hHe
  refine lv_iload_n hx hb dJ6_signum_0f7a4_0 rfl (lv_at hl 0 rfl) ?_
  refine lv_bipush (v := 31) hx hb dJ6_signum_0f7a4_1 (by decide) ?_
  refine lv_ishr hx hb dJ6_signum_0f7a4_3 ?_
  refine lv_iload_n hx hb dJ6_signum_0f7a4_4 rfl (lv_at hl 0 rfl) ?_
  refine lv_ineg hx hb dJ6_signum_0f7a4_5 ?_
  refine lv_bipush (v := 31) hx hb dJ6_signum_0f7a4_6 (by decide) ?_
  refine lv_iushr hx hb dJ6_signum_0f7a4_8 rfl ?_
  refine lv_ior hx hb dJ6_signum_0f7a4_9 ?_
  exact m_reti hx hb hr hlk hM hS ⟨rfl, hw⟩ dJ6_signum_0f7a4_10
theorem dX2_passes_0 : decode cX2_passes 0 = .ok (.iconst 0, 1) := by decide +kernel
theorem dX2_passes_1 : decode cX2_passes 1 = .ok (.istore_n 3, 1) := by decide +kernel
theorem dX2_passes_2 : decode cX2_passes 2 = .ok (.iconst 1, 1) := by decide +kernel
theorem dX2_passes_3 : decode cX2_passes 3 = .ok (.istore 4, 2) := by decide +kernel
theorem dX2_passes_5 : decode cX2_passes 5 = .ok (.iload 4, 2) := by decide +kernel
theorem dX2_passes_7 : decode cX2_passes 7 = .ok (.bipush 100, 2) := by decide +kernel
theorem dX2_passes_9 : decode cX2_passes 9 = .ok (.if_icmp .ge 94, 3) := by decide +kernel
theorem dX2_passes_12 : decode cX2_passes 12 = .ok (.aload_n 0, 1) := by decide +kernel
theorem dX2_passes_13 : decode cX2_passes 13 = .ok (.iload_n 1, 1) := by decide +kernel
theorem dX2_passes_14 : decode cX2_passes 14 = .ok (.iload 4, 2) := by decide +kernel
theorem dX2_passes_16 : decode cX2_passes 16 = .ok (.iconst 1, 1) := by decide +kernel
theorem dX2_passes_17 : decode cX2_passes 17 = .ok (.isub, 1) := by decide +kernel
theorem dX2_passes_18 : decode cX2_passes 18 = .ok (.invokevirtual 161, 3) := by decide +kernel
theorem dX2_passes_21 : decode cX2_passes 21 = .ok (.iconst (-1), 1) := by decide +kernel
theorem dX2_passes_22 : decode cX2_passes 22 = .ok (.if_icmp .eq 75, 3) := by decide +kernel
theorem dX2_passes_25 : decode cX2_passes 25 = .ok (.aload_n 0, 1) := by decide +kernel
theorem dX2_passes_26 : decode cX2_passes 26 = .ok (.iload_n 2, 1) := by decide +kernel
theorem dX2_passes_27 : decode cX2_passes 27 = .ok (.iload 4, 2) := by decide +kernel
theorem dX2_passes_29 : decode cX2_passes 29 = .ok (.iconst 1, 1) := by decide +kernel
theorem dX2_passes_30 : decode cX2_passes 30 = .ok (.isub, 1) := by decide +kernel
theorem dX2_passes_31 : decode cX2_passes 31 = .ok (.invokevirtual 161, 3) := by decide +kernel
theorem dX2_passes_34 : decode cX2_passes 34 = .ok (.iconst (-1), 1) := by decide +kernel
theorem dX2_passes_35 : decode cX2_passes 35 = .ok (.if_icmp .eq 62, 3) := by decide +kernel
theorem dX2_passes_38 : decode cX2_passes 38 = .ok (.aload_n 0, 1) := by decide +kernel
theorem dX2_passes_39 : decode cX2_passes 39 = .ok (.iload_n 1, 1) := by decide +kernel
theorem dX2_passes_40 : decode cX2_passes 40 = .ok (.iload 4, 2) := by decide +kernel
theorem dX2_passes_42 : decode cX2_passes 42 = .ok (.iconst 1, 1) := by decide +kernel
theorem dX2_passes_43 : decode cX2_passes 43 = .ok (.isub, 1) := by decide +kernel
theorem dX2_passes_44 : decode cX2_passes 44 = .ok (.invokevirtual 161, 3) := by decide +kernel
theorem dX2_passes_47 : decode cX2_passes 47 = .ok (.aload_n 0, 1) := by decide +kernel
theorem dX2_passes_48 : decode cX2_passes 48 = .ok (.iload_n 2, 1) := by decide +kernel
theorem dX2_passes_49 : decode cX2_passes 49 = .ok (.iload 4, 2) := by decide +kernel
theorem dX2_passes_51 : decode cX2_passes 51 = .ok (.iconst 1, 1) := by decide +kernel
theorem dX2_passes_52 : decode cX2_passes 52 = .ok (.isub, 1) := by decide +kernel
theorem dX2_passes_53 : decode cX2_passes 53 = .ok (.invokevirtual 161, 3) := by decide +kernel
theorem dX2_passes_56 : decode cX2_passes 56 = .ok (.isub, 1) := by decide +kernel
theorem dX2_passes_57 : decode cX2_passes 57 = .ok (.invokestatic 164, 3) := by decide +kernel
theorem dX2_passes_60 : decode cX2_passes 60 = .ok (.istore 5, 2) := by decide +kernel
theorem dX2_passes_62 : decode cX2_passes 62 = .ok (.aload_n 0, 1) := by decide +kernel
theorem dX2_passes_63 : decode cX2_passes 63 = .ok (.iload_n 1, 1) := by decide +kernel
theorem dX2_passes_64 : decode cX2_passes 64 = .ok (.iload 4, 2) := by decide +kernel
theorem dX2_passes_66 : decode cX2_passes 66 = .ok (.invokevirtual 161, 3) := by decide +kernel
theorem dX2_passes_69 : decode cX2_passes 69 = .ok (.aload_n 0, 1) := by decide +kernel
theorem dX2_passes_70 : decode cX2_passes 70 = .ok (.iload_n 2, 1) := by decide +kernel
theorem dX2_passes_71 : decode cX2_passes 71 = .ok (.iload 4, 2) := by decide +kernel
theorem dX2_passes_73 : decode cX2_passes 73 = .ok (.invokevirtual 161, 3) := by decide +kernel
theorem dX2_passes_76 : decode cX2_passes 76 = .ok (.isub, 1) := by decide +kernel
theorem dX2_passes_77 : decode cX2_passes 77 = .ok (.invokestatic 164, 3) := by decide +kernel
theorem dX2_passes_80 : decode cX2_passes 80 = .ok (.istore 6, 2) := by decide +kernel
theorem dX2_passes_82 : decode cX2_passes 82 = .ok (.iload 6, 2) := by decide +kernel
theorem dX2_passes_84 : decode cX2_passes 84 = .ok (.ifCond .eq 13, 3) := by decide +kernel
theorem dX2_passes_87 : decode cX2_passes 87 = .ok (.iload 6, 2) := by decide +kernel
theorem dX2_passes_89 : decode cX2_passes 89 = .ok (.iload 5, 2) := by decide +kernel
theorem dX2_passes_91 : decode cX2_passes 91 = .ok (.if_icmp .eq 6, 3) := by decide +kernel
theorem dX2_passes_94 : decode cX2_passes 94 = .ok (.iinc 3 1, 3) := by decide +kernel
theorem dX2_passes_97 : decode cX2_passes 97 = .ok (.iinc 4 1, 3) := by decide +kernel
theorem dX2_passes_100 : decode cX2_passes 100 = .ok (.goto (-95), 3) := by decide +kernel
theorem dX2_passes_103 : decode cX2_passes 103 = .ok (.iload_n 3, 1) := by decide +kernel
theorem dX2_passes_104 : decode cX2_passes 104 = .ok (.ireturn, 1) := by decide +kernel
def w_X2_passes_5 (I : mI) (o : Nat) (oh : Nat) (a1 : Int32) (a2 : Int32) (post : Int32 → Prop) (v3 : Int32) (v4 : Int32) : Prop := ∀ ZZ : (Int32 → Int32 → Prop), (∀ (v3 : Int32) (v4 : Int32), ((100 ≤ v4 → post v3) ∧ (¬ 100 ≤ v4 → w_X2_spotAt I o oh a1 (v4 - 1) (fun r1 => (r1 = (-1) → ∀ x2, x2 = v4 + 1 → ZZ v3 x2) ∧ (¬ r1 = (-1) → w_X2_spotAt I o oh a2 (v4 - 1) (fun r3 => (r3 = (-1) → ∀ x4, x4 = v4 + 1 → ZZ v3 x4) ∧ (¬ r3 = (-1) → w_X2_spotAt I o oh a1 (v4 - 1) (fun r5 => w_X2_spotAt I o oh a2 (v4 - 1) (fun r6 => w_J6_signum_0f7a4 (r5 - r6) (fun r7 => w_X2_spotAt I o oh a1 v4 (fun r8 => w_X2_spotAt I o oh a2 v4 (fun r9 => w_J6_signum_0f7a4 (r8 - r9) (fun r10 => (r10 = 0 → ∀ x11, x11 = v4 + 1 → ZZ v3 x11) ∧ (¬ r10 = 0 → (r10 = r7 → ∀ x12, x12 = v4 + 1 → ZZ v3 x12) ∧ (¬ r10 = r7 → ∀ x13, x13 = v3 + 1 → ∀ x14, x14 = v4 + 1 → ZZ x13 x14)))))))))))))) → ZZ v3 v4) → ZZ v3 v4
set_option maxRecDepth 100000 in
set_option maxHeartbeats 4000000 in
theorem s_X2_passes_5 {p : Program} {l : Launch} {e : Env} {s : State} {m : MethodId} {args : Array Value} {below : List Frame} {meth : Method} {c : Code} {D : va_G} {cA : Nat → ClassId} {Z : mZ} {bs : Ad} {n : Nat} {K : mK} {R : mR} {I : mI} {L : mL} (E : Ev p s m args c cX2_passes 7 RX2 D cA Z bs) (hr : meth.sig.returnType = (some .int)) (hlk : meth.locks = false) {o : Nat} {oh : Nat} {a1 : Int32} {a2 : Int32} (ho : isX2 K R o oh) {post : Int32 → Prop} {v3 : Int32} {v4 : Int32} {H : Heap} {locs : List Loc} {ls : Array Slot} (hw : w_X2_passes_5 I o oh a1 a2 post v3 v4) (hM : mm D cA bs (n, K, R, I, L) H) (hS : va_S (Ab bs) s.heap H locs) (hl : lv_has ls 7 [(0, .ref (ad bs o)), (1, .int a1), (2, .int a2), (3, .int v3), (4, .int v4)]) : W p l e ({ frames := 2, cells := 0, slots := 0, locals := 45 } : Room) s m args below meth c H locs 0 0 (MQ below (QI D cA bs (fun r u => u = (n, K, R, I, L) ∧ post r)) args s 0 0 (Ab bs)) (F0 m 5 ls []) := by
  have hx := E.1.1
  have hb := E.1.2.1
  refine hw (fun v3 v4 => ∀ (H : Heap) (locs : List Loc) (ls : Array Slot), mm D cA bs (n, K, R, I, L) H → va_S (Ab bs) s.heap H locs → lv_has ls 7 [(0, .ref (ad bs o)), (1, .int a1), (2, .int a2), (3, .int v3), (4, .int v4)] → W p l e ({ frames := 2, cells := 0, slots := 0, locals := 45 } : Room) s m args below meth c H locs 0 0 (MQ below (QI D cA bs (fun r u => u = (n, K, R, I, L) ∧ post r)) args s 0 0 (Ab bs)) (F0 m 5 ls [])) ?_ H locs ls hM hS hl
  clear hw hM hS hl
  intro v3 v4 hw H locs ls hM hS hl
  refine lv_iload hx hb dX2_passes_5 (lv_at hl 4 rfl) ?_
  refine lv_bipush (v := 100) hx hb dX2_passes_7 (by decide) ?_
  refine lv_icmp_ge (tgt := 103) hx hb dX2_passes_9 (by decide) (fun cq => ?_) (fun cq => ?_)
  · have hw := hw.1 cq
    refine lv_iload_n hx hb dX2_passes_103 rfl (lv_at hl 3 rfl) ?_
    exact m_reti hx hb hr hlk hM hS ⟨rfl, hw⟩ dX2_passes_104
  · have hw := hw.2 cq
    refine lv_aload_n hx hb dX2_passes_12 rfl (lv_at hl 0 rfl) ?_
    refine lv_iload_n hx hb dX2_passes_13 rfl (lv_at hl 1 rfl) ?_
    refine lv_iload hx hb dX2_passes_14 (lv_at hl 4 rfl) ?_
    refine lv_iconst (v := 1) hx hb dX2_passes_16 (by decide) ?_
    refine lv_isub hx hb dX2_passes_17 ?_
    refine m_ci (m_runV E hM hS cs_X2_161 ho.1.1 (by decide) rfl rfl (c_X2_spotAt ho hw) rfl rfl ⟨Nat.le_of_ble_eq_true rfl, Nat.le_of_ble_eq_true rfl⟩ rfl hl.1 rfl (Nat.le_of_ble_eq_true rfl) dX2_passes_18 ⟨Nat.le_of_ble_eq_true rfl, Nat.le_of_ble_eq_true rfl⟩) hS (fun r1 u H locs hp hM hS => ?_)
    obtain ⟨rfl, hw⟩ := hp
    refine lv_iconst (v := (-1)) hx hb dX2_passes_21 (by decide) ?_
    refine lv_icmp_eq (tgt := 97) hx hb dX2_passes_22 (by decide) (fun cq => ?_) (fun cq => ?_)
    · have hw := hw.1 cq
      obtain ⟨x2, ex2⟩ : ∃ y : Int32, y = v4 + 1 := ⟨_, rfl⟩
      have hw := hw x2 ex2
      refine lv_iinc (v := x2) (lv' := [(4, .int x2), (0, .ref (ad bs o)), (1, .int a1), (2, .int a2), (3, .int v3)]) hx hb dX2_passes_97 hl (k := 4) rfl (by rw [ex2]; rfl) (by decide) rfl (fun ls hl => ?_)
      refine lv_goto (tgt := 5) hx hb dX2_passes_100 (by decide) ?_
      exact hw H locs ls  hM hS (lv_sub hl [1, 2, 3, 4, 0] rfl)
    · have hw := hw.2 cq
      refine lv_aload_n hx hb dX2_passes_25 rfl (lv_at hl 0 rfl) ?_
      refine lv_iload_n hx hb dX2_passes_26 rfl (lv_at hl 2 rfl) ?_
      refine lv_iload hx hb dX2_passes_27 (lv_at hl 4 rfl) ?_
      refine lv_iconst (v := 1) hx hb dX2_passes_29 (by decide) ?_
      refine lv_isub hx hb dX2_passes_30 ?_
      refine m_ci (m_runV E hM hS cs_X2_161 ho.1.1 (by decide) rfl rfl (c_X2_spotAt ho hw) rfl rfl ⟨Nat.le_of_ble_eq_true rfl, Nat.le_of_ble_eq_true rfl⟩ rfl hl.1 rfl (Nat.le_of_ble_eq_true rfl) dX2_passes_31 ⟨Nat.le_of_ble_eq_true rfl, Nat.le_of_ble_eq_true rfl⟩) hS (fun r3 u H locs hp hM hS => ?_)
      obtain ⟨rfl, hw⟩ := hp
      refine lv_iconst (v := (-1)) hx hb dX2_passes_34 (by decide) ?_
      refine lv_icmp_eq (tgt := 97) hx hb dX2_passes_35 (by decide) (fun cq => ?_) (fun cq => ?_)
      · have hw := hw.1 cq
        obtain ⟨x4, ex4⟩ : ∃ y : Int32, y = v4 + 1 := ⟨_, rfl⟩
        have hw := hw x4 ex4
        refine lv_iinc (v := x4) (lv' := [(4, .int x4), (0, .ref (ad bs o)), (1, .int a1), (2, .int a2), (3, .int v3)]) hx hb dX2_passes_97 hl (k := 4) rfl (by rw [ex4]; rfl) (by decide) rfl (fun ls hl => ?_)
        refine lv_goto (tgt := 5) hx hb dX2_passes_100 (by decide) ?_
        exact hw H locs ls  hM hS (lv_sub hl [1, 2, 3, 4, 0] rfl)
      · have hw := hw.2 cq
        refine lv_aload_n hx hb dX2_passes_38 rfl (lv_at hl 0 rfl) ?_
        refine lv_iload_n hx hb dX2_passes_39 rfl (lv_at hl 1 rfl) ?_
        refine lv_iload hx hb dX2_passes_40 (lv_at hl 4 rfl) ?_
        refine lv_iconst (v := 1) hx hb dX2_passes_42 (by decide) ?_
        refine lv_isub hx hb dX2_passes_43 ?_
        refine m_ci (m_runV E hM hS cs_X2_161 ho.1.1 (by decide) rfl rfl (c_X2_spotAt ho hw) rfl rfl ⟨Nat.le_of_ble_eq_true rfl, Nat.le_of_ble_eq_true rfl⟩ rfl hl.1 rfl (Nat.le_of_ble_eq_true rfl) dX2_passes_44 ⟨Nat.le_of_ble_eq_true rfl, Nat.le_of_ble_eq_true rfl⟩) hS (fun r5 u H locs hp hM hS => ?_)
        obtain ⟨rfl, hw⟩ := hp
        refine lv_aload_n hx hb dX2_passes_47 rfl (lv_at hl 0 rfl) ?_
        refine lv_iload_n hx hb dX2_passes_48 rfl (lv_at hl 2 rfl) ?_
        refine lv_iload hx hb dX2_passes_49 (lv_at hl 4 rfl) ?_
        refine lv_iconst (v := 1) hx hb dX2_passes_51 (by decide) ?_
        refine lv_isub hx hb dX2_passes_52 ?_
        refine m_ci (m_runV E hM hS cs_X2_161 ho.1.1 (by decide) rfl rfl (c_X2_spotAt ho hw) rfl rfl ⟨Nat.le_of_ble_eq_true rfl, Nat.le_of_ble_eq_true rfl⟩ rfl hl.1 rfl (Nat.le_of_ble_eq_true rfl) dX2_passes_53 ⟨Nat.le_of_ble_eq_true rfl, Nat.le_of_ble_eq_true rfl⟩) hS (fun r6 u H locs hp hM hS => ?_)
        obtain ⟨rfl, hw⟩ := hp
        refine lv_isub hx hb dX2_passes_56 ?_
        refine m_ci (m_runS E hM hS cs_X2_164 (c_J6_signum_0f7a4  hw) rfl rfl ⟨Nat.le_of_ble_eq_true rfl, Nat.le_of_ble_eq_true rfl⟩ rfl hl.1 rfl (Nat.le_of_ble_eq_true rfl) dX2_passes_57 ⟨Nat.le_of_ble_eq_true rfl, Nat.le_of_ble_eq_true rfl⟩) hS (fun r7 u H locs hp hM hS => ?_)
        obtain ⟨rfl, hw⟩ := hp
        refine lv_istore (lv' := [(5, .int r7), (0, .ref (ad bs o)), (1, .int a1), (2, .int a2), (3, .int v3), (4, .int v4)]) hx hb dX2_passes_60 hl (by decide) rfl (fun ls hl => ?_)
        refine lv_aload_n hx hb dX2_passes_62 rfl (lv_at hl 1 rfl) ?_
        refine lv_iload_n hx hb dX2_passes_63 rfl (lv_at hl 2 rfl) ?_
        refine lv_iload hx hb dX2_passes_64 (lv_at hl 5 rfl) ?_
        refine m_ci (m_runV E hM hS cs_X2_161 ho.1.1 (by decide) rfl rfl (c_X2_spotAt ho hw) rfl rfl ⟨Nat.le_of_ble_eq_true rfl, Nat.le_of_ble_eq_true rfl⟩ rfl hl.1 rfl (Nat.le_of_ble_eq_true rfl) dX2_passes_66 ⟨Nat.le_of_ble_eq_true rfl, Nat.le_of_ble_eq_true rfl⟩) hS (fun r8 u H locs hp hM hS => ?_)
        obtain ⟨rfl, hw⟩ := hp
        refine lv_aload_n hx hb dX2_passes_69 rfl (lv_at hl 1 rfl) ?_
        refine lv_iload_n hx hb dX2_passes_70 rfl (lv_at hl 3 rfl) ?_
        refine lv_iload hx hb dX2_passes_71 (lv_at hl 5 rfl) ?_
        refine m_ci (m_runV E hM hS cs_X2_161 ho.1.1 (by decide) rfl rfl (c_X2_spotAt ho hw) rfl rfl ⟨Nat.le_of_ble_eq_true rfl, Nat.le_of_ble_eq_true rfl⟩ rfl hl.1 rfl (Nat.le_of_ble_eq_true rfl) dX2_passes_73 ⟨Nat.le_of_ble_eq_true rfl, Nat.le_of_ble_eq_true rfl⟩) hS (fun r9 u H locs hp hM hS => ?_)
        obtain ⟨rfl, hw⟩ := hp
        refine lv_isub hx hb dX2_passes_76 ?_
        refine m_ci (m_runS E hM hS cs_X2_164 (c_J6_signum_0f7a4  hw) rfl rfl ⟨Nat.le_of_ble_eq_true rfl, Nat.le_of_ble_eq_true rfl⟩ rfl hl.1 rfl (Nat.le_of_ble_eq_true rfl) dX2_passes_77 ⟨Nat.le_of_ble_eq_true rfl, Nat.le_of_ble_eq_true rfl⟩) hS (fun r10 u H locs hp hM hS => ?_)
        obtain ⟨rfl, hw⟩ := hp
        refine lv_istore (lv' := [(6, .int r10), (5, .int r7), (0, .ref (ad bs o)), (1, .int a1), (2, .int a2), (3, .int v3), (4, .int v4)]) hx hb dX2_passes_80 hl (by decide) rfl (fun ls hl => ?_)
        refine lv_iload hx hb dX2_passes_82 (lv_at hl 0 rfl) ?_
        refine lv_if_eq (tgt := 97) hx hb dX2_passes_84 (by decide) (fun cq => ?_) (fun cq => ?_)
        · have hw := hw.1 cq
          obtain ⟨x11, ex11⟩ : ∃ y : Int32, y = v4 + 1 := ⟨_, rfl⟩
          have hw := hw x11 ex11
          refine lv_iinc (v := x11) (lv' := [(4, .int x11), (6, .int r10), (5, .int r7), (0, .ref (ad bs o)), (1, .int a1), (2, .int a2), (3, .int v3)]) hx hb dX2_passes_97 hl (k := 6) rfl (by rw [ex11]; rfl) (by decide) rfl (fun ls hl => ?_)
          refine lv_goto (tgt := 5) hx hb dX2_passes_100 (by decide) ?_
          exact hw H locs ls  hM hS (lv_sub hl [3, 4, 5, 6, 0] rfl)
        · have hw := hw.2 cq
          refine lv_iload hx hb dX2_passes_87 (lv_at hl 0 rfl) ?_
          refine lv_iload hx hb dX2_passes_89 (lv_at hl 1 rfl) ?_
          refine lv_icmp_eq (tgt := 97) hx hb dX2_passes_91 (by decide) (fun cq => ?_) (fun cq => ?_)
          · have hw := hw.1 cq
            obtain ⟨x12, ex12⟩ : ∃ y : Int32, y = v4 + 1 := ⟨_, rfl⟩
            have hw := hw x12 ex12
            refine lv_iinc (v := x12) (lv' := [(4, .int x12), (6, .int r10), (5, .int r7), (0, .ref (ad bs o)), (1, .int a1), (2, .int a2), (3, .int v3)]) hx hb dX2_passes_97 hl (k := 6) rfl (by rw [ex12]; rfl) (by decide) rfl (fun ls hl => ?_)
            refine lv_goto (tgt := 5) hx hb dX2_passes_100 (by decide) ?_
            exact hw H locs ls  hM hS (lv_sub hl [3, 4, 5, 6, 0] rfl)
          · have hw := hw.2 cq
            obtain ⟨x13, ex13⟩ : ∃ y : Int32, y = v3 + 1 := ⟨_, rfl⟩
            have hw := hw x13 ex13
            refine lv_iinc (v := x13) (lv' := [(3, .int x13), (6, .int r10), (5, .int r7), (0, .ref (ad bs o)), (1, .int a1), (2, .int a2), (4, .int v4)]) hx hb dX2_passes_94 hl (k := 5) rfl (by rw [ex13]; rfl) (by decide) rfl (fun ls hl => ?_)
            obtain ⟨x14, ex14⟩ : ∃ y : Int32, y = v4 + 1 := ⟨_, rfl⟩
            have hw := hw x14 ex14
            refine lv_iinc (v := x14) (lv' := [(4, .int x14), (3, .int x13), (6, .int r10), (5, .int r7), (0, .ref (ad bs o)), (1, .int a1), (2, .int a2)]) hx hb dX2_passes_97 hl (k := 6) rfl (by rw [ex14]; rfl) (by decide) rfl (fun ls hl => ?_)
            refine lv_goto (tgt := 5) hx hb dX2_passes_100 (by decide) ?_
            exact hw H locs ls  hM hS (lv_sub hl [4, 5, 6, 1, 0] rfl)
def w_X2_passes (I : mI) (o : Nat) (oh : Nat) (a1 : Int32) (a2 : Int32) (post : Int32 → Prop) : Prop := (w_X2_passes_5 I o oh a1 a2 post) 0 1
set_option maxRecDepth 100000 in
set_option maxHeartbeats 4000000 in
theorem c_X2_passes {l : Launch} {D : va_G} {cA : Nat → ClassId} {Z : mZ} {bs : Ad} {n : Nat} {K : mK} {R : mR} {I : mI} {L : mL} {o : Nat} {oh : Nat} {a1 : Int32} {a2 : Int32} {post : Int32 → Prop} (ho : isX2 K R o oh) (hw : w_X2_passes I o oh a1 a2 post) : Met l yX2_passes (.code yX2_passes cX2_passes 7 (some .int) :: gw) ({ frames := 2, cells := 0, slots := 0, locals := 45 } : Room) (PreM D cA Z bs (n, K, R, I, L) [.ref (ad bs o), .int a1, .int a2]) (QI D cA bs (fun r u => u = (n, K, R, I, L) ∧ post r)) 0 0 (Ab bs) := by
  refine m_met (by decide) (Nat.le_of_ble_eq_true rfl) (fun p e s m below meth c ls E hr hlk hM hS hl => ?_)
  have E : Ev p s m _ c cX2_passes 7 RX2 D cA Z bs := E
  have hl : lv_has ls 7 [(0, .ref (ad bs o)), (1, .int a1), (2, .int a2)] := hl
  have hx := E.1.1
  have hb := E.1.2.1
  generalize hHe : s.heap = H at hM ⊢
  have hS : va_S (Ab bs) s.heap H [] := by rw [← hHe]; exact va_S.rf
  clear hHe
  refine lv_iconst (v := 0) hx hb dX2_passes_0 (by decide) ?_
  refine lv_istore_n (lv' := [(3, .int 0), (0, .ref (ad bs o)), (1, .int a1), (2, .int a2)]) hx hb dX2_passes_1 rfl hl (by decide) rfl (fun ls hl => ?_)
  refine lv_iconst (v := 1) hx hb dX2_passes_2 (by decide) ?_
  refine lv_istore (lv' := [(4, .int 1), (3, .int 0), (0, .ref (ad bs o)), (1, .int a1), (2, .int a2)]) hx hb dX2_passes_3 hl (by decide) rfl (fun ls hl => ?_)
  exact s_X2_passes_5 E hr hlk ho  hw hM hS (lv_sub hl [2, 3, 4, 1, 0] rfl)
theorem dX2_longestHush_0 : decode cX2_longestHush 0 = .ok (.iconst 0, 1) := by decide +kernel
theorem dX2_longestHush_1 : decode cX2_longestHush 1 = .ok (.istore_n 1, 1) := by decide +kernel
theorem dX2_longestHush_2 : decode cX2_longestHush 2 = .ok (.iconst (-1), 1) := by decide +kernel
theorem dX2_longestHush_3 : decode cX2_longestHush 3 = .ok (.istore_n 2, 1) := by decide +kernel
theorem dX2_longestHush_4 : decode cX2_longestHush 4 = .ok (.iconst 0, 1) := by decide +kernel
theorem dX2_longestHush_5 : decode cX2_longestHush 5 = .ok (.istore_n 3, 1) := by decide +kernel
theorem dX2_longestHush_6 : decode cX2_longestHush 6 = .ok (.iload_n 3, 1) := by decide +kernel
theorem dX2_longestHush_7 : decode cX2_longestHush 7 = .ok (.aload_n 0, 1) := by decide +kernel
theorem dX2_longestHush_8 : decode cX2_longestHush 8 = .ok (.getfield 64, 3) := by decide +kernel
theorem dX2_longestHush_11 : decode cX2_longestHush 11 = .ok (.if_icmp .ge 39, 3) := by decide +kernel
theorem dX2_longestHush_14 : decode cX2_longestHush 14 = .ok (.aload_n 0, 1) := by decide +kernel
theorem dX2_longestHush_15 : decode cX2_longestHush 15 = .ok (.iload_n 3, 1) := by decide +kernel
theorem dX2_longestHush_16 : decode cX2_longestHush 16 = .ok (.invokevirtual 152, 3) := by decide +kernel
theorem dX2_longestHush_19 : decode cX2_longestHush 19 = .ok (.ifCond .eq 25, 3) := by decide +kernel
theorem dX2_longestHush_22 : decode cX2_longestHush 22 = .ok (.iload_n 1, 1) := by decide +kernel
theorem dX2_longestHush_23 : decode cX2_longestHush 23 = .ok (.aload_n 0, 1) := by decide +kernel
theorem dX2_longestHush_24 : decode cX2_longestHush 24 = .ok (.getfield 18, 3) := by decide +kernel
theorem dX2_longestHush_27 : decode cX2_longestHush 27 = .ok (.iload_n 3, 1) := by decide +kernel
theorem dX2_longestHush_28 : decode cX2_longestHush 28 = .ok (.iaload, 1) := by decide +kernel
theorem dX2_longestHush_29 : decode cX2_longestHush 29 = .ok (.iload_n 2, 1) := by decide +kernel
theorem dX2_longestHush_30 : decode cX2_longestHush 30 = .ok (.isub, 1) := by decide +kernel
theorem dX2_longestHush_31 : decode cX2_longestHush 31 = .ok (.iconst 1, 1) := by decide +kernel
theorem dX2_longestHush_32 : decode cX2_longestHush 32 = .ok (.isub, 1) := by decide +kernel
theorem dX2_longestHush_33 : decode cX2_longestHush 33 = .ok (.invokestatic 112, 3) := by decide +kernel
theorem dX2_longestHush_36 : decode cX2_longestHush 36 = .ok (.istore_n 1, 1) := by decide +kernel
theorem dX2_longestHush_37 : decode cX2_longestHush 37 = .ok (.aload_n 0, 1) := by decide +kernel
theorem dX2_longestHush_38 : decode cX2_longestHush 38 = .ok (.getfield 18, 3) := by decide +kernel
theorem dX2_longestHush_41 : decode cX2_longestHush 41 = .ok (.iload_n 3, 1) := by decide +kernel
theorem dX2_longestHush_42 : decode cX2_longestHush 42 = .ok (.iaload, 1) := by decide +kernel
theorem dX2_longestHush_43 : decode cX2_longestHush 43 = .ok (.istore_n 2, 1) := by decide +kernel
theorem dX2_longestHush_44 : decode cX2_longestHush 44 = .ok (.iinc 3 1, 3) := by decide +kernel
theorem dX2_longestHush_47 : decode cX2_longestHush 47 = .ok (.goto (-41), 3) := by decide +kernel
theorem dX2_longestHush_50 : decode cX2_longestHush 50 = .ok (.iload_n 1, 1) := by decide +kernel
theorem dX2_longestHush_51 : decode cX2_longestHush 51 = .ok (.bipush 100, 2) := by decide +kernel
theorem dX2_longestHush_53 : decode cX2_longestHush 53 = .ok (.iload_n 2, 1) := by decide +kernel
theorem dX2_longestHush_54 : decode cX2_longestHush 54 = .ok (.isub, 1) := by decide +kernel
theorem dX2_longestHush_55 : decode cX2_longestHush 55 = .ok (.iconst 1, 1) := by decide +kernel
theorem dX2_longestHush_56 : decode cX2_longestHush 56 = .ok (.isub, 1) := by decide +kernel
theorem dX2_longestHush_57 : decode cX2_longestHush 57 = .ok (.invokestatic 112, 3) := by decide +kernel
theorem dX2_longestHush_60 : decode cX2_longestHush 60 = .ok (.ireturn, 1) := by decide +kernel
def w_X2_longestHush_6 (I : mI) (o : Nat) (oh : Nat) (post : Int32 → Prop) (k50 : Int32 → Int32 → Prop) (v1 : Int32) (v2 : Int32) (v3 : Int32) : Prop := ∀ ZZ : (Int32 → Int32 → Int32 → Prop), (∀ (v1 : Int32) (v2 : Int32) (v3 : Int32), (((I o 2) ≤ v3 → k50 v1 v2) ∧ (¬ (I o 2) ≤ v3 → w_X2_notedBy I o oh v3 (fun r1 => (r1 = 0 → ∀ x2, x2 = v3 + 1 → ZZ v1 v2 x2) ∧ (¬ r1 = 0 → vp_in v3 600 ∧ ∀ x3, x3 = (imax v1 (((I (o + 3) v3.toNatClampNeg) - v2) - 1)) → vp_in v3 600 ∧ ∀ x4, x4 = (I (o + 3) v3.toNatClampNeg) → ∀ x5, x5 = v3 + 1 → ZZ x3 x4 x5)))) → ZZ v1 v2 v3) → ZZ v1 v2 v3
set_option maxRecDepth 100000 in
set_option maxHeartbeats 4000000 in
theorem s_X2_longestHush_6 {p : Program} {l : Launch} {e : Env} {s : State} {m : MethodId} {args : Array Value} {below : List Frame} {meth : Method} {c : Code} {D : va_G} {cA : Nat → ClassId} {Z : mZ} {bs : Ad} {n : Nat} {K : mK} {R : mR} {I : mI} {L : mL} (E : Ev p s m args c cX2_longestHush 4 RX2 D cA Z bs) (hr : meth.sig.returnType = (some .int)) (hlk : meth.locks = false) {o : Nat} {oh : Nat} (ho : isX2 K R o oh) {post : Int32 → Prop} {k50 : Int32 → Int32 → Prop} (hk50 : ∀ (v1 : Int32) (v2 : Int32) (H : Heap) (locs : List Loc) (ls : Array Slot), k50 v1 v2 → mm D cA bs (n, K, R, I, L) H → va_S (Ab bs) s.heap H locs → lv_has ls 4 [(1, .int v1), (2, .int v2)] → W p l e ({ frames := 1, cells := 0, slots := 0, locals := 40 } : Room) s m args below meth c H locs 0 0 (MQ below (QI D cA bs (fun r u => u = (n, K, R, I, L) ∧ post r)) args s 0 0 (Ab bs)) (F0 m 50 ls [])) {v1 : Int32} {v2 : Int32} {v3 : Int32} {H : Heap} {locs : List Loc} {ls : Array Slot} (hw : w_X2_longestHush_6 I o oh post k50 v1 v2 v3) (hM : mm D cA bs (n, K, R, I, L) H) (hS : va_S (Ab bs) s.heap H locs) (hl : lv_has ls 4 [(0, .ref (ad bs o)), (1, .int v1), (2, .int v2), (3, .int v3)]) : W p l e ({ frames := 1, cells := 0, slots := 0, locals := 40 } : Room) s m args below meth c H locs 0 0 (MQ below (QI D cA bs (fun r u => u = (n, K, R, I, L) ∧ post r)) args s 0 0 (Ab bs)) (F0 m 6 ls []) := by
  have hx := E.1.1
  have hb := E.1.2.1
  refine hw (fun v1 v2 v3 => ∀ (H : Heap) (locs : List Loc) (ls : Array Slot), mm D cA bs (n, K, R, I, L) H → va_S (Ab bs) s.heap H locs → lv_has ls 4 [(0, .ref (ad bs o)), (1, .int v1), (2, .int v2), (3, .int v3)] → W p l e ({ frames := 1, cells := 0, slots := 0, locals := 40 } : Room) s m args below meth c H locs 0 0 (MQ below (QI D cA bs (fun r u => u = (n, K, R, I, L) ∧ post r)) args s 0 0 (Ab bs)) (F0 m 6 ls [])) ?_ H locs ls hM hS hl
  clear hw hM hS hl
  intro v1 v2 v3 hw H locs ls hM hS hl
  refine lv_iload_n hx hb dX2_longestHush_6 rfl (lv_at hl 3 rfl) ?_
  refine lv_aload_n hx hb dX2_longestHush_7 rfl (lv_at hl 0 rfl) ?_
  refine m_geti E hM fs_X2_64 ho.1.1 dX2_longestHush_8 ?_
  refine lv_icmp_ge (tgt := 50) hx hb dX2_longestHush_11 (by decide) (fun cq => ?_) (fun cq => ?_)
  · have hw := hw.1 cq
    exact hk50 _ _ H locs ls  hw hM hS (lv_sub hl [1, 2] rfl)
  · have hw := hw.2 cq
    refine lv_aload_n hx hb dX2_longestHush_14 rfl (lv_at hl 0 rfl) ?_
    refine lv_iload_n hx hb dX2_longestHush_15 rfl (lv_at hl 3 rfl) ?_
    refine m_ci (m_runV E hM hS cs_X2_152 ho.1.1 (by decide) rfl rfl (c_X2_notedBy ho hw) rfl rfl ⟨Nat.le_of_ble_eq_true rfl, Nat.le_of_ble_eq_true rfl⟩ rfl hl.1 rfl (Nat.le_of_ble_eq_true rfl) dX2_longestHush_16 ⟨Nat.le_of_ble_eq_true rfl, Nat.le_of_ble_eq_true rfl⟩) hS (fun r1 u H locs hp hM hS => ?_)
    obtain ⟨rfl, hw⟩ := hp
    refine lv_if_eq (tgt := 44) hx hb dX2_longestHush_19 (by decide) (fun cq => ?_) (fun cq => ?_)
    · have hw := hw.1 cq
      obtain ⟨x2, ex2⟩ : ∃ y : Int32, y = v3 + 1 := ⟨_, rfl⟩
      have hw := hw x2 ex2
      refine lv_iinc (v := x2) (lv' := [(3, .int x2), (0, .ref (ad bs o)), (1, .int v1), (2, .int v2)]) hx hb dX2_longestHush_44 hl (k := 3) rfl (by rw [ex2]; rfl) (by decide) rfl (fun ls hl => ?_)
      refine lv_goto (tgt := 6) hx hb dX2_longestHush_47 (by decide) ?_
      exact hw H locs ls  hM hS (lv_sub hl [1, 2, 3, 0] rfl)
    · have hw := hw.2 cq
      refine lv_iload_n hx hb dX2_longestHush_22 rfl (lv_at hl 1 rfl) ?_
      refine lv_aload_n hx hb dX2_longestHush_23 rfl (lv_at hl 0 rfl) ?_
      refine m_getr E hM fs_X2_18 ho.1.1 (isO_at ho.1 2 rfl).1 dX2_longestHush_24 ?_
      refine lv_iload_n hx hb dX2_longestHush_27 rfl (lv_at hl 3 rfl) ?_
      obtain ⟨hv, hw⟩ := hw
      refine m_iald E hM (isO_at ho.1 2 rfl).2 hv dX2_longestHush_28 ?_
      refine lv_iload_n hx hb dX2_longestHush_29 rfl (lv_at hl 2 rfl) ?_
      refine lv_isub hx hb dX2_longestHush_30 ?_
      refine lv_iconst (v := 1) hx hb dX2_longestHush_31 (by decide) ?_
      refine lv_isub hx hb dX2_longestHush_32 ?_
      refine m_max E ml_X2_112 hl.1 (Nat.le_of_ble_eq_true rfl) (Nat.le_of_ble_eq_true rfl) (Nat.le_of_ble_eq_true rfl) (Nat.le_of_ble_eq_true rfl) dX2_longestHush_33 ?_
      refine lv_topi (fun x3 ex3 => ?_)
      have hw := hw x3 ex3
      refine lv_istore_n (lv' := [(1, .int x3), (0, .ref (ad bs o)), (2, .int v2), (3, .int v3)]) hx hb dX2_longestHush_36 rfl hl (by decide) rfl (fun ls hl => ?_)
      refine lv_aload_n hx hb dX2_longestHush_37 rfl (lv_at hl 1 rfl) ?_
      refine m_getr E hM fs_X2_18 ho.1.1 (isO_at ho.1 2 rfl).1 dX2_longestHush_38 ?_
      refine lv_iload_n hx hb dX2_longestHush_41 rfl (lv_at hl 3 rfl) ?_
      obtain ⟨hv, hw⟩ := hw
      refine m_iald E hM (isO_at ho.1 2 rfl).2 hv dX2_longestHush_42 ?_
      refine lv_topi (fun x4 ex4 => ?_)
      have hw := hw x4 ex4
      refine lv_istore_n (lv' := [(2, .int x4), (1, .int x3), (0, .ref (ad bs o)), (3, .int v3)]) hx hb dX2_longestHush_43 rfl hl (by decide) rfl (fun ls hl => ?_)
      obtain ⟨x5, ex5⟩ : ∃ y : Int32, y = v3 + 1 := ⟨_, rfl⟩
      have hw := hw x5 ex5
      refine lv_iinc (v := x5) (lv' := [(3, .int x5), (2, .int x4), (1, .int x3), (0, .ref (ad bs o))]) hx hb dX2_longestHush_44 hl (k := 3) rfl (by rw [ex5]; rfl) (by decide) rfl (fun ls hl => ?_)
      refine lv_goto (tgt := 6) hx hb dX2_longestHush_47 (by decide) ?_
      exact hw H locs ls  hM hS (lv_sub hl [3, 2, 1, 0] rfl)
def w_X2_longestHush_50 (I : mI) (o : Nat) (oh : Nat) (post : Int32 → Prop) (v1 : Int32) (v2 : Int32) : Prop := post (imax v1 ((100 - v2) - 1))
set_option maxRecDepth 100000 in
set_option maxHeartbeats 4000000 in
theorem s_X2_longestHush_50 {p : Program} {l : Launch} {e : Env} {s : State} {m : MethodId} {args : Array Value} {below : List Frame} {meth : Method} {c : Code} {D : va_G} {cA : Nat → ClassId} {Z : mZ} {bs : Ad} {n : Nat} {K : mK} {R : mR} {I : mI} {L : mL} (E : Ev p s m args c cX2_longestHush 4 RX2 D cA Z bs) (hr : meth.sig.returnType = (some .int)) (hlk : meth.locks = false) {o : Nat} {oh : Nat} (ho : isX2 K R o oh) {post : Int32 → Prop} {v1 : Int32} {v2 : Int32} {H : Heap} {locs : List Loc} {ls : Array Slot} (hw : w_X2_longestHush_50 I o oh post v1 v2) (hM : mm D cA bs (n, K, R, I, L) H) (hS : va_S (Ab bs) s.heap H locs) (hl : lv_has ls 4 [(1, .int v1), (2, .int v2)]) : W p l e ({ frames := 1, cells := 0, slots := 0, locals := 40 } : Room) s m args below meth c H locs 0 0 (MQ below (QI D cA bs (fun r u => u = (n, K, R, I, L) ∧ post r)) args s 0 0 (Ab bs)) (F0 m 50 ls []) := by
  have hx := E.1.1
  have hb := E.1.2.1
  refine lv_iload_n hx hb dX2_longestHush_50 rfl (lv_at hl 0 rfl) ?_
  refine lv_bipush (v := 100) hx hb dX2_longestHush_51 (by decide) ?_
  refine lv_iload_n hx hb dX2_longestHush_53 rfl (lv_at hl 1 rfl) ?_
  refine lv_isub hx hb dX2_longestHush_54 ?_
  refine lv_iconst (v := 1) hx hb dX2_longestHush_55 (by decide) ?_
  refine lv_isub hx hb dX2_longestHush_56 ?_
  refine m_max E ml_X2_112 hl.1 (Nat.le_of_ble_eq_true rfl) (Nat.le_of_ble_eq_true rfl) (Nat.le_of_ble_eq_true rfl) (Nat.le_of_ble_eq_true rfl) dX2_longestHush_57 ?_
  exact m_reti hx hb hr hlk hM hS ⟨rfl, hw⟩ dX2_longestHush_60
def w_X2_longestHush (I : mI) (o : Nat) (oh : Nat) (post : Int32 → Prop) : Prop := (w_X2_longestHush_6 I o oh post (w_X2_longestHush_50 I o oh post)) 0 (-1) 0
set_option maxRecDepth 100000 in
set_option maxHeartbeats 4000000 in
theorem c_X2_longestHush {l : Launch} {D : va_G} {cA : Nat → ClassId} {Z : mZ} {bs : Ad} {n : Nat} {K : mK} {R : mR} {I : mI} {L : mL} {o : Nat} {oh : Nat} {post : Int32 → Prop} (ho : isX2 K R o oh) (hw : w_X2_longestHush I o oh post) : Met l yX2_longestHush (.code yX2_longestHush cX2_longestHush 4 (some .int) :: gw) ({ frames := 1, cells := 0, slots := 0, locals := 40 } : Room) (PreM D cA Z bs (n, K, R, I, L) [.ref (ad bs o)]) (QI D cA bs (fun r u => u = (n, K, R, I, L) ∧ post r)) 0 0 (Ab bs) := by
  refine m_met (by decide) (Nat.le_of_ble_eq_true rfl) (fun p e s m below meth c ls E hr hlk hM hS hl => ?_)
  have E : Ev p s m _ c cX2_longestHush 4 RX2 D cA Z bs := E
  have hl : lv_has ls 4 [(0, .ref (ad bs o))] := hl
  have hx := E.1.1
  have hb := E.1.2.1
  generalize hHe : s.heap = H at hM ⊢
  have hS : va_S (Ab bs) s.heap H [] := by rw [← hHe]; exact va_S.rf
  clear hHe
  refine lv_iconst (v := 0) hx hb dX2_longestHush_0 (by decide) ?_
  refine lv_istore_n (lv' := [(1, .int 0), (0, .ref (ad bs o))]) hx hb dX2_longestHush_1 rfl hl (by decide) rfl (fun ls hl => ?_)
  refine lv_iconst (v := (-1)) hx hb dX2_longestHush_2 (by decide) ?_
  refine lv_istore_n (lv' := [(2, .int (-1)), (1, .int 0), (0, .ref (ad bs o))]) hx hb dX2_longestHush_3 rfl hl (by decide) rfl (fun ls hl => ?_)
  refine lv_iconst (v := 0) hx hb dX2_longestHush_4 (by decide) ?_
  refine lv_istore_n (lv' := [(3, .int 0), (2, .int (-1)), (1, .int 0), (0, .ref (ad bs o))]) hx hb dX2_longestHush_5 rfl hl (by decide) rfl (fun ls hl => ?_)
  exact s_X2_longestHush_6 E hr hlk ho (fun v1 v2 H locs ls  hw hM hS hl => s_X2_longestHush_50 E hr hlk ho  hw hM hS hl)  hw hM hS (lv_sub hl [3, 2, 1, 0] rfl)
theorem dX2_mostTallied_0 : decode cX2_mostTallied 0 = .ok (.iconst 0, 1) := by decide +kernel
theorem dX2_mostTallied_1 : decode cX2_mostTallied 1 = .ok (.istore_n 1, 1) := by decide +kernel
theorem dX2_mostTallied_2 : decode cX2_mostTallied 2 = .ok (.iconst 1, 1) := by decide +kernel
theorem dX2_mostTallied_3 : decode cX2_mostTallied 3 = .ok (.istore_n 2, 1) := by decide +kernel
theorem dX2_mostTallied_4 : decode cX2_mostTallied 4 = .ok (.iload_n 2, 1) := by decide +kernel
theorem dX2_mostTallied_5 : decode cX2_mostTallied 5 = .ok (.aload_n 0, 1) := by decide +kernel
theorem dX2_mostTallied_6 : decode cX2_mostTallied 6 = .ok (.getfield 60, 3) := by decide +kernel
theorem dX2_mostTallied_9 : decode cX2_mostTallied 9 = .ok (.getfield 94, 3) := by decide +kernel
theorem dX2_mostTallied_12 : decode cX2_mostTallied 12 = .ok (.if_icmp .ge 26, 3) := by decide +kernel
theorem dX2_mostTallied_15 : decode cX2_mostTallied 15 = .ok (.aload_n 0, 1) := by decide +kernel
theorem dX2_mostTallied_16 : decode cX2_mostTallied 16 = .ok (.getfield 42, 3) := by decide +kernel
theorem dX2_mostTallied_19 : decode cX2_mostTallied 19 = .ok (.iload_n 2, 1) := by decide +kernel
theorem dX2_mostTallied_20 : decode cX2_mostTallied 20 = .ok (.iaload, 1) := by decide +kernel
theorem dX2_mostTallied_21 : decode cX2_mostTallied 21 = .ok (.aload_n 0, 1) := by decide +kernel
theorem dX2_mostTallied_22 : decode cX2_mostTallied 22 = .ok (.getfield 42, 3) := by decide +kernel
theorem dX2_mostTallied_25 : decode cX2_mostTallied 25 = .ok (.iload_n 1, 1) := by decide +kernel
theorem dX2_mostTallied_26 : decode cX2_mostTallied 26 = .ok (.iaload, 1) := by decide +kernel
theorem dX2_mostTallied_27 : decode cX2_mostTallied 27 = .ok (.if_icmp .le 5, 3) := by decide +kernel
theorem dX2_mostTallied_30 : decode cX2_mostTallied 30 = .ok (.iload_n 2, 1) := by decide +kernel
theorem dX2_mostTallied_31 : decode cX2_mostTallied 31 = .ok (.istore_n 1, 1) := by decide +kernel
theorem dX2_mostTallied_32 : decode cX2_mostTallied 32 = .ok (.iinc 2 1, 3) := by decide +kernel
theorem dX2_mostTallied_35 : decode cX2_mostTallied 35 = .ok (.goto (-31), 3) := by decide +kernel
theorem dX2_mostTallied_38 : decode cX2_mostTallied 38 = .ok (.iload_n 1, 1) := by decide +kernel
theorem dX2_mostTallied_39 : decode cX2_mostTallied 39 = .ok (.ireturn, 1) := by decide +kernel
def w_X2_mostTallied_4 (I : mI) (o : Nat) (oh : Nat) (post : Int32 → Prop) (v1 : Int32) (v2 : Int32) : Prop := ∀ ZZ : (Int32 → Int32 → Prop), (∀ (v1 : Int32) (v2 : Int32), (((I oh 0) ≤ v2 → post v1) ∧ (¬ (I oh 0) ≤ v2 → vp_in v2 25 ∧ vp_in v1 25 ∧ ((I (o + 11) v2.toNatClampNeg) ≤ (I (o + 11) v1.toNatClampNeg) → ∀ x1, x1 = v2 + 1 → ZZ v1 x1) ∧ (¬ (I (o + 11) v2.toNatClampNeg) ≤ (I (o + 11) v1.toNatClampNeg) → ∀ x2, x2 = v2 + 1 → ZZ v2 x2))) → ZZ v1 v2) → ZZ v1 v2
set_option maxRecDepth 100000 in
set_option maxHeartbeats 4000000 in
theorem s_X2_mostTallied_4 {p : Program} {l : Launch} {e : Env} {s : State} {m : MethodId} {args : Array Value} {below : List Frame} {meth : Method} {c : Code} {D : va_G} {cA : Nat → ClassId} {Z : mZ} {bs : Ad} {n : Nat} {K : mK} {R : mR} {I : mI} {L : mL} (E : Ev p s m args c cX2_mostTallied 3 RX2 D cA Z bs) (hr : meth.sig.returnType = (some .int)) (hlk : meth.locks = false) {o : Nat} {oh : Nat} (ho : isX2 K R o oh) {post : Int32 → Prop} {v1 : Int32} {v2 : Int32} {H : Heap} {locs : List Loc} {ls : Array Slot} (hw : w_X2_mostTallied_4 I o oh post v1 v2) (hM : mm D cA bs (n, K, R, I, L) H) (hS : va_S (Ab bs) s.heap H locs) (hl : lv_has ls 3 [(0, .ref (ad bs o)), (1, .int v1), (2, .int v2)]) : W p l e ({ frames := 0, cells := 0, slots := 0, locals := 0 } : Room) s m args below meth c H locs 0 0 (MQ below (QI D cA bs (fun r u => u = (n, K, R, I, L) ∧ post r)) args s 0 0 (Ab bs)) (F0 m 4 ls []) := by
  have hx := E.1.1
  have hb := E.1.2.1
  refine hw (fun v1 v2 => ∀ (H : Heap) (locs : List Loc) (ls : Array Slot), mm D cA bs (n, K, R, I, L) H → va_S (Ab bs) s.heap H locs → lv_has ls 3 [(0, .ref (ad bs o)), (1, .int v1), (2, .int v2)] → W p l e ({ frames := 0, cells := 0, slots := 0, locals := 0 } : Room) s m args below meth c H locs 0 0 (MQ below (QI D cA bs (fun r u => u = (n, K, R, I, L) ∧ post r)) args s 0 0 (Ab bs)) (F0 m 4 ls [])) ?_ H locs ls hM hS hl
  clear hw hM hS hl
  intro v1 v2 hw H locs ls hM hS hl
  refine lv_iload_n hx hb dX2_mostTallied_4 rfl (lv_at hl 2 rfl) ?_
  refine lv_aload_n hx hb dX2_mostTallied_5 rfl (lv_at hl 0 rfl) ?_
  refine m_getr E hM fs_X2_60 ho.1.1 ho.2.1 dX2_mostTallied_6 ?_
  refine m_geti E hM fs_X2_94 ho.2.2.1 dX2_mostTallied_9 ?_
  refine lv_icmp_ge (tgt := 38) hx hb dX2_mostTallied_12 (by decide) (fun cq => ?_) (fun cq => ?_)
  · have hw := hw.1 cq
    refine lv_iload_n hx hb dX2_mostTallied_38 rfl (lv_at hl 1 rfl) ?_
    exact m_reti hx hb hr hlk hM hS ⟨rfl, hw⟩ dX2_mostTallied_39
  · have hw := hw.2 cq
    refine lv_aload_n hx hb dX2_mostTallied_15 rfl (lv_at hl 0 rfl) ?_
    refine m_getr E hM fs_X2_42 ho.1.1 (isO_at ho.1 10 rfl).1 dX2_mostTallied_16 ?_
    refine lv_iload_n hx hb dX2_mostTallied_19 rfl (lv_at hl 2 rfl) ?_
    obtain ⟨hv, hw⟩ := hw
    refine m_iald E hM (isO_at ho.1 10 rfl).2 hv dX2_mostTallied_20 ?_
    refine lv_aload_n hx hb dX2_mostTallied_21 rfl (lv_at hl 0 rfl) ?_
    refine m_getr E hM fs_X2_42 ho.1.1 (isO_at ho.1 10 rfl).1 dX2_mostTallied_22 ?_
    refine lv_iload_n hx hb dX2_mostTallied_25 rfl (lv_at hl 1 rfl) ?_
    obtain ⟨hv, hw⟩ := hw
    refine m_iald E hM (isO_at ho.1 10 rfl).2 hv dX2_mostTallied_26 ?_
    refine lv_icmp_le (tgt := 32) hx hb dX2_mostTallied_27 (by decide) (fun cq => ?_) (fun cq => ?_)
    · have hw := hw.1 cq
      obtain ⟨x1, ex1⟩ : ∃ y : Int32, y = v2 + 1 := ⟨_, rfl⟩
      have hw := hw x1 ex1
      refine lv_iinc (v := x1) (lv' := [(2, .int x1), (0, .ref (ad bs o)), (1, .int v1)]) hx hb dX2_mostTallied_32 hl (k := 2) rfl (by rw [ex1]; rfl) (by decide) rfl (fun ls hl => ?_)
      refine lv_goto (tgt := 4) hx hb dX2_mostTallied_35 (by decide) ?_
      exact hw H locs ls  hM hS (lv_sub hl [1, 2, 0] rfl)
    · have hw := hw.2 cq
      refine lv_iload_n hx hb dX2_mostTallied_30 rfl (lv_at hl 2 rfl) ?_
      refine lv_istore_n (lv' := [(1, .int v2), (0, .ref (ad bs o)), (2, .int v2)]) hx hb dX2_mostTallied_31 rfl hl (by decide) rfl (fun ls hl => ?_)
      obtain ⟨x2, ex2⟩ : ∃ y : Int32, y = v2 + 1 := ⟨_, rfl⟩
      have hw := hw x2 ex2
      refine lv_iinc (v := x2) (lv' := [(2, .int x2), (1, .int v2), (0, .ref (ad bs o))]) hx hb dX2_mostTallied_32 hl (k := 2) rfl (by rw [ex2]; rfl) (by decide) rfl (fun ls hl => ?_)
      refine lv_goto (tgt := 4) hx hb dX2_mostTallied_35 (by decide) ?_
      exact hw H locs ls  hM hS (lv_sub hl [2, 1, 0] rfl)
def w_X2_mostTallied (I : mI) (o : Nat) (oh : Nat) (post : Int32 → Prop) : Prop := (w_X2_mostTallied_4 I o oh post) 0 1
set_option maxRecDepth 100000 in
set_option maxHeartbeats 4000000 in
theorem c_X2_mostTallied {l : Launch} {D : va_G} {cA : Nat → ClassId} {Z : mZ} {bs : Ad} {n : Nat} {K : mK} {R : mR} {I : mI} {L : mL} {o : Nat} {oh : Nat} {post : Int32 → Prop} (ho : isX2 K R o oh) (hw : w_X2_mostTallied I o oh post) : Met l yX2_mostTallied (.code yX2_mostTallied cX2_mostTallied 3 (some .int) :: gw) ({ frames := 0, cells := 0, slots := 0, locals := 0 } : Room) (PreM D cA Z bs (n, K, R, I, L) [.ref (ad bs o)]) (QI D cA bs (fun r u => u = (n, K, R, I, L) ∧ post r)) 0 0 (Ab bs) := by
  refine m_met (by decide) (Nat.le_of_ble_eq_true rfl) (fun p e s m below meth c ls E hr hlk hM hS hl => ?_)
  have E : Ev p s m _ c cX2_mostTallied 3 RX2 D cA Z bs := E
  have hl : lv_has ls 3 [(0, .ref (ad bs o))] := hl
  have hx := E.1.1
  have hb := E.1.2.1
  generalize hHe : s.heap = H at hM ⊢
  have hS : va_S (Ab bs) s.heap H [] := by rw [← hHe]; exact va_S.rf
  clear hHe
  refine lv_iconst (v := 0) hx hb dX2_mostTallied_0 (by decide) ?_
  refine lv_istore_n (lv' := [(1, .int 0), (0, .ref (ad bs o))]) hx hb dX2_mostTallied_1 rfl hl (by decide) rfl (fun ls hl => ?_)
  refine lv_iconst (v := 1) hx hb dX2_mostTallied_2 (by decide) ?_
  refine lv_istore_n (lv' := [(2, .int 1), (1, .int 0), (0, .ref (ad bs o))]) hx hb dX2_mostTallied_3 rfl hl (by decide) rfl (fun ls hl => ?_)
  exact s_X2_mostTallied_4 E hr hlk ho  hw hM hS (lv_sub hl [2, 1, 0] rfl)
theorem dX2_busiestStep_0 : decode cX2_busiestStep 0 = .ok (.aload_n 0, 1) := by decide +kernel
theorem dX2_busiestStep_1 : decode cX2_busiestStep 1 = .ok (.getfield 64, 3) := by decide +kernel
theorem dX2_busiestStep_4 : decode cX2_busiestStep 4 = .ok (.ifCond .ne 5, 3) := by decide +kernel
theorem dX2_busiestStep_7 : decode cX2_busiestStep 7 = .ok (.iconst (-1), 1) := by decide +kernel
theorem dX2_busiestStep_8 : decode cX2_busiestStep 8 = .ok (.ireturn, 1) := by decide +kernel
theorem dX2_busiestStep_9 : decode cX2_busiestStep 9 = .ok (.aload_n 0, 1) := by decide +kernel
theorem dX2_busiestStep_10 : decode cX2_busiestStep 10 = .ok (.getfield 42, 3) := by decide +kernel
theorem dX2_busiestStep_13 : decode cX2_busiestStep 13 = .ok (.iconst 0, 1) := by decide +kernel
theorem dX2_busiestStep_14 : decode cX2_busiestStep 14 = .ok (.invokestatic 68, 3) := by decide +kernel
theorem dX2_busiestStep_17 : decode cX2_busiestStep 17 = .ok (.iconst 0, 1) := by decide +kernel
theorem dX2_busiestStep_18 : decode cX2_busiestStep 18 = .ok (.istore_n 1, 1) := by decide +kernel
theorem dX2_busiestStep_19 : decode cX2_busiestStep 19 = .ok (.iload_n 1, 1) := by decide +kernel
theorem dX2_busiestStep_20 : decode cX2_busiestStep 20 = .ok (.aload_n 0, 1) := by decide +kernel
theorem dX2_busiestStep_21 : decode cX2_busiestStep 21 = .ok (.getfield 64, 3) := by decide +kernel
theorem dX2_busiestStep_24 : decode cX2_busiestStep 24 = .ok (.if_icmp .ge 24, 3) := by decide +kernel
theorem dX2_busiestStep_27 : decode cX2_busiestStep 27 = .ok (.aload_n 0, 1) := by decide +kernel
theorem dX2_busiestStep_28 : decode cX2_busiestStep 28 = .ok (.getfield 42, 3) := by decide +kernel
theorem dX2_busiestStep_31 : decode cX2_busiestStep 31 = .ok (.aload_n 0, 1) := by decide +kernel
theorem dX2_busiestStep_32 : decode cX2_busiestStep 32 = .ok (.getfield 15, 3) := by decide +kernel
theorem dX2_busiestStep_35 : decode cX2_busiestStep 35 = .ok (.iload_n 1, 1) := by decide +kernel
theorem dX2_busiestStep_36 : decode cX2_busiestStep 36 = .ok (.iaload, 1) := by decide +kernel
theorem dX2_busiestStep_37 : decode cX2_busiestStep 37 = .ok (.dup2, 1) := by decide +kernel
theorem dX2_busiestStep_38 : decode cX2_busiestStep 38 = .ok (.iaload, 1) := by decide +kernel
theorem dX2_busiestStep_39 : decode cX2_busiestStep 39 = .ok (.iconst 1, 1) := by decide +kernel
theorem dX2_busiestStep_40 : decode cX2_busiestStep 40 = .ok (.iadd, 1) := by decide +kernel
theorem dX2_busiestStep_41 : decode cX2_busiestStep 41 = .ok (.iastore, 1) := by decide +kernel
theorem dX2_busiestStep_42 : decode cX2_busiestStep 42 = .ok (.iinc 1 1, 3) := by decide +kernel
theorem dX2_busiestStep_45 : decode cX2_busiestStep 45 = .ok (.goto (-26), 3) := by decide +kernel
theorem dX2_busiestStep_48 : decode cX2_busiestStep 48 = .ok (.aload_n 0, 1) := by decide +kernel
theorem dX2_busiestStep_49 : decode cX2_busiestStep 49 = .ok (.invokevirtual 169, 3) := by decide +kernel
theorem dX2_busiestStep_52 : decode cX2_busiestStep 52 = .ok (.ireturn, 1) := by decide +kernel
def w_X2_busiestStep_19 (o : Nat) (oh : Nat) (post : Int32 → mI → Prop) (k48 : mI → Prop) (I : mI) (v1 : Int32) : Prop := ∀ ZZ : (mI → Int32 → Prop), (∀ (I : mI) (v1 : Int32), (((I o 2) ≤ v1 → k48 I) ∧ (¬ (I o 2) ≤ v1 → vp_in v1 600 ∧ vp_in (I (o + 2) v1.toNatClampNeg) 25 ∧ vp_in (I (o + 2) v1.toNatClampNeg) 25 ∧ ∀ I2, I2 = up2 I (o + 11) ((I (o + 2) v1.toNatClampNeg).toNatClampNeg) ((I (o + 11) (I (o + 2) v1.toNatClampNeg).toNatClampNeg) + 1) → ∀ x3, x3 = v1 + 1 → ZZ I2 x3)) → ZZ I v1) → ZZ I v1
set_option maxRecDepth 100000 in
set_option maxHeartbeats 4000000 in
theorem s_X2_busiestStep_19 {p : Program} {l : Launch} {e : Env} {s : State} {m : MethodId} {args : Array Value} {below : List Frame} {meth : Method} {c : Code} {D : va_G} {cA : Nat → ClassId} {Z : mZ} {bs : Ad} {n : Nat} {K : mK} {R : mR} {L : mL} (E : Ev p s m args c cX2_busiestStep 2 RX2 D cA Z bs) (hr : meth.sig.returnType = (some .int)) (hlk : meth.locks = false) {o : Nat} {oh : Nat} (ho : isX2 K R o oh) {post : Int32 → mI → Prop} {k48 : mI → Prop} (hk48 : ∀ (I : mI) (H : Heap) (locs : List Loc) (ls : Array Slot), k48 I → mm D cA bs (n, K, R, I, L) H → va_S (Ab bs) s.heap H locs → lv_has ls 2 [(0, .ref (ad bs o))] → W p l e ({ frames := 1, cells := 0, slots := 0, locals := 23 } : Room) s m args below meth c H locs 0 0 (MQ below (QI D cA bs (fun r u => ∃ I', u = (n, K, R, I', L) ∧ post r I')) args s 0 0 (Ab bs)) (F0 m 48 ls [])) {I : mI} {v1 : Int32} {H : Heap} {locs : List Loc} {ls : Array Slot} (hw : w_X2_busiestStep_19 o oh post k48 I v1) (hM : mm D cA bs (n, K, R, I, L) H) (hS : va_S (Ab bs) s.heap H locs) (hl : lv_has ls 2 [(0, .ref (ad bs o)), (1, .int v1)]) : W p l e ({ frames := 1, cells := 0, slots := 0, locals := 23 } : Room) s m args below meth c H locs 0 0 (MQ below (QI D cA bs (fun r u => ∃ I', u = (n, K, R, I', L) ∧ post r I')) args s 0 0 (Ab bs)) (F0 m 19 ls []) := by
  have hx := E.1.1
  have hb := E.1.2.1
  refine hw (fun I v1 => ∀ (H : Heap) (locs : List Loc) (ls : Array Slot), mm D cA bs (n, K, R, I, L) H → va_S (Ab bs) s.heap H locs → lv_has ls 2 [(0, .ref (ad bs o)), (1, .int v1)] → W p l e ({ frames := 1, cells := 0, slots := 0, locals := 23 } : Room) s m args below meth c H locs 0 0 (MQ below (QI D cA bs (fun r u => ∃ I', u = (n, K, R, I', L) ∧ post r I')) args s 0 0 (Ab bs)) (F0 m 19 ls [])) ?_ H locs ls hM hS hl
  clear hw hM hS hl
  intro I v1 hw H locs ls hM hS hl
  refine lv_iload_n hx hb dX2_busiestStep_19 rfl (lv_at hl 1 rfl) ?_
  refine lv_aload_n hx hb dX2_busiestStep_20 rfl (lv_at hl 0 rfl) ?_
  refine m_geti E hM fs_X2_64 ho.1.1 dX2_busiestStep_21 ?_
  refine lv_icmp_ge (tgt := 48) hx hb dX2_busiestStep_24 (by decide) (fun cq => ?_) (fun cq => ?_)
  · have hw := hw.1 cq
    exact hk48 _ H locs ls  hw hM hS (lv_sub hl [0] rfl)
  · have hw := hw.2 cq
    refine lv_aload_n hx hb dX2_busiestStep_27 rfl (lv_at hl 0 rfl) ?_
    refine m_getr E hM fs_X2_42 ho.1.1 (isO_at ho.1 10 rfl).1 dX2_busiestStep_28 ?_
    refine lv_aload_n hx hb dX2_busiestStep_31 rfl (lv_at hl 0 rfl) ?_
    refine m_getr E hM fs_X2_15 ho.1.1 (isO_at ho.1 1 rfl).1 dX2_busiestStep_32 ?_
    refine lv_iload_n hx hb dX2_busiestStep_35 rfl (lv_at hl 1 rfl) ?_
    obtain ⟨hv, hw⟩ := hw
    refine m_iald E hM (isO_at ho.1 1 rfl).2 hv dX2_busiestStep_36 ?_
    refine lv_dup2_11 hx hb dX2_busiestStep_37 rfl rfl ?_
    obtain ⟨hv, hw⟩ := hw
    refine m_iald E hM (isO_at ho.1 10 rfl).2 hv dX2_busiestStep_38 ?_
    refine lv_iconst (v := 1) hx hb dX2_busiestStep_39 (by decide) ?_
    refine lv_iadd hx hb dX2_busiestStep_40 ?_
    obtain ⟨hv, hw⟩ := hw
    refine m_iast E hM hS (isO_at ho.1 10 rfl).2 hv dX2_busiestStep_41 (fun I2 H locs eI2 hM hS => ?_)
    have hw := hw I2 eI2
    obtain ⟨x3, ex3⟩ : ∃ y : Int32, y = v1 + 1 := ⟨_, rfl⟩
    have hw := hw x3 ex3
    refine lv_iinc (v := x3) (lv' := [(1, .int x3), (0, .ref (ad bs o))]) hx hb dX2_busiestStep_42 hl (k := 1) rfl (by rw [ex3]; rfl) (by decide) rfl (fun ls hl => ?_)
    refine lv_goto (tgt := 19) hx hb dX2_busiestStep_45 (by decide) ?_
    exact hw H locs ls  hM hS (lv_sub hl [1, 0] rfl)
def w_X2_busiestStep_48 (o : Nat) (oh : Nat) (post : Int32 → mI → Prop) (I : mI) : Prop := w_X2_mostTallied I o oh (fun r4 => post r4 I)
set_option maxRecDepth 100000 in
set_option maxHeartbeats 4000000 in
theorem s_X2_busiestStep_48 {p : Program} {l : Launch} {e : Env} {s : State} {m : MethodId} {args : Array Value} {below : List Frame} {meth : Method} {c : Code} {D : va_G} {cA : Nat → ClassId} {Z : mZ} {bs : Ad} {n : Nat} {K : mK} {R : mR} {L : mL} (E : Ev p s m args c cX2_busiestStep 2 RX2 D cA Z bs) (hr : meth.sig.returnType = (some .int)) (hlk : meth.locks = false) {o : Nat} {oh : Nat} (ho : isX2 K R o oh) {post : Int32 → mI → Prop} {I : mI} {H : Heap} {locs : List Loc} {ls : Array Slot} (hw : w_X2_busiestStep_48 o oh post I) (hM : mm D cA bs (n, K, R, I, L) H) (hS : va_S (Ab bs) s.heap H locs) (hl : lv_has ls 2 [(0, .ref (ad bs o))]) : W p l e ({ frames := 1, cells := 0, slots := 0, locals := 23 } : Room) s m args below meth c H locs 0 0 (MQ below (QI D cA bs (fun r u => ∃ I', u = (n, K, R, I', L) ∧ post r I')) args s 0 0 (Ab bs)) (F0 m 48 ls []) := by
  have hx := E.1.1
  have hb := E.1.2.1
  refine lv_aload_n hx hb dX2_busiestStep_48 rfl (lv_at hl 0 rfl) ?_
  refine m_ci (m_runV E hM hS cs_X2_169 ho.1.1 (by decide) rfl rfl (c_X2_mostTallied ho hw) rfl rfl ⟨Nat.le_of_ble_eq_true rfl, Nat.le_of_ble_eq_true rfl⟩ rfl hl.1 rfl (Nat.le_of_ble_eq_true rfl) dX2_busiestStep_49 ⟨Nat.le_of_ble_eq_true rfl, Nat.le_of_ble_eq_true rfl⟩) hS (fun r4 u H locs hp hM hS => ?_)
  obtain ⟨rfl, hw⟩ := hp
  exact m_reti hx hb hr hlk hM hS ⟨_, rfl, hw⟩ dX2_busiestStep_52
def w_X2_busiestStep (I : mI) (o : Nat) (oh : Nat) (post : Int32 → mI → Prop) : Prop := (¬ (I o 2) = 0 → w_J7_fill_53178 I (o + 11) 25 0 (fun I1 => (w_X2_busiestStep_19 o oh post (w_X2_busiestStep_48 o oh post)) I1 0)) ∧ ((I o 2) = 0 → post (-1) I)
set_option maxRecDepth 100000 in
set_option maxHeartbeats 4000000 in
theorem c_X2_busiestStep {l : Launch} {D : va_G} {cA : Nat → ClassId} {Z : mZ} {bs : Ad} {n : Nat} {K : mK} {R : mR} {I : mI} {L : mL} {o : Nat} {oh : Nat} {post : Int32 → mI → Prop} (ho : isX2 K R o oh) (hw : w_X2_busiestStep I o oh post) : Met l yX2_busiestStep (.code yX2_busiestStep cX2_busiestStep 2 (some .int) :: gw) ({ frames := 1, cells := 0, slots := 0, locals := 23 } : Room) (PreM D cA Z bs (n, K, R, I, L) [.ref (ad bs o)]) (QI D cA bs (fun r u => ∃ I', u = (n, K, R, I', L) ∧ post r I')) 0 0 (Ab bs) := by
  refine m_met (by decide) (Nat.le_of_ble_eq_true rfl) (fun p e s m below meth c ls E hr hlk hM hS hl => ?_)
  have E : Ev p s m _ c cX2_busiestStep 2 RX2 D cA Z bs := E
  have hl : lv_has ls 2 [(0, .ref (ad bs o))] := hl
  have hx := E.1.1
  have hb := E.1.2.1
  generalize hHe : s.heap = H at hM ⊢
  have hS : va_S (Ab bs) s.heap H [] := by rw [← hHe]; exact va_S.rf
  clear hHe
  refine lv_aload_n hx hb dX2_busiestStep_0 rfl (lv_at hl 0 rfl) ?_
  refine m_geti E hM fs_X2_64 ho.1.1 dX2_busiestStep_1 ?_
  refine lv_if_ne (tgt := 9) hx hb dX2_busiestStep_4 (by decide) (fun cq => ?_) (fun cq => ?_)
  · have hw := hw.1 cq
    refine lv_aload_n hx hb dX2_busiestStep_9 rfl (lv_at hl 0 rfl) ?_
    refine m_getr E hM fs_X2_42 ho.1.1 (isO_at ho.1 10 rfl).1 dX2_busiestStep_10 ?_
    refine lv_iconst (v := 0) hx hb dX2_busiestStep_13 (by decide) ?_
    refine m_cv (m_runS E hM hS cs_X2_68 (c_J7_fill_53178 ((isO_at ho.1 10 rfl).2) hw) rfl rfl ⟨Nat.le_of_ble_eq_true rfl, Nat.le_of_ble_eq_true rfl⟩ rfl hl.1 rfl (Nat.le_of_ble_eq_true rfl) dX2_busiestStep_14 ⟨Nat.le_of_ble_eq_true rfl, Nat.le_of_ble_eq_true rfl⟩) hS (fun u H locs hp hM hS => ?_)
    obtain ⟨I1, rfl, hw⟩ := hp
    refine lv_iconst (v := 0) hx hb dX2_busiestStep_17 (by decide) ?_
    refine lv_istore_n (lv' := [(1, .int 0), (0, .ref (ad bs o))]) hx hb dX2_busiestStep_18 rfl hl (by decide) rfl (fun ls hl => ?_)
    exact s_X2_busiestStep_19 E hr hlk ho (fun I H locs ls  hw hM hS hl => s_X2_busiestStep_48 E hr hlk ho  hw hM hS hl)  hw hM hS (lv_sub hl [1, 0] rfl)
  · have hw := hw.2 cq
    refine lv_iconst (v := (-1)) hx hb dX2_busiestStep_7 (by decide) ?_
    exact m_reti hx hb hr hlk hM hS ⟨_, rfl, hw⟩ dX2_busiestStep_8
theorem dX2_dampened_0 : decode cX2_dampened 0 = .ok (.bipush 9, 2) := by decide +kernel
theorem dX2_dampened_2 : decode cX2_dampened 2 = .ok (.aload_n 0, 1) := by decide +kernel
theorem dX2_dampened_3 : decode cX2_dampened 3 = .ok (.getfield 60, 3) := by decide +kernel
theorem dX2_dampened_6 : decode cX2_dampened 6 = .ok (.getfield 179, 3) := by decide +kernel
theorem dX2_dampened_9 : decode cX2_dampened 9 = .ok (.aload_n 0, 1) := by decide +kernel
theorem dX2_dampened_10 : decode cX2_dampened 10 = .ok (.getfield 15, 3) := by decide +kernel
theorem dX2_dampened_13 : decode cX2_dampened 13 = .ok (.iload_n 1, 1) := by decide +kernel
theorem dX2_dampened_14 : decode cX2_dampened 14 = .ok (.iaload, 1) := by decide +kernel
theorem dX2_dampened_15 : decode cX2_dampened 15 = .ok (.iaload, 1) := by decide +kernel
theorem dX2_dampened_16 : decode cX2_dampened 16 = .ok (.iload_n 2, 1) := by decide +kernel
theorem dX2_dampened_17 : decode cX2_dampened 17 = .ok (.iadd, 1) := by decide +kernel
theorem dX2_dampened_18 : decode cX2_dampened 18 = .ok (.invokestatic 182, 3) := by decide +kernel
theorem dX2_dampened_21 : decode cX2_dampened 21 = .ok (.istore_n 3, 1) := by decide +kernel
theorem dX2_dampened_22 : decode cX2_dampened 22 = .ok (.iconst 0, 1) := by decide +kernel
theorem dX2_dampened_23 : decode cX2_dampened 23 = .ok (.aload_n 0, 1) := by decide +kernel
theorem dX2_dampened_24 : decode cX2_dampened 24 = .ok (.getfield 60, 3) := by decide +kernel
theorem dX2_dampened_27 : decode cX2_dampened 27 = .ok (.getfield 185, 3) := by decide +kernel
theorem dX2_dampened_30 : decode cX2_dampened 30 = .ok (.aload_n 0, 1) := by decide +kernel
theorem dX2_dampened_31 : decode cX2_dampened 31 = .ok (.getfield 9, 3) := by decide +kernel
theorem dX2_dampened_34 : decode cX2_dampened 34 = .ok (.iload_n 1, 1) := by decide +kernel
theorem dX2_dampened_35 : decode cX2_dampened 35 = .ok (.iaload, 1) := by decide +kernel
theorem dX2_dampened_36 : decode cX2_dampened 36 = .ok (.iaload, 1) := by decide +kernel
theorem dX2_dampened_37 : decode cX2_dampened 37 = .ok (.aload_n 0, 1) := by decide +kernel
theorem dX2_dampened_38 : decode cX2_dampened 38 = .ok (.getfield 21, 3) := by decide +kernel
theorem dX2_dampened_41 : decode cX2_dampened 41 = .ok (.iload_n 1, 1) := by decide +kernel
theorem dX2_dampened_42 : decode cX2_dampened 42 = .ok (.iaload, 1) := by decide +kernel
theorem dX2_dampened_43 : decode cX2_dampened 43 = .ok (.iadd, 1) := by decide +kernel
theorem dX2_dampened_44 : decode cX2_dampened 44 = .ok (.iload_n 3, 1) := by decide +kernel
theorem dX2_dampened_45 : decode cX2_dampened 45 = .ok (.isub, 1) := by decide +kernel
theorem dX2_dampened_46 : decode cX2_dampened 46 = .ok (.invokestatic 112, 3) := by decide +kernel
theorem dX2_dampened_49 : decode cX2_dampened 49 = .ok (.ireturn, 1) := by decide +kernel
def w_X2_dampened (I : mI) (o : Nat) (oh : Nat) (a1 : Int32) (a2 : Int32) (post : Int32 → Prop) : Prop := vp_in a1 600 ∧ vp_in (I (o + 2) a1.toNatClampNeg) 24 ∧ ∀ x1, x1 = (imin 9 ((I (oh + 1) (I (o + 2) a1.toNatClampNeg).toNatClampNeg) + a2)) → vp_in a1 600 ∧ vp_in (I (o + 1) a1.toNatClampNeg) 6 ∧ vp_in a1 600 ∧ post (imax 0 (((I (oh + 5) (I (o + 1) a1.toNatClampNeg).toNatClampNeg) + (I (o + 4) a1.toNatClampNeg)) - x1))
set_option maxRecDepth 100000 in
set_option maxHeartbeats 4000000 in
theorem c_X2_dampened {l : Launch} {D : va_G} {cA : Nat → ClassId} {Z : mZ} {bs : Ad} {n : Nat} {K : mK} {R : mR} {I : mI} {L : mL} {o : Nat} {oh : Nat} {a1 : Int32} {a2 : Int32} {post : Int32 → Prop} (ho : isX2 K R o oh) (hw : w_X2_dampened I o oh a1 a2 post) : Met l yX2_dampened (.code yX2_dampened cX2_dampened 4 (some .int) :: gw) ({ frames := 1, cells := 0, slots := 0, locals := 40 } : Room) (PreM D cA Z bs (n, K, R, I, L) [.ref (ad bs o), .int a1, .int a2]) (QI D cA bs (fun r u => u = (n, K, R, I, L) ∧ post r)) 0 0 (Ab bs) := by
  refine m_met (by decide) (Nat.le_of_ble_eq_true rfl) (fun p e s m below meth c ls E hr hlk hM hS hl => ?_)
  have E : Ev p s m _ c cX2_dampened 4 RX2 D cA Z bs := E
  have hl : lv_has ls 4 [(0, .ref (ad bs o)), (1, .int a1), (2, .int a2)] := hl
  have hx := E.1.1
  have hb := E.1.2.1
  generalize hHe : s.heap = H at hM ⊢
  have hS : va_S (Ab bs) s.heap H [] := by rw [← hHe]; exact va_S.rf
  clear hHe
  refine lv_bipush (v := 9) hx hb dX2_dampened_0 (by decide) ?_
  refine lv_aload_n hx hb dX2_dampened_2 rfl (lv_at hl 0 rfl) ?_
  refine m_getr E hM fs_X2_60 ho.1.1 ho.2.1 dX2_dampened_3 ?_
  refine m_getr E hM fs_X2_179 ho.2.2.1 (isO_at ho.2.2 0 rfl).1 dX2_dampened_6 ?_
  refine lv_aload_n hx hb dX2_dampened_9 rfl (lv_at hl 0 rfl) ?_
  refine m_getr E hM fs_X2_15 ho.1.1 (isO_at ho.1 1 rfl).1 dX2_dampened_10 ?_
  refine lv_iload_n hx hb dX2_dampened_13 rfl (lv_at hl 1 rfl) ?_
  obtain ⟨hv, hw⟩ := hw
  refine m_iald E hM (isO_at ho.1 1 rfl).2 hv dX2_dampened_14 ?_
  obtain ⟨hv, hw⟩ := hw
  refine m_iald E hM (isO_at ho.2.2 0 rfl).2 hv dX2_dampened_15 ?_
  refine lv_iload_n hx hb dX2_dampened_16 rfl (lv_at hl 2 rfl) ?_
  refine lv_iadd hx hb dX2_dampened_17 ?_
  refine m_min E ml_X2_182 hl.1 (Nat.le_of_ble_eq_true rfl) (Nat.le_of_ble_eq_true rfl) (Nat.le_of_ble_eq_true rfl) (Nat.le_of_ble_eq_true rfl) dX2_dampened_18 ?_
  refine lv_topi (fun x1 ex1 => ?_)
  have hw := hw x1 ex1
  refine lv_istore_n (lv' := [(3, .int x1), (0, .ref (ad bs o)), (1, .int a1), (2, .int a2)]) hx hb dX2_dampened_21 rfl hl (by decide) rfl (fun ls hl => ?_)
  refine lv_iconst (v := 0) hx hb dX2_dampened_22 (by decide) ?_
  refine lv_aload_n hx hb dX2_dampened_23 rfl (lv_at hl 1 rfl) ?_
  refine m_getr E hM fs_X2_60 ho.1.1 ho.2.1 dX2_dampened_24 ?_
  refine m_getr E hM fs_X2_185 ho.2.2.1 (isO_at ho.2.2 4 rfl).1 dX2_dampened_27 ?_
  refine lv_aload_n hx hb dX2_dampened_30 rfl (lv_at hl 1 rfl) ?_
  refine m_getr E hM fs_X2_9 ho.1.1 (isO_at ho.1 0 rfl).1 dX2_dampened_31 ?_
  refine lv_iload_n hx hb dX2_dampened_34 rfl (lv_at hl 2 rfl) ?_
  obtain ⟨hv, hw⟩ := hw
  refine m_iald E hM (isO_at ho.1 0 rfl).2 hv dX2_dampened_35 ?_
  obtain ⟨hv, hw⟩ := hw
  refine m_iald E hM (isO_at ho.2.2 4 rfl).2 hv dX2_dampened_36 ?_
  refine lv_aload_n hx hb dX2_dampened_37 rfl (lv_at hl 1 rfl) ?_
  refine m_getr E hM fs_X2_21 ho.1.1 (isO_at ho.1 3 rfl).1 dX2_dampened_38 ?_
  refine lv_iload_n hx hb dX2_dampened_41 rfl (lv_at hl 2 rfl) ?_
  obtain ⟨hv, hw⟩ := hw
  refine m_iald E hM (isO_at ho.1 3 rfl).2 hv dX2_dampened_42 ?_
  refine lv_iadd hx hb dX2_dampened_43 ?_
  refine lv_iload_n hx hb dX2_dampened_44 rfl (lv_at hl 0 rfl) ?_
  refine lv_isub hx hb dX2_dampened_45 ?_
  refine m_max E ml_X2_112 hl.1 (Nat.le_of_ble_eq_true rfl) (Nat.le_of_ble_eq_true rfl) (Nat.le_of_ble_eq_true rfl) (Nat.le_of_ble_eq_true rfl) dX2_dampened_46 ?_
  exact m_reti hx hb hr hlk hM hS ⟨rfl, hw⟩ dX2_dampened_49
theorem dX2_tallySaved_0 : decode cX2_tallySaved 0 = .ok (.aload_n 0, 1) := by decide +kernel
theorem dX2_tallySaved_1 : decode cX2_tallySaved 1 = .ok (.getfield 42, 3) := by decide +kernel
theorem dX2_tallySaved_4 : decode cX2_tallySaved 4 = .ok (.iconst 0, 1) := by decide +kernel
theorem dX2_tallySaved_5 : decode cX2_tallySaved 5 = .ok (.invokestatic 68, 3) := by decide +kernel
theorem dX2_tallySaved_8 : decode cX2_tallySaved 8 = .ok (.iconst 0, 1) := by decide +kernel
theorem dX2_tallySaved_9 : decode cX2_tallySaved 9 = .ok (.istore_n 2, 1) := by decide +kernel
theorem dX2_tallySaved_10 : decode cX2_tallySaved 10 = .ok (.iload_n 2, 1) := by decide +kernel
theorem dX2_tallySaved_11 : decode cX2_tallySaved 11 = .ok (.aload_n 0, 1) := by decide +kernel
theorem dX2_tallySaved_12 : decode cX2_tallySaved 12 = .ok (.getfield 64, 3) := by decide +kernel
theorem dX2_tallySaved_15 : decode cX2_tallySaved 15 = .ok (.if_icmp .ge 89, 3) := by decide +kernel
theorem dX2_tallySaved_18 : decode cX2_tallySaved 18 = .ok (.aload_n 0, 1) := by decide +kernel
theorem dX2_tallySaved_19 : decode cX2_tallySaved 19 = .ok (.aload_n 0, 1) := by decide +kernel
theorem dX2_tallySaved_20 : decode cX2_tallySaved 20 = .ok (.getfield 15, 3) := by decide +kernel
theorem dX2_tallySaved_23 : decode cX2_tallySaved 23 = .ok (.iload_n 2, 1) := by decide +kernel
theorem dX2_tallySaved_24 : decode cX2_tallySaved 24 = .ok (.iaload, 1) := by decide +kernel
theorem dX2_tallySaved_25 : decode cX2_tallySaved 25 = .ok (.aload_n 0, 1) := by decide +kernel
theorem dX2_tallySaved_26 : decode cX2_tallySaved 26 = .ok (.iload_n 2, 1) := by decide +kernel
theorem dX2_tallySaved_27 : decode cX2_tallySaved 27 = .ok (.iload_n 1, 1) := by decide +kernel
theorem dX2_tallySaved_28 : decode cX2_tallySaved 28 = .ok (.invokevirtual 173, 3) := by decide +kernel
theorem dX2_tallySaved_31 : decode cX2_tallySaved 31 = .ok (.invokevirtual 145, 3) := by decide +kernel
theorem dX2_tallySaved_34 : decode cX2_tallySaved 34 = .ok (.istore_n 3, 1) := by decide +kernel
theorem dX2_tallySaved_35 : decode cX2_tallySaved 35 = .ok (.aload_n 0, 1) := by decide +kernel
theorem dX2_tallySaved_36 : decode cX2_tallySaved 36 = .ok (.getfield 27, 3) := by decide +kernel
theorem dX2_tallySaved_39 : decode cX2_tallySaved 39 = .ok (.iload_n 2, 1) := by decide +kernel
theorem dX2_tallySaved_40 : decode cX2_tallySaved 40 = .ok (.iaload, 1) := by decide +kernel
theorem dX2_tallySaved_41 : decode cX2_tallySaved 41 = .ok (.iconst (-1), 1) := by decide +kernel
theorem dX2_tallySaved_42 : decode cX2_tallySaved 42 = .ok (.if_icmp .eq 29, 3) := by decide +kernel
theorem dX2_tallySaved_45 : decode cX2_tallySaved 45 = .ok (.iload_n 3, 1) := by decide +kernel
theorem dX2_tallySaved_46 : decode cX2_tallySaved 46 = .ok (.aload_n 0, 1) := by decide +kernel
theorem dX2_tallySaved_47 : decode cX2_tallySaved 47 = .ok (.aload_n 0, 1) := by decide +kernel
theorem dX2_tallySaved_48 : decode cX2_tallySaved 48 = .ok (.getfield 15, 3) := by decide +kernel
theorem dX2_tallySaved_51 : decode cX2_tallySaved 51 = .ok (.iload_n 2, 1) := by decide +kernel
theorem dX2_tallySaved_52 : decode cX2_tallySaved 52 = .ok (.iaload, 1) := by decide +kernel
theorem dX2_tallySaved_53 : decode cX2_tallySaved 53 = .ok (.aload_n 0, 1) := by decide +kernel
theorem dX2_tallySaved_54 : decode cX2_tallySaved 54 = .ok (.aload_n 0, 1) := by decide +kernel
theorem dX2_tallySaved_55 : decode cX2_tallySaved 55 = .ok (.getfield 27, 3) := by decide +kernel
theorem dX2_tallySaved_58 : decode cX2_tallySaved 58 = .ok (.iload_n 2, 1) := by decide +kernel
theorem dX2_tallySaved_59 : decode cX2_tallySaved 59 = .ok (.iaload, 1) := by decide +kernel
theorem dX2_tallySaved_60 : decode cX2_tallySaved 60 = .ok (.iload_n 1, 1) := by decide +kernel
theorem dX2_tallySaved_61 : decode cX2_tallySaved 61 = .ok (.invokevirtual 173, 3) := by decide +kernel
theorem dX2_tallySaved_64 : decode cX2_tallySaved 64 = .ok (.iconst 2, 1) := by decide +kernel
theorem dX2_tallySaved_65 : decode cX2_tallySaved 65 = .ok (.idiv, 1) := by decide +kernel
theorem dX2_tallySaved_66 : decode cX2_tallySaved 66 = .ok (.invokevirtual 145, 3) := by decide +kernel
theorem dX2_tallySaved_69 : decode cX2_tallySaved 69 = .ok (.ior, 1) := by decide +kernel
theorem dX2_tallySaved_70 : decode cX2_tallySaved 70 = .ok (.istore_n 3, 1) := by decide +kernel
theorem dX2_tallySaved_71 : decode cX2_tallySaved 71 = .ok (.aload_n 0, 1) := by decide +kernel
theorem dX2_tallySaved_72 : decode cX2_tallySaved 72 = .ok (.getfield 42, 3) := by decide +kernel
theorem dX2_tallySaved_75 : decode cX2_tallySaved 75 = .ok (.aload_n 0, 1) := by decide +kernel
theorem dX2_tallySaved_76 : decode cX2_tallySaved 76 = .ok (.getfield 15, 3) := by decide +kernel
theorem dX2_tallySaved_79 : decode cX2_tallySaved 79 = .ok (.iload_n 2, 1) := by decide +kernel
theorem dX2_tallySaved_80 : decode cX2_tallySaved 80 = .ok (.iaload, 1) := by decide +kernel
theorem dX2_tallySaved_81 : decode cX2_tallySaved 81 = .ok (.dup2, 1) := by decide +kernel
theorem dX2_tallySaved_82 : decode cX2_tallySaved 82 = .ok (.iaload, 1) := by decide +kernel
theorem dX2_tallySaved_83 : decode cX2_tallySaved 83 = .ok (.aload_n 0, 1) := by decide +kernel
theorem dX2_tallySaved_84 : decode cX2_tallySaved 84 = .ok (.iload_n 2, 1) := by decide +kernel
theorem dX2_tallySaved_85 : decode cX2_tallySaved 85 = .ok (.invokevirtual 152, 3) := by decide +kernel
theorem dX2_tallySaved_88 : decode cX2_tallySaved 88 = .ok (.invokestatic 176, 3) := by decide +kernel
theorem dX2_tallySaved_91 : decode cX2_tallySaved 91 = .ok (.iload_n 3, 1) := by decide +kernel
theorem dX2_tallySaved_92 : decode cX2_tallySaved 92 = .ok (.invokestatic 176, 3) := by decide +kernel
theorem dX2_tallySaved_95 : decode cX2_tallySaved 95 = .ok (.isub, 1) := by decide +kernel
theorem dX2_tallySaved_96 : decode cX2_tallySaved 96 = .ok (.iadd, 1) := by decide +kernel
theorem dX2_tallySaved_97 : decode cX2_tallySaved 97 = .ok (.iastore, 1) := by decide +kernel
theorem dX2_tallySaved_98 : decode cX2_tallySaved 98 = .ok (.iinc 2 1, 3) := by decide +kernel
theorem dX2_tallySaved_101 : decode cX2_tallySaved 101 = .ok (.goto (-91), 3) := by decide +kernel
theorem dX2_tallySaved_104 : decode cX2_tallySaved 104 = .ok (.return_, 1) := by decide +kernel
def w_X2_tallySaved_71 (o : Nat) (oh : Nat) (a1 : Int32) (post : mI → Prop) (k10 : mI → Int32 → Prop) (I : mI) (v2 : Int32) (v3 : Int32) : Prop := vp_in v2 600 ∧ vp_in (I (o + 2) v2.toNatClampNeg) 25 ∧ w_X2_notedBy I o oh v2 (fun r7 => w_J6_bitCount_0f7a4 r7 (fun r8 => w_J6_bitCount_0f7a4 v3 (fun r9 => vp_in (I (o + 2) v2.toNatClampNeg) 25 ∧ ∀ I10, I10 = up2 I (o + 11) ((I (o + 2) v2.toNatClampNeg).toNatClampNeg) ((I (o + 11) (I (o + 2) v2.toNatClampNeg).toNatClampNeg) + (r8 - r9)) → ∀ x11, x11 = v2 + 1 → k10 I10 x11)))
set_option maxRecDepth 100000 in
set_option maxHeartbeats 4000000 in
theorem s_X2_tallySaved_71 {p : Program} {l : Launch} {e : Env} {s : State} {m : MethodId} {args : Array Value} {below : List Frame} {meth : Method} {c : Code} {D : va_G} {cA : Nat → ClassId} {Z : mZ} {bs : Ad} {n : Nat} {K : mK} {R : mR} {L : mL} (E : Ev p s m args c cX2_tallySaved 4 RX2 D cA Z bs) (hr : meth.sig.returnType = none) (hlk : meth.locks = false) {o : Nat} {oh : Nat} {a1 : Int32} (ho : isX2 K R o oh) {post : mI → Prop} {k10 : mI → Int32 → Prop} (hk10 : ∀ (I : mI) (v2 : Int32) (H : Heap) (locs : List Loc) (ls : Array Slot), k10 I v2 → mm D cA bs (n, K, R, I, L) H → va_S (Ab bs) s.heap H locs → lv_has ls 4 [(0, .ref (ad bs o)), (1, .int a1), (2, .int v2)] → W p l e ({ frames := 2, cells := 0, slots := 0, locals := 63 } : Room) s m args below meth c H locs 0 0 (MQ below (QV D cA bs (fun u => ∃ I', u = (n, K, R, I', L) ∧ post I')) args s 0 0 (Ab bs)) (F0 m 10 ls [])) {I : mI} {v2 : Int32} {v3 : Int32} {H : Heap} {locs : List Loc} {ls : Array Slot} (hw : w_X2_tallySaved_71 o oh a1 post k10 I v2 v3) (hM : mm D cA bs (n, K, R, I, L) H) (hS : va_S (Ab bs) s.heap H locs) (hl : lv_has ls 4 [(0, .ref (ad bs o)), (1, .int a1), (2, .int v2), (3, .int v3)]) : W p l e ({ frames := 2, cells := 0, slots := 0, locals := 63 } : Room) s m args below meth c H locs 0 0 (MQ below (QV D cA bs (fun u => ∃ I', u = (n, K, R, I', L) ∧ post I')) args s 0 0 (Ab bs)) (F0 m 71 ls []) := by
  have hx := E.1.1
  have hb := E.1.2.1
  refine lv_aload_n hx hb dX2_tallySaved_71 rfl (lv_at hl 0 rfl) ?_
  refine m_getr E hM fs_X2_42 ho.1.1 (isO_at ho.1 10 rfl).1 dX2_tallySaved_72 ?_
  refine lv_aload_n hx hb dX2_tallySaved_75 rfl (lv_at hl 0 rfl) ?_
  refine m_getr E hM fs_X2_15 ho.1.1 (isO_at ho.1 1 rfl).1 dX2_tallySaved_76 ?_
  refine lv_iload_n hx hb dX2_tallySaved_79 rfl (lv_at hl 2 rfl) ?_
  obtain ⟨hv, hw⟩ := hw
  refine m_iald E hM (isO_at ho.1 1 rfl).2 hv dX2_tallySaved_80 ?_
  refine lv_dup2_11 hx hb dX2_tallySaved_81 rfl rfl ?_
  obtain ⟨hv, hw⟩ := hw
  refine m_iald E hM (isO_at ho.1 10 rfl).2 hv dX2_tallySaved_82 ?_
  refine lv_aload_n hx hb dX2_tallySaved_83 rfl (lv_at hl 0 rfl) ?_
  refine lv_iload_n hx hb dX2_tallySaved_84 rfl (lv_at hl 2 rfl) ?_
  refine m_ci (m_runV E hM hS cs_X2_152 ho.1.1 (by decide) rfl rfl (c_X2_notedBy ho hw) rfl rfl ⟨Nat.le_of_ble_eq_true rfl, Nat.le_of_ble_eq_true rfl⟩ rfl hl.1 rfl (Nat.le_of_ble_eq_true rfl) dX2_tallySaved_85 ⟨Nat.le_of_ble_eq_true rfl, Nat.le_of_ble_eq_true rfl⟩) hS (fun r7 u H locs hp hM hS => ?_)
  obtain ⟨rfl, hw⟩ := hp
  refine m_ci (m_runS E hM hS cs_X2_176 (c_J6_bitCount_0f7a4  hw) rfl rfl ⟨Nat.le_of_ble_eq_true rfl, Nat.le_of_ble_eq_true rfl⟩ rfl hl.1 rfl (Nat.le_of_ble_eq_true rfl) dX2_tallySaved_88 ⟨Nat.le_of_ble_eq_true rfl, Nat.le_of_ble_eq_true rfl⟩) hS (fun r8 u H locs hp hM hS => ?_)
  obtain ⟨rfl, hw⟩ := hp
  refine lv_iload_n hx hb dX2_tallySaved_91 rfl (lv_at hl 3 rfl) ?_
  refine m_ci (m_runS E hM hS cs_X2_176 (c_J6_bitCount_0f7a4  hw) rfl rfl ⟨Nat.le_of_ble_eq_true rfl, Nat.le_of_ble_eq_true rfl⟩ rfl hl.1 rfl (Nat.le_of_ble_eq_true rfl) dX2_tallySaved_92 ⟨Nat.le_of_ble_eq_true rfl, Nat.le_of_ble_eq_true rfl⟩) hS (fun r9 u H locs hp hM hS => ?_)
  obtain ⟨rfl, hw⟩ := hp
  refine lv_isub hx hb dX2_tallySaved_95 ?_
  refine lv_iadd hx hb dX2_tallySaved_96 ?_
  obtain ⟨hv, hw⟩ := hw
  refine m_iast E hM hS (isO_at ho.1 10 rfl).2 hv dX2_tallySaved_97 (fun I10 H locs eI10 hM hS => ?_)
  have hw := hw I10 eI10
  obtain ⟨x11, ex11⟩ : ∃ y : Int32, y = v2 + 1 := ⟨_, rfl⟩
  have hw := hw x11 ex11
  refine lv_iinc (v := x11) (lv' := [(2, .int x11), (0, .ref (ad bs o)), (1, .int a1), (3, .int v3)]) hx hb dX2_tallySaved_98 hl (k := 2) rfl (by rw [ex11]; rfl) (by decide) rfl (fun ls hl => ?_)
  refine lv_goto (tgt := 10) hx hb dX2_tallySaved_101 (by decide) ?_
  exact hk10 _ _ H locs ls  hw hM hS (lv_sub hl [1, 2, 0] rfl)
def w_X2_tallySaved_10 (o : Nat) (oh : Nat) (a1 : Int32) (post : mI → Prop) (I : mI) (v2 : Int32) : Prop := ∀ ZZ : (mI → Int32 → Prop), (∀ (I : mI) (v2 : Int32), (((I o 2) ≤ v2 → post I) ∧ (¬ (I o 2) ≤ v2 → vp_in v2 600 ∧ w_X2_dampened I o oh v2 a1 (fun r2 => w_X2_hearers I o oh (I (o + 2) v2.toNatClampNeg) r2 (fun r3 => vp_in v2 600 ∧ ((I (o + 6) v2.toNatClampNeg) = (-1) → (w_X2_tallySaved_71 o oh a1 post ZZ) I v2 r3) ∧ (¬ (I (o + 6) v2.toNatClampNeg) = (-1) → vp_in v2 600 ∧ vp_in v2 600 ∧ w_X2_dampened I o oh (I (o + 6) v2.toNatClampNeg) a1 (fun r4 => w_X2_hearers I o oh (I (o + 2) v2.toNatClampNeg) (r4 / 2) (fun r5 => ∀ x6, x6 = (r3 ||| r5) → (w_X2_tallySaved_71 o oh a1 post ZZ) I v2 x6))))))) → ZZ I v2) → ZZ I v2
set_option maxRecDepth 100000 in
set_option maxHeartbeats 4000000 in
theorem s_X2_tallySaved_10 {p : Program} {l : Launch} {e : Env} {s : State} {m : MethodId} {args : Array Value} {below : List Frame} {meth : Method} {c : Code} {D : va_G} {cA : Nat → ClassId} {Z : mZ} {bs : Ad} {n : Nat} {K : mK} {R : mR} {L : mL} (E : Ev p s m args c cX2_tallySaved 4 RX2 D cA Z bs) (hr : meth.sig.returnType = none) (hlk : meth.locks = false) {o : Nat} {oh : Nat} {a1 : Int32} (ho : isX2 K R o oh) {post : mI → Prop} {I : mI} {v2 : Int32} {H : Heap} {locs : List Loc} {ls : Array Slot} (hw : w_X2_tallySaved_10 o oh a1 post I v2) (hM : mm D cA bs (n, K, R, I, L) H) (hS : va_S (Ab bs) s.heap H locs) (hl : lv_has ls 4 [(0, .ref (ad bs o)), (1, .int a1), (2, .int v2)]) : W p l e ({ frames := 2, cells := 0, slots := 0, locals := 63 } : Room) s m args below meth c H locs 0 0 (MQ below (QV D cA bs (fun u => ∃ I', u = (n, K, R, I', L) ∧ post I')) args s 0 0 (Ab bs)) (F0 m 10 ls []) := by
  have hx := E.1.1
  have hb := E.1.2.1
  refine hw (fun I v2 => ∀ (H : Heap) (locs : List Loc) (ls : Array Slot), mm D cA bs (n, K, R, I, L) H → va_S (Ab bs) s.heap H locs → lv_has ls 4 [(0, .ref (ad bs o)), (1, .int a1), (2, .int v2)] → W p l e ({ frames := 2, cells := 0, slots := 0, locals := 63 } : Room) s m args below meth c H locs 0 0 (MQ below (QV D cA bs (fun u => ∃ I', u = (n, K, R, I', L) ∧ post I')) args s 0 0 (Ab bs)) (F0 m 10 ls [])) ?_ H locs ls hM hS hl
  clear hw hM hS hl
  intro I v2 hw H locs ls hM hS hl
  refine lv_iload_n hx hb dX2_tallySaved_10 rfl (lv_at hl 2 rfl) ?_
  refine lv_aload_n hx hb dX2_tallySaved_11 rfl (lv_at hl 0 rfl) ?_
  refine m_geti E hM fs_X2_64 ho.1.1 dX2_tallySaved_12 ?_
  refine lv_icmp_ge (tgt := 104) hx hb dX2_tallySaved_15 (by decide) (fun cq => ?_) (fun cq => ?_)
  · have hw := hw.1 cq
    exact m_retv hx hb hr hlk hM hS ⟨_, rfl, hw⟩ dX2_tallySaved_104
  · have hw := hw.2 cq
    refine lv_aload_n hx hb dX2_tallySaved_18 rfl (lv_at hl 0 rfl) ?_
    refine lv_aload_n hx hb dX2_tallySaved_19 rfl (lv_at hl 0 rfl) ?_
    refine m_getr E hM fs_X2_15 ho.1.1 (isO_at ho.1 1 rfl).1 dX2_tallySaved_20 ?_
    refine lv_iload_n hx hb dX2_tallySaved_23 rfl (lv_at hl 2 rfl) ?_
    obtain ⟨hv, hw⟩ := hw
    refine m_iald E hM (isO_at ho.1 1 rfl).2 hv dX2_tallySaved_24 ?_
    refine lv_aload_n hx hb dX2_tallySaved_25 rfl (lv_at hl 0 rfl) ?_
    refine lv_iload_n hx hb dX2_tallySaved_26 rfl (lv_at hl 2 rfl) ?_
    refine lv_iload_n hx hb dX2_tallySaved_27 rfl (lv_at hl 1 rfl) ?_
    refine m_ci (m_runV E hM hS cs_X2_173 ho.1.1 (by decide) rfl rfl (c_X2_dampened ho hw) rfl rfl ⟨Nat.le_of_ble_eq_true rfl, Nat.le_of_ble_eq_true rfl⟩ rfl hl.1 rfl (Nat.le_of_ble_eq_true rfl) dX2_tallySaved_28 ⟨Nat.le_of_ble_eq_true rfl, Nat.le_of_ble_eq_true rfl⟩) hS (fun r2 u H locs hp hM hS => ?_)
    obtain ⟨rfl, hw⟩ := hp
    refine m_ci (m_runV E hM hS cs_X2_145 ho.1.1 (by decide) rfl rfl (c_X2_hearers ho hw) rfl rfl ⟨Nat.le_of_ble_eq_true rfl, Nat.le_of_ble_eq_true rfl⟩ rfl hl.1 rfl (Nat.le_of_ble_eq_true rfl) dX2_tallySaved_31 ⟨Nat.le_of_ble_eq_true rfl, Nat.le_of_ble_eq_true rfl⟩) hS (fun r3 u H locs hp hM hS => ?_)
    obtain ⟨rfl, hw⟩ := hp
    refine lv_istore_n (lv' := [(3, .int r3), (0, .ref (ad bs o)), (1, .int a1), (2, .int v2)]) hx hb dX2_tallySaved_34 rfl hl (by decide) rfl (fun ls hl => ?_)
    refine lv_aload_n hx hb dX2_tallySaved_35 rfl (lv_at hl 1 rfl) ?_
    refine m_getr E hM fs_X2_27 ho.1.1 (isO_at ho.1 5 rfl).1 dX2_tallySaved_36 ?_
    refine lv_iload_n hx hb dX2_tallySaved_39 rfl (lv_at hl 3 rfl) ?_
    obtain ⟨hv, hw⟩ := hw
    refine m_iald E hM (isO_at ho.1 5 rfl).2 hv dX2_tallySaved_40 ?_
    refine lv_iconst (v := (-1)) hx hb dX2_tallySaved_41 (by decide) ?_
    refine lv_icmp_eq (tgt := 71) hx hb dX2_tallySaved_42 (by decide) (fun cq => ?_) (fun cq => ?_)
    · have hw := hw.1 cq
      exact s_X2_tallySaved_71 E hr hlk ho (fun I v2 H locs ls  hw hM hS hl => hw H locs ls  hM hS hl)  hw hM hS (lv_sub hl [1, 2, 3, 0] rfl)
    · have hw := hw.2 cq
      refine lv_iload_n hx hb dX2_tallySaved_45 rfl (lv_at hl 0 rfl) ?_
      refine lv_aload_n hx hb dX2_tallySaved_46 rfl (lv_at hl 1 rfl) ?_
      refine lv_aload_n hx hb dX2_tallySaved_47 rfl (lv_at hl 1 rfl) ?_
      refine m_getr E hM fs_X2_15 ho.1.1 (isO_at ho.1 1 rfl).1 dX2_tallySaved_48 ?_
      refine lv_iload_n hx hb dX2_tallySaved_51 rfl (lv_at hl 3 rfl) ?_
      obtain ⟨hv, hw⟩ := hw
      refine m_iald E hM (isO_at ho.1 1 rfl).2 hv dX2_tallySaved_52 ?_
      refine lv_aload_n hx hb dX2_tallySaved_53 rfl (lv_at hl 1 rfl) ?_
      refine lv_aload_n hx hb dX2_tallySaved_54 rfl (lv_at hl 1 rfl) ?_
      refine m_getr E hM fs_X2_27 ho.1.1 (isO_at ho.1 5 rfl).1 dX2_tallySaved_55 ?_
      refine lv_iload_n hx hb dX2_tallySaved_58 rfl (lv_at hl 3 rfl) ?_
      obtain ⟨hv, hw⟩ := hw
      refine m_iald E hM (isO_at ho.1 5 rfl).2 hv dX2_tallySaved_59 ?_
      refine lv_iload_n hx hb dX2_tallySaved_60 rfl (lv_at hl 2 rfl) ?_
      refine m_ci (m_runV E hM hS cs_X2_173 ho.1.1 (by decide) rfl rfl (c_X2_dampened ho hw) rfl rfl ⟨Nat.le_of_ble_eq_true rfl, Nat.le_of_ble_eq_true rfl⟩ rfl hl.1 rfl (Nat.le_of_ble_eq_true rfl) dX2_tallySaved_61 ⟨Nat.le_of_ble_eq_true rfl, Nat.le_of_ble_eq_true rfl⟩) hS (fun r4 u H locs hp hM hS => ?_)
      obtain ⟨rfl, hw⟩ := hp
      refine lv_iconst (v := 2) hx hb dX2_tallySaved_64 (by decide) ?_
      refine lv_idiv hx hb dX2_tallySaved_65 (by decide) ?_
      refine m_ci (m_runV E hM hS cs_X2_145 ho.1.1 (by decide) rfl rfl (c_X2_hearers ho hw) rfl rfl ⟨Nat.le_of_ble_eq_true rfl, Nat.le_of_ble_eq_true rfl⟩ rfl hl.1 rfl (Nat.le_of_ble_eq_true rfl) dX2_tallySaved_66 ⟨Nat.le_of_ble_eq_true rfl, Nat.le_of_ble_eq_true rfl⟩) hS (fun r5 u H locs hp hM hS => ?_)
      obtain ⟨rfl, hw⟩ := hp
      refine lv_ior hx hb dX2_tallySaved_69 ?_
      refine lv_topi (fun x6 ex6 => ?_)
      have hw := hw x6 ex6
      refine lv_istore_n (lv' := [(3, .int x6), (0, .ref (ad bs o)), (1, .int a1), (2, .int v2)]) hx hb dX2_tallySaved_70 rfl hl (by decide) rfl (fun ls hl => ?_)
      exact s_X2_tallySaved_71 E hr hlk ho (fun I v2 H locs ls  hw hM hS hl => hw H locs ls  hM hS hl)  hw hM hS (lv_sub hl [1, 2, 3, 0] rfl)
def w_X2_tallySaved (I : mI) (o : Nat) (oh : Nat) (a1 : Int32) (post : mI → Prop) : Prop := w_J7_fill_53178 I (o + 11) 25 0 (fun I1 => (w_X2_tallySaved_10 o oh a1 post) I1 0)
set_option maxRecDepth 100000 in
set_option maxHeartbeats 4000000 in
theorem c_X2_tallySaved {l : Launch} {D : va_G} {cA : Nat → ClassId} {Z : mZ} {bs : Ad} {n : Nat} {K : mK} {R : mR} {I : mI} {L : mL} {o : Nat} {oh : Nat} {a1 : Int32} {post : mI → Prop} (ho : isX2 K R o oh) (hw : w_X2_tallySaved I o oh a1 post) : Met l yX2_tallySaved (.code yX2_tallySaved cX2_tallySaved 4 none :: gw) ({ frames := 2, cells := 0, slots := 0, locals := 63 } : Room) (PreM D cA Z bs (n, K, R, I, L) [.ref (ad bs o), .int a1]) (QV D cA bs (fun u => ∃ I', u = (n, K, R, I', L) ∧ post I')) 0 0 (Ab bs) := by
  refine m_met (by decide) (Nat.le_of_ble_eq_true rfl) (fun p e s m below meth c ls E hr hlk hM hS hl => ?_)
  have E : Ev p s m _ c cX2_tallySaved 4 RX2 D cA Z bs := E
  have hl : lv_has ls 4 [(0, .ref (ad bs o)), (1, .int a1)] := hl
  have hx := E.1.1
  have hb := E.1.2.1
  generalize hHe : s.heap = H at hM ⊢
  have hS : va_S (Ab bs) s.heap H [] := by rw [← hHe]; exact va_S.rf
  clear hHe
  refine lv_aload_n hx hb dX2_tallySaved_0 rfl (lv_at hl 0 rfl) ?_
  refine m_getr E hM fs_X2_42 ho.1.1 (isO_at ho.1 10 rfl).1 dX2_tallySaved_1 ?_
  refine lv_iconst (v := 0) hx hb dX2_tallySaved_4 (by decide) ?_
  refine m_cv (m_runS E hM hS cs_X2_68 (c_J7_fill_53178 ((isO_at ho.1 10 rfl).2) hw) rfl rfl ⟨Nat.le_of_ble_eq_true rfl, Nat.le_of_ble_eq_true rfl⟩ rfl hl.1 rfl (Nat.le_of_ble_eq_true rfl) dX2_tallySaved_5 ⟨Nat.le_of_ble_eq_true rfl, Nat.le_of_ble_eq_true rfl⟩) hS (fun u H locs hp hM hS => ?_)
  obtain ⟨I1, rfl, hw⟩ := hp
  refine lv_iconst (v := 0) hx hb dX2_tallySaved_8 (by decide) ?_
  refine lv_istore_n (lv' := [(2, .int 0), (0, .ref (ad bs o)), (1, .int a1)]) hx hb dX2_tallySaved_9 rfl hl (by decide) rfl (fun ls hl => ?_)
  exact s_X2_tallySaved_10 E hr hlk ho  hw hM hS (lv_sub hl [1, 2, 0] rfl)
theorem dX2_shoesHeard_0 : decode cX2_shoesHeard 0 = .ok (.iconst 0, 1) := by decide +kernel
theorem dX2_shoesHeard_1 : decode cX2_shoesHeard 1 = .ok (.istore_n 2, 1) := by decide +kernel
theorem dX2_shoesHeard_2 : decode cX2_shoesHeard 2 = .ok (.iconst 0, 1) := by decide +kernel
theorem dX2_shoesHeard_3 : decode cX2_shoesHeard 3 = .ok (.istore_n 3, 1) := by decide +kernel
theorem dX2_shoesHeard_4 : decode cX2_shoesHeard 4 = .ok (.iload_n 3, 1) := by decide +kernel
theorem dX2_shoesHeard_5 : decode cX2_shoesHeard 5 = .ok (.aload_n 0, 1) := by decide +kernel
theorem dX2_shoesHeard_6 : decode cX2_shoesHeard 6 = .ok (.getfield 64, 3) := by decide +kernel
theorem dX2_shoesHeard_9 : decode cX2_shoesHeard 9 = .ok (.if_icmp .ge 33, 3) := by decide +kernel
theorem dX2_shoesHeard_12 : decode cX2_shoesHeard 12 = .ok (.aload_n 0, 1) := by decide +kernel
theorem dX2_shoesHeard_13 : decode cX2_shoesHeard 13 = .ok (.getfield 30, 3) := by decide +kernel
theorem dX2_shoesHeard_16 : decode cX2_shoesHeard 16 = .ok (.iload_n 3, 1) := by decide +kernel
theorem dX2_shoesHeard_17 : decode cX2_shoesHeard 17 = .ok (.iaload, 1) := by decide +kernel
theorem dX2_shoesHeard_18 : decode cX2_shoesHeard 18 = .ok (.iload_n 1, 1) := by decide +kernel
theorem dX2_shoesHeard_19 : decode cX2_shoesHeard 19 = .ok (.invokestatic 155, 3) := by decide +kernel
theorem dX2_shoesHeard_22 : decode cX2_shoesHeard 22 = .ok (.ifCond .eq 14, 3) := by decide +kernel
theorem dX2_shoesHeard_25 : decode cX2_shoesHeard 25 = .ok (.iload_n 2, 1) := by decide +kernel
theorem dX2_shoesHeard_26 : decode cX2_shoesHeard 26 = .ok (.iconst 1, 1) := by decide +kernel
theorem dX2_shoesHeard_27 : decode cX2_shoesHeard 27 = .ok (.aload_n 0, 1) := by decide +kernel
theorem dX2_shoesHeard_28 : decode cX2_shoesHeard 28 = .ok (.getfield 21, 3) := by decide +kernel
theorem dX2_shoesHeard_31 : decode cX2_shoesHeard 31 = .ok (.iload_n 3, 1) := by decide +kernel
theorem dX2_shoesHeard_32 : decode cX2_shoesHeard 32 = .ok (.iaload, 1) := by decide +kernel
theorem dX2_shoesHeard_33 : decode cX2_shoesHeard 33 = .ok (.ishl, 1) := by decide +kernel
theorem dX2_shoesHeard_34 : decode cX2_shoesHeard 34 = .ok (.ior, 1) := by decide +kernel
theorem dX2_shoesHeard_35 : decode cX2_shoesHeard 35 = .ok (.istore_n 2, 1) := by decide +kernel
theorem dX2_shoesHeard_36 : decode cX2_shoesHeard 36 = .ok (.iinc 3 1, 3) := by decide +kernel
theorem dX2_shoesHeard_39 : decode cX2_shoesHeard 39 = .ok (.goto (-35), 3) := by decide +kernel
theorem dX2_shoesHeard_42 : decode cX2_shoesHeard 42 = .ok (.iload_n 2, 1) := by decide +kernel
theorem dX2_shoesHeard_43 : decode cX2_shoesHeard 43 = .ok (.invokestatic 176, 3) := by decide +kernel
theorem dX2_shoesHeard_46 : decode cX2_shoesHeard 46 = .ok (.ireturn, 1) := by decide +kernel
def w_X2_shoesHeard_4 (I : mI) (o : Nat) (oh : Nat) (a1 : Int32) (post : Int32 → Prop) (k42 : Int32 → Prop) (v2 : Int32) (v3 : Int32) : Prop := ∀ ZZ : (Int32 → Int32 → Prop), (∀ (v2 : Int32) (v3 : Int32), (((I o 2) ≤ v3 → k42 v2) ∧ (¬ (I o 2) ≤ v3 → vp_in v3 600 ∧ w_X11_has (I (o + 7) v3.toNatClampNeg) a1 (fun b1 => (b1 = false → ∀ x2, x2 = v3 + 1 → ZZ v2 x2) ∧ (b1 = true → vp_in v3 600 ∧ ∀ x3, x3 = (v2 ||| (1 <<< ((I (o + 4) v3.toNatClampNeg) &&& 31))) → ∀ x4, x4 = v3 + 1 → ZZ x3 x4)))) → ZZ v2 v3) → ZZ v2 v3
set_option maxRecDepth 100000 in
set_option maxHeartbeats 4000000 in
theorem s_X2_shoesHeard_4 {p : Program} {l : Launch} {e : Env} {s : State} {m : MethodId} {args : Array Value} {below : List Frame} {meth : Method} {c : Code} {D : va_G} {cA : Nat → ClassId} {Z : mZ} {bs : Ad} {n : Nat} {K : mK} {R : mR} {I : mI} {L : mL} (E : Ev p s m args c cX2_shoesHeard 4 RX2 D cA Z bs) (hr : meth.sig.returnType = (some .int)) (hlk : meth.locks = false) {o : Nat} {oh : Nat} {a1 : Int32} (ho : isX2 K R o oh) {post : Int32 → Prop} {k42 : Int32 → Prop} (hk42 : ∀ (v2 : Int32) (H : Heap) (locs : List Loc) (ls : Array Slot), k42 v2 → mm D cA bs (n, K, R, I, L) H → va_S (Ab bs) s.heap H locs → lv_has ls 4 [(2, .int v2)] → W p l e ({ frames := 1, cells := 0, slots := 0, locals := 21 } : Room) s m args below meth c H locs 0 0 (MQ below (QI D cA bs (fun r u => u = (n, K, R, I, L) ∧ post r)) args s 0 0 (Ab bs)) (F0 m 42 ls [])) {v2 : Int32} {v3 : Int32} {H : Heap} {locs : List Loc} {ls : Array Slot} (hw : w_X2_shoesHeard_4 I o oh a1 post k42 v2 v3) (hM : mm D cA bs (n, K, R, I, L) H) (hS : va_S (Ab bs) s.heap H locs) (hl : lv_has ls 4 [(0, .ref (ad bs o)), (1, .int a1), (2, .int v2), (3, .int v3)]) : W p l e ({ frames := 1, cells := 0, slots := 0, locals := 21 } : Room) s m args below meth c H locs 0 0 (MQ below (QI D cA bs (fun r u => u = (n, K, R, I, L) ∧ post r)) args s 0 0 (Ab bs)) (F0 m 4 ls []) := by
  have hx := E.1.1
  have hb := E.1.2.1
  refine hw (fun v2 v3 => ∀ (H : Heap) (locs : List Loc) (ls : Array Slot), mm D cA bs (n, K, R, I, L) H → va_S (Ab bs) s.heap H locs → lv_has ls 4 [(0, .ref (ad bs o)), (1, .int a1), (2, .int v2), (3, .int v3)] → W p l e ({ frames := 1, cells := 0, slots := 0, locals := 21 } : Room) s m args below meth c H locs 0 0 (MQ below (QI D cA bs (fun r u => u = (n, K, R, I, L) ∧ post r)) args s 0 0 (Ab bs)) (F0 m 4 ls [])) ?_ H locs ls hM hS hl
  clear hw hM hS hl
  intro v2 v3 hw H locs ls hM hS hl
  refine lv_iload_n hx hb dX2_shoesHeard_4 rfl (lv_at hl 3 rfl) ?_
  refine lv_aload_n hx hb dX2_shoesHeard_5 rfl (lv_at hl 0 rfl) ?_
  refine m_geti E hM fs_X2_64 ho.1.1 dX2_shoesHeard_6 ?_
  refine lv_icmp_ge (tgt := 42) hx hb dX2_shoesHeard_9 (by decide) (fun cq => ?_) (fun cq => ?_)
  · have hw := hw.1 cq
    exact hk42 _ H locs ls  hw hM hS (lv_sub hl [2] rfl)
  · have hw := hw.2 cq
    refine lv_aload_n hx hb dX2_shoesHeard_12 rfl (lv_at hl 0 rfl) ?_
    refine m_getr E hM fs_X2_30 ho.1.1 (isO_at ho.1 6 rfl).1 dX2_shoesHeard_13 ?_
    refine lv_iload_n hx hb dX2_shoesHeard_16 rfl (lv_at hl 3 rfl) ?_
    obtain ⟨hv, hw⟩ := hw
    refine m_iald E hM (isO_at ho.1 6 rfl).2 hv dX2_shoesHeard_17 ?_
    refine lv_iload_n hx hb dX2_shoesHeard_18 rfl (lv_at hl 1 rfl) ?_
    refine m_ci (m_runSN E hM hS cs_X2_155 (c_X11_has  hw) rfl rfl ⟨Nat.le_of_ble_eq_true rfl, Nat.le_of_ble_eq_true rfl⟩ rfl hl.1 rfl (Nat.le_of_ble_eq_true rfl) dX2_shoesHeard_19 ⟨Nat.le_of_ble_eq_true rfl, Nat.le_of_ble_eq_true rfl⟩) hS (fun r9 u H locs hp hM hS => ?_)
    obtain ⟨b1, rfl, rfl, hw⟩ := hp
    refine lv_if_eq (tgt := 36) hx hb dX2_shoesHeard_22 (by decide) (fun cq => ?_) (fun cq => ?_)
    · have hw := hw.1 (bI_f cq)
      obtain ⟨x2, ex2⟩ : ∃ y : Int32, y = v3 + 1 := ⟨_, rfl⟩
      have hw := hw x2 ex2
      refine lv_iinc (v := x2) (lv' := [(3, .int x2), (0, .ref (ad bs o)), (1, .int a1), (2, .int v2)]) hx hb dX2_shoesHeard_36 hl (k := 3) rfl (by rw [ex2]; rfl) (by decide) rfl (fun ls hl => ?_)
      refine lv_goto (tgt := 4) hx hb dX2_shoesHeard_39 (by decide) ?_
      exact hw H locs ls  hM hS (lv_sub hl [1, 2, 3, 0] rfl)
    · have hw := hw.2 (bI_t cq)
      refine lv_iload_n hx hb dX2_shoesHeard_25 rfl (lv_at hl 2 rfl) ?_
      refine lv_iconst (v := 1) hx hb dX2_shoesHeard_26 (by decide) ?_
      refine lv_aload_n hx hb dX2_shoesHeard_27 rfl (lv_at hl 0 rfl) ?_
      refine m_getr E hM fs_X2_21 ho.1.1 (isO_at ho.1 3 rfl).1 dX2_shoesHeard_28 ?_
      refine lv_iload_n hx hb dX2_shoesHeard_31 rfl (lv_at hl 3 rfl) ?_
      obtain ⟨hv, hw⟩ := hw
      refine m_iald E hM (isO_at ho.1 3 rfl).2 hv dX2_shoesHeard_32 ?_
      refine lv_ishl hx hb dX2_shoesHeard_33 ?_
      refine lv_ior hx hb dX2_shoesHeard_34 ?_
      refine lv_topi (fun x3 ex3 => ?_)
      have hw := hw x3 ex3
      refine lv_istore_n (lv' := [(2, .int x3), (0, .ref (ad bs o)), (1, .int a1), (3, .int v3)]) hx hb dX2_shoesHeard_35 rfl hl (by decide) rfl (fun ls hl => ?_)
      obtain ⟨x4, ex4⟩ : ∃ y : Int32, y = v3 + 1 := ⟨_, rfl⟩
      have hw := hw x4 ex4
      refine lv_iinc (v := x4) (lv' := [(3, .int x4), (2, .int x3), (0, .ref (ad bs o)), (1, .int a1)]) hx hb dX2_shoesHeard_36 hl (k := 3) rfl (by rw [ex4]; rfl) (by decide) rfl (fun ls hl => ?_)
      refine lv_goto (tgt := 4) hx hb dX2_shoesHeard_39 (by decide) ?_
      exact hw H locs ls  hM hS (lv_sub hl [2, 3, 1, 0] rfl)
def w_X2_shoesHeard_42 (I : mI) (o : Nat) (oh : Nat) (a1 : Int32) (post : Int32 → Prop) (v2 : Int32) : Prop := w_J6_bitCount_0f7a4 v2 (fun r5 => post r5)
set_option maxRecDepth 100000 in
set_option maxHeartbeats 4000000 in
theorem s_X2_shoesHeard_42 {p : Program} {l : Launch} {e : Env} {s : State} {m : MethodId} {args : Array Value} {below : List Frame} {meth : Method} {c : Code} {D : va_G} {cA : Nat → ClassId} {Z : mZ} {bs : Ad} {n : Nat} {K : mK} {R : mR} {I : mI} {L : mL} (E : Ev p s m args c cX2_shoesHeard 4 RX2 D cA Z bs) (hr : meth.sig.returnType = (some .int)) (hlk : meth.locks = false) {o : Nat} {oh : Nat} {a1 : Int32} (ho : isX2 K R o oh) {post : Int32 → Prop} {v2 : Int32} {H : Heap} {locs : List Loc} {ls : Array Slot} (hw : w_X2_shoesHeard_42 I o oh a1 post v2) (hM : mm D cA bs (n, K, R, I, L) H) (hS : va_S (Ab bs) s.heap H locs) (hl : lv_has ls 4 [(2, .int v2)]) : W p l e ({ frames := 1, cells := 0, slots := 0, locals := 21 } : Room) s m args below meth c H locs 0 0 (MQ below (QI D cA bs (fun r u => u = (n, K, R, I, L) ∧ post r)) args s 0 0 (Ab bs)) (F0 m 42 ls []) := by
  have hx := E.1.1
  have hb := E.1.2.1
  refine lv_iload_n hx hb dX2_shoesHeard_42 rfl (lv_at hl 0 rfl) ?_
  refine m_ci (m_runS E hM hS cs_X2_176 (c_J6_bitCount_0f7a4  hw) rfl rfl ⟨Nat.le_of_ble_eq_true rfl, Nat.le_of_ble_eq_true rfl⟩ rfl hl.1 rfl (Nat.le_of_ble_eq_true rfl) dX2_shoesHeard_43 ⟨Nat.le_of_ble_eq_true rfl, Nat.le_of_ble_eq_true rfl⟩) hS (fun r5 u H locs hp hM hS => ?_)
  obtain ⟨rfl, hw⟩ := hp
  exact m_reti hx hb hr hlk hM hS ⟨rfl, hw⟩ dX2_shoesHeard_46
def w_X2_shoesHeard (I : mI) (o : Nat) (oh : Nat) (a1 : Int32) (post : Int32 → Prop) : Prop := (w_X2_shoesHeard_4 I o oh a1 post (w_X2_shoesHeard_42 I o oh a1 post)) 0 0
set_option maxRecDepth 100000 in
set_option maxHeartbeats 4000000 in
theorem c_X2_shoesHeard {l : Launch} {D : va_G} {cA : Nat → ClassId} {Z : mZ} {bs : Ad} {n : Nat} {K : mK} {R : mR} {I : mI} {L : mL} {o : Nat} {oh : Nat} {a1 : Int32} {post : Int32 → Prop} (ho : isX2 K R o oh) (hw : w_X2_shoesHeard I o oh a1 post) : Met l yX2_shoesHeard (.code yX2_shoesHeard cX2_shoesHeard 4 (some .int) :: gw) ({ frames := 1, cells := 0, slots := 0, locals := 21 } : Room) (PreM D cA Z bs (n, K, R, I, L) [.ref (ad bs o), .int a1]) (QI D cA bs (fun r u => u = (n, K, R, I, L) ∧ post r)) 0 0 (Ab bs) := by
  refine m_met (by decide) (Nat.le_of_ble_eq_true rfl) (fun p e s m below meth c ls E hr hlk hM hS hl => ?_)
  have E : Ev p s m _ c cX2_shoesHeard 4 RX2 D cA Z bs := E
  have hl : lv_has ls 4 [(0, .ref (ad bs o)), (1, .int a1)] := hl
  have hx := E.1.1
  have hb := E.1.2.1
  generalize hHe : s.heap = H at hM ⊢
  have hS : va_S (Ab bs) s.heap H [] := by rw [← hHe]; exact va_S.rf
  clear hHe
  refine lv_iconst (v := 0) hx hb dX2_shoesHeard_0 (by decide) ?_
  refine lv_istore_n (lv' := [(2, .int 0), (0, .ref (ad bs o)), (1, .int a1)]) hx hb dX2_shoesHeard_1 rfl hl (by decide) rfl (fun ls hl => ?_)
  refine lv_iconst (v := 0) hx hb dX2_shoesHeard_2 (by decide) ?_
  refine lv_istore_n (lv' := [(3, .int 0), (2, .int 0), (0, .ref (ad bs o)), (1, .int a1)]) hx hb dX2_shoesHeard_3 rfl hl (by decide) rfl (fun ls hl => ?_)
  exact s_X2_shoesHeard_4 E hr hlk ho (fun v2 H locs ls  hw hM hS hl => s_X2_shoesHeard_42 E hr hlk ho  hw hM hS hl)  hw hM hS (lv_sub hl [2, 3, 1, 0] rfl)
