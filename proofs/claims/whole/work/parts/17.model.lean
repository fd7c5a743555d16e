theorem dX12_isIn_0 : decode cX12_isIn 0 = .ok (.iload_n 0, 1) := by decide +kernel
theorem dX12_isIn_1 : decode cX12_isIn 1 = .ok (.iload_n 1, 1) := by decide +kernel
theorem dX12_isIn_2 : decode cX12_isIn 2 = .ok (.if_icmp .lt 12, 3) := by decide +kernel
theorem dX12_isIn_5 : decode cX12_isIn 5 = .ok (.iload_n 0, 1) := by decide +kernel
theorem dX12_isIn_6 : decode cX12_isIn 6 = .ok (.iload_n 2, 1) := by decide +kernel
theorem dX12_isIn_7 : decode cX12_isIn 7 = .ok (.if_icmp .gt 7, 3) := by decide +kernel
theorem dX12_isIn_10 : decode cX12_isIn 10 = .ok (.iconst 1, 1) := by decide +kernel
theorem dX12_isIn_11 : decode cX12_isIn 11 = .ok (.goto 4, 3) := by decide +kernel
theorem dX12_isIn_14 : decode cX12_isIn 14 = .ok (.iconst 0, 1) := by decide +kernel
theorem dX12_isIn_15 : decode cX12_isIn 15 = .ok (.ireturn, 1) := by decide +kernel
def w_X12_isIn (a1 : Int32) (a2 : Int32) (a3 : Int32) (post : Bool → Prop) : Prop := (a1 < a2 → post false) ∧ (¬ a1 < a2 → (a3 < a1 → post false) ∧ (¬ a3 < a1 → post true))
set_option maxRecDepth 100000 in
set_option maxHeartbeats 4000000 in
theorem c_X12_isIn {l : Launch} {D : va_G} {cA : Nat → ClassId} {Z : mZ} {bs : Ad} {n : Nat} {K : mK} {R : mR} {I : mI} {L : mL} {a1 : Int32} {a2 : Int32} {a3 : Int32} {post : Bool → Prop}  (hw : w_X12_isIn a1 a2 a3 post) : Met l yX12_isIn (.code yX12_isIn cX12_isIn 3 (some .boolean) :: gw) ({ frames := 0, cells := 0, slots := 0, locals := 0 } : Room) (PreM D cA Z bs (n, K, R, I, L) [.int a1, .int a2, .int a3]) (QI D cA bs (fun r u => ∃ b, r = bI b ∧ u = (n, K, R, I, L) ∧ post b)) 0 0 (Ab bs) := by
  refine m_met (by decide) (Nat.le_of_ble_eq_true rfl) (fun p e s m below meth c ls E hr hlk hM hS hl => ?_)
  have E : Ev p s m _ c cX12_isIn 3 RX12 D cA Z bs := E
  have hl : lv_has ls 3 [(0, .int a1), (1, .int a2), (2, .int a3)] := hl
  have hx := E.1.1
  have hb := E.1.2.1
  generalize hHe : s.heap = H at hM ⊢
  have hS : va_S (Ab bs) s.heap H [] := by rw [← hHe]; exact va_S.rf
  clear hHe
  refine lv_iload_n hx hb dX12_isIn_0 rfl (lv_at hl 0 rfl) ?_
  refine lv_iload_n hx hb dX12_isIn_1 rfl (lv_at hl 1 rfl) ?_
  refine lv_icmp_lt (tgt := 14) hx hb dX12_isIn_2 (by decide) (fun cq => ?_) (fun cq => ?_)
  · have hw := hw.1 cq
    refine lv_iconst (v := 0) hx hb dX12_isIn_14 (by decide) ?_
    exact m_retz hx hb hr hlk (Or.inl rfl) hM hS ⟨false, rfl, rfl, hw⟩ dX12_isIn_15
  · have hw := hw.2 cq
    refine lv_iload_n hx hb dX12_isIn_5 rfl (lv_at hl 0 rfl) ?_
    refine lv_iload_n hx hb dX12_isIn_6 rfl (lv_at hl 2 rfl) ?_
    refine lv_icmp_gt (tgt := 14) hx hb dX12_isIn_7 (by decide) (fun cq => ?_) (fun cq => ?_)
    · have hw := hw.1 cq
      refine lv_iconst (v := 0) hx hb dX12_isIn_14 (by decide) ?_
      exact m_retz hx hb hr hlk (Or.inl rfl) hM hS ⟨false, rfl, rfl, hw⟩ dX12_isIn_15
    · have hw := hw.2 cq
      refine lv_iconst (v := 1) hx hb dX12_isIn_10 (by decide) ?_
      refine lv_goto (tgt := 15) hx hb dX12_isIn_11 (by decide) ?_
      exact m_retz hx hb hr hlk (Or.inr rfl) hM hS ⟨true, rfl, rfl, hw⟩ dX12_isIn_15
theorem dX12_feed_0 : decode cX12_feed 0 = .ok (.aload_n 0, 1) := by decide +kernel
theorem dX12_feed_1 : decode cX12_feed 1 = .ok (.getfield 7, 3) := by decide +kernel
theorem dX12_feed_4 : decode cX12_feed 4 = .ok (.iconst 2, 1) := by decide +kernel
theorem dX12_feed_5 : decode cX12_feed 5 = .ok (.iaload, 1) := by decide +kernel
theorem dX12_feed_6 : decode cX12_feed 6 = .ok (.bipush 20, 2) := by decide +kernel
theorem dX12_feed_8 : decode cX12_feed 8 = .ok (.iadd, 1) := by decide +kernel
theorem dX12_feed_9 : decode cX12_feed 9 = .ok (.sipush 600, 3) := by decide +kernel
theorem dX12_feed_12 : decode cX12_feed 12 = .ok (.if_icmp .le 5, 3) := by decide +kernel
theorem dX12_feed_15 : decode cX12_feed 15 = .ok (.iconst (-1), 1) := by decide +kernel
theorem dX12_feed_16 : decode cX12_feed 16 = .ok (.ireturn, 1) := by decide +kernel
theorem dX12_feed_17 : decode cX12_feed 17 = .ok (.iconst 0, 1) := by decide +kernel
theorem dX12_feed_18 : decode cX12_feed 18 = .ok (.istore 6, 2) := by decide +kernel
theorem dX12_feed_20 : decode cX12_feed 20 = .ok (.iload 6, 2) := by decide +kernel
theorem dX12_feed_22 : decode cX12_feed 22 = .ok (.bipush 20, 2) := by decide +kernel
theorem dX12_feed_24 : decode cX12_feed 24 = .ok (.if_icmp .ge 98, 3) := by decide +kernel
theorem dX12_feed_27 : decode cX12_feed 27 = .ok (.iload 6, 2) := by decide +kernel
theorem dX12_feed_29 : decode cX12_feed 29 = .ok (.iconst 4, 1) := by decide +kernel
theorem dX12_feed_30 : decode cX12_feed 30 = .ok (.if_icmp .ge 7, 3) := by decide +kernel
theorem dX12_feed_33 : decode cX12_feed 33 = .ok (.iload_n 1, 1) := by decide +kernel
theorem dX12_feed_34 : decode cX12_feed 34 = .ok (.goto 39, 3) := by decide +kernel
theorem dX12_feed_37 : decode cX12_feed 37 = .ok (.iload 6, 2) := by decide +kernel
theorem dX12_feed_39 : decode cX12_feed 39 = .ok (.bipush 8, 2) := by decide +kernel
theorem dX12_feed_41 : decode cX12_feed 41 = .ok (.if_icmp .ge 7, 3) := by decide +kernel
theorem dX12_feed_44 : decode cX12_feed 44 = .ok (.iload_n 2, 1) := by decide +kernel
theorem dX12_feed_45 : decode cX12_feed 45 = .ok (.goto 28, 3) := by decide +kernel
theorem dX12_feed_48 : decode cX12_feed 48 = .ok (.iload 6, 2) := by decide +kernel
theorem dX12_feed_50 : decode cX12_feed 50 = .ok (.bipush 12, 2) := by decide +kernel
theorem dX12_feed_52 : decode cX12_feed 52 = .ok (.if_icmp .ge 7, 3) := by decide +kernel
theorem dX12_feed_55 : decode cX12_feed 55 = .ok (.iload_n 3, 1) := by decide +kernel
theorem dX12_feed_56 : decode cX12_feed 56 = .ok (.goto 17, 3) := by decide +kernel
theorem dX12_feed_59 : decode cX12_feed 59 = .ok (.iload 6, 2) := by decide +kernel
theorem dX12_feed_61 : decode cX12_feed 61 = .ok (.bipush 16, 2) := by decide +kernel
theorem dX12_feed_63 : decode cX12_feed 63 = .ok (.if_icmp .ge 8, 3) := by decide +kernel
theorem dX12_feed_66 : decode cX12_feed 66 = .ok (.iload 4, 2) := by decide +kernel
theorem dX12_feed_68 : decode cX12_feed 68 = .ok (.goto 5, 3) := by decide +kernel
theorem dX12_feed_71 : decode cX12_feed 71 = .ok (.iload 5, 2) := by decide +kernel
theorem dX12_feed_73 : decode cX12_feed 73 = .ok (.istore 7, 2) := by decide +kernel
theorem dX12_feed_75 : decode cX12_feed 75 = .ok (.aload_n 0, 1) := by decide +kernel
theorem dX12_feed_76 : decode cX12_feed 76 = .ok (.getfield 7, 3) := by decide +kernel
theorem dX12_feed_79 : decode cX12_feed 79 = .ok (.bipush 10, 2) := by decide +kernel
theorem dX12_feed_81 : decode cX12_feed 81 = .ok (.aload_n 0, 1) := by decide +kernel
theorem dX12_feed_82 : decode cX12_feed 82 = .ok (.getfield 7, 3) := by decide +kernel
theorem dX12_feed_85 : decode cX12_feed 85 = .ok (.iconst 2, 1) := by decide +kernel
theorem dX12_feed_86 : decode cX12_feed 86 = .ok (.iaload, 1) := by decide +kernel
theorem dX12_feed_87 : decode cX12_feed 87 = .ok (.iadd, 1) := by decide +kernel
theorem dX12_feed_88 : decode cX12_feed 88 = .ok (.iload 7, 2) := by decide +kernel
theorem dX12_feed_90 : decode cX12_feed 90 = .ok (.bipush 24, 2) := by decide +kernel
theorem dX12_feed_92 : decode cX12_feed 92 = .ok (.bipush 8, 2) := by decide +kernel
theorem dX12_feed_94 : decode cX12_feed 94 = .ok (.iload 6, 2) := by decide +kernel
theorem dX12_feed_96 : decode cX12_feed 96 = .ok (.iconst 4, 1) := by decide +kernel
theorem dX12_feed_97 : decode cX12_feed 97 = .ok (.irem, 1) := by decide +kernel
theorem dX12_feed_98 : decode cX12_feed 98 = .ok (.imul, 1) := by decide +kernel
theorem dX12_feed_99 : decode cX12_feed 99 = .ok (.isub, 1) := by decide +kernel
theorem dX12_feed_100 : decode cX12_feed 100 = .ok (.ishr, 1) := by decide +kernel
theorem dX12_feed_101 : decode cX12_feed 101 = .ok (.sipush 255, 3) := by decide +kernel
theorem dX12_feed_104 : decode cX12_feed 104 = .ok (.iand, 1) := by decide +kernel
theorem dX12_feed_105 : decode cX12_feed 105 = .ok (.iastore, 1) := by decide +kernel
theorem dX12_feed_106 : decode cX12_feed 106 = .ok (.aload_n 0, 1) := by decide +kernel
theorem dX12_feed_107 : decode cX12_feed 107 = .ok (.getfield 7, 3) := by decide +kernel
theorem dX12_feed_110 : decode cX12_feed 110 = .ok (.iconst 2, 1) := by decide +kernel
theorem dX12_feed_111 : decode cX12_feed 111 = .ok (.dup2, 1) := by decide +kernel
theorem dX12_feed_112 : decode cX12_feed 112 = .ok (.iaload, 1) := by decide +kernel
theorem dX12_feed_113 : decode cX12_feed 113 = .ok (.iconst 1, 1) := by decide +kernel
theorem dX12_feed_114 : decode cX12_feed 114 = .ok (.iadd, 1) := by decide +kernel
theorem dX12_feed_115 : decode cX12_feed 115 = .ok (.iastore, 1) := by decide +kernel
theorem dX12_feed_116 : decode cX12_feed 116 = .ok (.iinc 6 1, 3) := by decide +kernel
theorem dX12_feed_119 : decode cX12_feed 119 = .ok (.goto (-99), 3) := by decide +kernel
theorem dX12_feed_122 : decode cX12_feed 122 = .ok (.aload_n 0, 1) := by decide +kernel
theorem dX12_feed_123 : decode cX12_feed 123 = .ok (.getfield 7, 3) := by decide +kernel
theorem dX12_feed_126 : decode cX12_feed 126 = .ok (.iconst 2, 1) := by decide +kernel
theorem dX12_feed_127 : decode cX12_feed 127 = .ok (.iaload, 1) := by decide +kernel
theorem dX12_feed_128 : decode cX12_feed 128 = .ok (.ireturn, 1) := by decide +kernel
def w_X12_feed_73 (o : Nat) (a1 : Int32) (a2 : Int32) (a3 : Int32) (a4 : Int32) (a5 : Int32) (post : Int32 → mI → Prop) (k20 : mI → Int32 → Prop) (I : mI) (v6 : Int32) (s0 : Int32) : Prop := vp_in (10 + (I (o + 1) (2 : Int32).toNatClampNeg)) 3960 ∧ ∀ I1, I1 = up2 I (o + 1) ((10 + (I (o + 1) (2 : Int32).toNatClampNeg)).toNatClampNeg) ((s0 >>> ((24 - (8 * (irem v6 4))) &&& 31)) &&& 255) → ∀ I2, I2 = up2 I1 (o + 1) ((2 : Int32).toNatClampNeg) ((I1 (o + 1) (2 : Int32).toNatClampNeg) + 1) → ∀ x3, x3 = v6 + 1 → k20 I2 x3
set_option maxRecDepth 100000 in
set_option maxHeartbeats 4000000 in
theorem s_X12_feed_73 {p : Program} {l : Launch} {e : Env} {s : State} {m : MethodId} {args : Array Value} {below : List Frame} {meth : Method} {c : Code} {D : va_G} {cA : Nat → ClassId} {Z : mZ} {bs : Ad} {n : Nat} {K : mK} {R : mR} {L : mL} (E : Ev p s m args c cX12_feed 8 RX12 D cA Z bs) (hr : meth.sig.returnType = (some .int)) (hlk : meth.locks = false) {o : Nat} {a1 : Int32} {a2 : Int32} {a3 : Int32} {a4 : Int32} {a5 : Int32} (ho : isX12 K R o) {post : Int32 → mI → Prop} {k20 : mI → Int32 → Prop} (hk20 : ∀ (I : mI) (v6 : Int32) (H : Heap) (locs : List Loc) (ls : Array Slot), k20 I v6 → mm D cA bs (n, K, R, I, L) H → va_S (Ab bs) s.heap H locs → lv_has ls 8 [(0, .ref (ad bs o)), (1, .int a1), (2, .int a2), (3, .int a3), (4, .int a4), (5, .int a5), (6, .int v6)] → W p l e ({ frames := 0, cells := 0, slots := 0, locals := 0 } : Room) s m args below meth c H locs 0 0 (MQ below (QI D cA bs (fun r u => ∃ I', u = (n, K, R, I', L) ∧ post r I')) args s 0 0 (Ab bs)) (F0 m 20 ls [])) {I : mI} {v6 : Int32} {s0 : Int32} {H : Heap} {locs : List Loc} {ls : Array Slot} (hw : w_X12_feed_73 o a1 a2 a3 a4 a5 post k20 I v6 s0) (hM : mm D cA bs (n, K, R, I, L) H) (hS : va_S (Ab bs) s.heap H locs) (hl : lv_has ls 8 [(0, .ref (ad bs o)), (1, .int a1), (2, .int a2), (3, .int a3), (4, .int a4), (5, .int a5), (6, .int v6)]) : W p l e ({ frames := 0, cells := 0, slots := 0, locals := 0 } : Room) s m args below meth c H locs 0 0 (MQ below (QI D cA bs (fun r u => ∃ I', u = (n, K, R, I', L) ∧ post r I')) args s 0 0 (Ab bs)) (F0 m 73 ls [.int s0]) := by
  have hx := E.1.1
  have hb := E.1.2.1
  refine lv_istore (lv' := [(7, .int s0), (0, .ref (ad bs o)), (1, .int a1), (2, .int a2), (3, .int a3), (4, .int a4), (5, .int a5), (6, .int v6)]) hx hb dX12_feed_73 hl (by decide) rfl (fun ls hl => ?_)
  refine lv_aload_n hx hb dX12_feed_75 rfl (lv_at hl 1 rfl) ?_
  refine m_getr E hM fs_X12_7 ho.1 (isO_at ho 0 rfl).1 dX12_feed_76 ?_
  refine lv_bipush (v := 10) hx hb dX12_feed_79 (by decide) ?_
  refine lv_aload_n hx hb dX12_feed_81 rfl (lv_at hl 1 rfl) ?_
  refine m_getr E hM fs_X12_7 ho.1 (isO_at ho 0 rfl).1 dX12_feed_82 ?_
  refine lv_iconst (v := 2) hx hb dX12_feed_85 (by decide) ?_
  refine m_iald E hM (isO_at ho 0 rfl).2 (by unfold vp_in; decide) dX12_feed_86 ?_
  refine lv_iadd hx hb dX12_feed_87 ?_
  refine lv_iload hx hb dX12_feed_88 (lv_at hl 0 rfl) ?_
  refine lv_bipush (v := 24) hx hb dX12_feed_90 (by decide) ?_
  refine lv_bipush (v := 8) hx hb dX12_feed_92 (by decide) ?_
  refine lv_iload hx hb dX12_feed_94 (lv_at hl 7 rfl) ?_
  refine lv_iconst (v := 4) hx hb dX12_feed_96 (by decide) ?_
  refine lv_irem hx hb dX12_feed_97 (by decide) ?_
  refine lv_imul hx hb dX12_feed_98 ?_
  refine lv_isub hx hb dX12_feed_99 ?_
  refine lv_ishr hx hb dX12_feed_100 ?_
  refine lv_sipush (v := 255) hx hb dX12_feed_101 (by decide) ?_
  refine lv_iand hx hb dX12_feed_104 ?_
  obtain ⟨hv, hw⟩ := hw
  refine m_iast E hM hS (isO_at ho 0 rfl).2 hv dX12_feed_105 (fun I1 H locs eI1 hM hS => ?_)
  have hw := hw I1 eI1
  refine lv_aload_n hx hb dX12_feed_106 rfl (lv_at hl 1 rfl) ?_
  refine m_getr E hM fs_X12_7 ho.1 (isO_at ho 0 rfl).1 dX12_feed_107 ?_
  refine lv_iconst (v := 2) hx hb dX12_feed_110 (by decide) ?_
  refine lv_dup2_11 hx hb dX12_feed_111 rfl rfl ?_
  refine m_iald E hM (isO_at ho 0 rfl).2 (by unfold vp_in; decide) dX12_feed_112 ?_
  refine lv_iconst (v := 1) hx hb dX12_feed_113 (by decide) ?_
  refine lv_iadd hx hb dX12_feed_114 ?_
  refine m_iast E hM hS (isO_at ho 0 rfl).2 (by unfold vp_in; decide) dX12_feed_115 (fun I2 H locs eI2 hM hS => ?_)
  have hw := hw I2 eI2
  obtain ⟨x3, ex3⟩ : ∃ y : Int32, y = v6 + 1 := ⟨_, rfl⟩
  have hw := hw x3 ex3
  refine lv_iinc (v := x3) (lv' := [(6, .int x3), (7, .int s0), (0, .ref (ad bs o)), (1, .int a1), (2, .int a2), (3, .int a3), (4, .int a4), (5, .int a5)]) hx hb dX12_feed_116 hl (k := 7) rfl (by rw [ex3]; rfl) (by decide) rfl (fun ls hl => ?_)
  refine lv_goto (tgt := 20) hx hb dX12_feed_119 (by decide) ?_
  exact hk20 _ _ H locs ls  hw hM hS (lv_sub hl [2, 3, 4, 5, 6, 7, 0] rfl)
def w_X12_feed_20 (o : Nat) (a1 : Int32) (a2 : Int32) (a3 : Int32) (a4 : Int32) (a5 : Int32) (post : Int32 → mI → Prop) (I : mI) (v6 : Int32) : Prop := ∀ ZZ : (mI → Int32 → Prop), (∀ (I : mI) (v6 : Int32), ((20 ≤ v6 → post (I (o + 1) (2 : Int32).toNatClampNeg) I) ∧ (¬ 20 ≤ v6 → (4 ≤ v6 → (8 ≤ v6 → (12 ≤ v6 → (16 ≤ v6 → (w_X12_feed_73 o a1 a2 a3 a4 a5 post ZZ) I v6 a5) ∧ (¬ 16 ≤ v6 → (w_X12_feed_73 o a1 a2 a3 a4 a5 post ZZ) I v6 a4)) ∧ (¬ 12 ≤ v6 → (w_X12_feed_73 o a1 a2 a3 a4 a5 post ZZ) I v6 a3)) ∧ (¬ 8 ≤ v6 → (w_X12_feed_73 o a1 a2 a3 a4 a5 post ZZ) I v6 a2)) ∧ (¬ 4 ≤ v6 → (w_X12_feed_73 o a1 a2 a3 a4 a5 post ZZ) I v6 a1))) → ZZ I v6) → ZZ I v6
set_option maxRecDepth 100000 in
set_option maxHeartbeats 4000000 in
theorem s_X12_feed_20 {p : Program} {l : Launch} {e : Env} {s : State} {m : MethodId} {args : Array Value} {below : List Frame} {meth : Method} {c : Code} {D : va_G} {cA : Nat → ClassId} {Z : mZ} {bs : Ad} {n : Nat} {K : mK} {R : mR} {L : mL} (E : Ev p s m args c cX12_feed 8 RX12 D cA Z bs) (hr : meth.sig.returnType = (some .int)) (hlk : meth.locks = false) {o : Nat} {a1 : Int32} {a2 : Int32} {a3 : Int32} {a4 : Int32} {a5 : Int32} (ho : isX12 K R o) {post : Int32 → mI → Prop} {I : mI} {v6 : Int32} {H : Heap} {locs : List Loc} {ls : Array Slot} (hw : w_X12_feed_20 o a1 a2 a3 a4 a5 post I v6) (hM : mm D cA bs (n, K, R, I, L) H) (hS : va_S (Ab bs) s.heap H locs) (hl : lv_has ls 8 [(0, .ref (ad bs o)), (1, .int a1), (2, .int a2), (3, .int a3), (4, .int a4), (5, .int a5), (6, .int v6)]) : W p l e ({ frames := 0, cells := 0, slots := 0, locals := 0 } : Room) s m args below meth c H locs 0 0 (MQ below (QI D cA bs (fun r u => ∃ I', u = (n, K, R, I', L) ∧ post r I')) args s 0 0 (Ab bs)) (F0 m 20 ls []) := by
  have hx := E.1.1
  have hb := E.1.2.1
  refine hw (fun I v6 => ∀ (H : Heap) (locs : List Loc) (ls : Array Slot), mm D cA bs (n, K, R, I, L) H → va_S (Ab bs) s.heap H locs → lv_has ls 8 [(0, .ref (ad bs o)), (1, .int a1), (2, .int a2), (3, .int a3), (4, .int a4), (5, .int a5), (6, .int v6)] → W p l e ({ frames := 0, cells := 0, slots := 0, locals := 0 } : Room) s m args below meth c H locs 0 0 (MQ below (QI D cA bs (fun r u => ∃ I', u = (n, K, R, I', L) ∧ post r I')) args s 0 0 (Ab bs)) (F0 m 20 ls [])) ?_ H locs ls hM hS hl
  clear hw hM hS hl
  intro I v6 hw H locs ls hM hS hl
  refine lv_iload hx hb dX12_feed_20 (lv_at hl 6 rfl) ?_
  refine lv_bipush (v := 20) hx hb dX12_feed_22 (by decide) ?_
  refine lv_icmp_ge (tgt := 122) hx hb dX12_feed_24 (by decide) (fun cq => ?_) (fun cq => ?_)
  · have hw := hw.1 cq
    refine lv_aload_n hx hb dX12_feed_122 rfl (lv_at hl 0 rfl) ?_
    refine m_getr E hM fs_X12_7 ho.1 (isO_at ho 0 rfl).1 dX12_feed_123 ?_
    refine lv_iconst (v := 2) hx hb dX12_feed_126 (by decide) ?_
    refine m_iald E hM (isO_at ho 0 rfl).2 (by unfold vp_in; decide) dX12_feed_127 ?_
    exact m_reti hx hb hr hlk hM hS ⟨_, rfl, hw⟩ dX12_feed_128
  · have hw := hw.2 cq
    refine lv_iload hx hb dX12_feed_27 (lv_at hl 6 rfl) ?_
    refine lv_iconst (v := 4) hx hb dX12_feed_29 (by decide) ?_
    refine lv_icmp_ge (tgt := 37) hx hb dX12_feed_30 (by decide) (fun cq => ?_) (fun cq => ?_)
    · have hw := hw.1 cq
      refine lv_iload hx hb dX12_feed_37 (lv_at hl 6 rfl) ?_
      refine lv_bipush (v := 8) hx hb dX12_feed_39 (by decide) ?_
      refine lv_icmp_ge (tgt := 48) hx hb dX12_feed_41 (by decide) (fun cq => ?_) (fun cq => ?_)
      · have hw := hw.1 cq
        refine lv_iload hx hb dX12_feed_48 (lv_at hl 6 rfl) ?_
        refine lv_bipush (v := 12) hx hb dX12_feed_50 (by decide) ?_
        refine lv_icmp_ge (tgt := 59) hx hb dX12_feed_52 (by decide) (fun cq => ?_) (fun cq => ?_)
        · have hw := hw.1 cq
          refine lv_iload hx hb dX12_feed_59 (lv_at hl 6 rfl) ?_
          refine lv_bipush (v := 16) hx hb dX12_feed_61 (by decide) ?_
          refine lv_icmp_ge (tgt := 71) hx hb dX12_feed_63 (by decide) (fun cq => ?_) (fun cq => ?_)
          · have hw := hw.1 cq
            refine lv_iload hx hb dX12_feed_71 (lv_at hl 5 rfl) ?_
            exact s_X12_feed_73 E hr hlk ho (fun I v6 H locs ls  hw hM hS hl => hw H locs ls  hM hS hl)  hw hM hS (lv_sub hl [0, 1, 2, 3, 4, 5, 6] rfl)
          · have hw := hw.2 cq
            refine lv_iload hx hb dX12_feed_66 (lv_at hl 4 rfl) ?_
            refine lv_goto (tgt := 73) hx hb dX12_feed_68 (by decide) ?_
            exact s_X12_feed_73 E hr hlk ho (fun I v6 H locs ls  hw hM hS hl => hw H locs ls  hM hS hl)  hw hM hS (lv_sub hl [0, 1, 2, 3, 4, 5, 6] rfl)
        · have hw := hw.2 cq
          refine lv_iload_n hx hb dX12_feed_55 rfl (lv_at hl 3 rfl) ?_
          refine lv_goto (tgt := 73) hx hb dX12_feed_56 (by decide) ?_
          exact s_X12_feed_73 E hr hlk ho (fun I v6 H locs ls  hw hM hS hl => hw H locs ls  hM hS hl)  hw hM hS (lv_sub hl [0, 1, 2, 3, 4, 5, 6] rfl)
      · have hw := hw.2 cq
        refine lv_iload_n hx hb dX12_feed_44 rfl (lv_at hl 2 rfl) ?_
        refine lv_goto (tgt := 73) hx hb dX12_feed_45 (by decide) ?_
        exact s_X12_feed_73 E hr hlk ho (fun I v6 H locs ls  hw hM hS hl => hw H locs ls  hM hS hl)  hw hM hS (lv_sub hl [0, 1, 2, 3, 4, 5, 6] rfl)
    · have hw := hw.2 cq
      refine lv_iload_n hx hb dX12_feed_33 rfl (lv_at hl 1 rfl) ?_
      refine lv_goto (tgt := 73) hx hb dX12_feed_34 (by decide) ?_
      exact s_X12_feed_73 E hr hlk ho (fun I v6 H locs ls  hw hM hS hl => hw H locs ls  hM hS hl)  hw hM hS (lv_sub hl [0, 1, 2, 3, 4, 5, 6] rfl)
def w_X12_feed (I : mI) (o : Nat) (a1 : Int32) (a2 : Int32) (a3 : Int32) (a4 : Int32) (a5 : Int32) (post : Int32 → mI → Prop) : Prop := (((I (o + 1) (2 : Int32).toNatClampNeg) + 20) ≤ 600 → (w_X12_feed_20 o a1 a2 a3 a4 a5 post) I 0) ∧ (¬ ((I (o + 1) (2 : Int32).toNatClampNeg) + 20) ≤ 600 → post (-1) I)
set_option maxRecDepth 100000 in
set_option maxHeartbeats 4000000 in
theorem c_X12_feed {l : Launch} {D : va_G} {cA : Nat → ClassId} {Z : mZ} {bs : Ad} {n : Nat} {K : mK} {R : mR} {I : mI} {L : mL} {o : Nat} {a1 : Int32} {a2 : Int32} {a3 : Int32} {a4 : Int32} {a5 : Int32} {post : Int32 → mI → Prop} (ho : isX12 K R o) (hw : w_X12_feed I o a1 a2 a3 a4 a5 post) : Met l yX12_feed (.code yX12_feed cX12_feed 8 (some .int) :: gw) ({ frames := 0, cells := 0, slots := 0, locals := 0 } : Room) (PreM D cA Z bs (n, K, R, I, L) [.ref (ad bs o), .int a1, .int a2, .int a3, .int a4, .int a5]) (QI D cA bs (fun r u => ∃ I', u = (n, K, R, I', L) ∧ post r I')) 0 0 (Ab bs) := by
  refine m_met (by decide) (Nat.le_of_ble_eq_true rfl) (fun p e s m below meth c ls E hr hlk hM hS hl => ?_)
  have E : Ev p s m _ c cX12_feed 8 RX12 D cA Z bs := E
  have hl : lv_has ls 8 [(0, .ref (ad bs o)), (1, .int a1), (2, .int a2), (3, .int a3), (4, .int a4), (5, .int a5)] := hl
  have hx := E.1.1
  have hb := E.1.2.1
  generalize hHe : s.heap = H at hM ⊢
  have hS : va_S (Ab bs) s.heap H [] := by rw [← hHe]; exact va_S.rf
  clear hHe
  refine lv_aload_n hx hb dX12_feed_0 rfl (lv_at hl 0 rfl) ?_
  refine m_getr E hM fs_X12_7 ho.1 (isO_at ho 0 rfl).1 dX12_feed_1 ?_
  refine lv_iconst (v := 2) hx hb dX12_feed_4 (by decide) ?_
  refine m_iald E hM (isO_at ho 0 rfl).2 (by unfold vp_in; decide) dX12_feed_5 ?_
  refine lv_bipush (v := 20) hx hb dX12_feed_6 (by decide) ?_
  refine lv_iadd hx hb dX12_feed_8 ?_
  refine lv_sipush (v := 600) hx hb dX12_feed_9 (by decide) ?_
  refine lv_icmp_le (tgt := 17) hx hb dX12_feed_12 (by decide) (fun cq => ?_) (fun cq => ?_)
  · have hw := hw.1 cq
    refine lv_iconst (v := 0) hx hb dX12_feed_17 (by decide) ?_
    refine lv_istore (lv' := [(6, .int 0), (0, .ref (ad bs o)), (1, .int a1), (2, .int a2), (3, .int a3), (4, .int a4), (5, .int a5)]) hx hb dX12_feed_18 hl (by decide) rfl (fun ls hl => ?_)
    exact s_X12_feed_20 E hr hlk ho  hw hM hS (lv_sub hl [1, 2, 3, 4, 5, 6, 0] rfl)
  · have hw := hw.2 cq
    refine lv_iconst (v := (-1)) hx hb dX12_feed_15 (by decide) ?_
    exact m_reti hx hb hr hlk hM hS ⟨_, rfl, hw⟩ dX12_feed_16
theorem dX12_end_0 : decode cX12_end 0 = .ok (.iload_n 1, 1) := by decide +kernel
theorem dX12_end_1 : decode cX12_end 1 = .ok (.ifCond .lt 13, 3) := by decide +kernel
theorem dX12_end_4 : decode cX12_end 4 = .ok (.iload_n 1, 1) := by decide +kernel
theorem dX12_end_5 : decode cX12_end 5 = .ok (.aload_n 0, 1) := by decide +kernel
theorem dX12_end_6 : decode cX12_end 6 = .ok (.getfield 7, 3) := by decide +kernel
theorem dX12_end_9 : decode cX12_end 9 = .ok (.iconst 2, 1) := by decide +kernel
theorem dX12_end_10 : decode cX12_end 10 = .ok (.iaload, 1) := by decide +kernel
theorem dX12_end_11 : decode cX12_end 11 = .ok (.if_icmp .le 5, 3) := by decide +kernel
theorem dX12_end_14 : decode cX12_end 14 = .ok (.iconst (-1), 1) := by decide +kernel
theorem dX12_end_15 : decode cX12_end 15 = .ok (.ireturn, 1) := by decide +kernel
theorem dX12_end_16 : decode cX12_end 16 = .ok (.aload_n 0, 1) := by decide +kernel
theorem dX12_end_17 : decode cX12_end 17 = .ok (.getfield 7, 3) := by decide +kernel
theorem dX12_end_20 : decode cX12_end 20 = .ok (.iconst 2, 1) := by decide +kernel
theorem dX12_end_21 : decode cX12_end 21 = .ok (.iload_n 1, 1) := by decide +kernel
theorem dX12_end_22 : decode cX12_end 22 = .ok (.iastore, 1) := by decide +kernel
theorem dX12_end_23 : decode cX12_end 23 = .ok (.iload_n 1, 1) := by decide +kernel
theorem dX12_end_24 : decode cX12_end 24 = .ok (.ireturn, 1) := by decide +kernel
def w_X12_end (I : mI) (o : Nat) (a1 : Int32) (post : Int32 → mI → Prop) : Prop := (a1 < 0 → post (-1) I) ∧ (¬ a1 < 0 → (a1 ≤ (I (o + 1) (2 : Int32).toNatClampNeg) → ∀ I1, I1 = up2 I (o + 1) ((2 : Int32).toNatClampNeg) a1 → post a1 I1) ∧ (¬ a1 ≤ (I (o + 1) (2 : Int32).toNatClampNeg) → post (-1) I))
set_option maxRecDepth 100000 in
set_option maxHeartbeats 4000000 in
theorem c_X12_end {l : Launch} {D : va_G} {cA : Nat → ClassId} {Z : mZ} {bs : Ad} {n : Nat} {K : mK} {R : mR} {I : mI} {L : mL} {o : Nat} {a1 : Int32} {post : Int32 → mI → Prop} (ho : isX12 K R o) (hw : w_X12_end I o a1 post) : Met l yX12_end (.code yX12_end cX12_end 2 (some .int) :: gw) ({ frames := 0, cells := 0, slots := 0, locals := 0 } : Room) (PreM D cA Z bs (n, K, R, I, L) [.ref (ad bs o), .int a1]) (QI D cA bs (fun r u => ∃ I', u = (n, K, R, I', L) ∧ post r I')) 0 0 (Ab bs) := by
  refine m_met (by decide) (Nat.le_of_ble_eq_true rfl) (fun p e s m below meth c ls E hr hlk hM hS hl => ?_)
  have E : Ev p s m _ c cX12_end 2 RX12 D cA Z bs := E
  have hl : lv_has ls 2 [(0, .ref (ad bs o)), (1, .int a1)] := hl
  have hx := E.1.1
  have hb := E.1.2.1
  generalize hHe : s.heap = H at hM ⊢
  have hS : va_S (Ab bs) s.heap H [] := by rw [← hHe]; exact va_S.rf
  clear hHe
  refine lv_iload_n hx hb dX12_end_0 rfl (lv_at hl 1 rfl) ?_
  refine lv_if_lt (tgt := 14) hx hb dX12_end_1 (by decide) (fun cq => ?_) (fun cq => ?_)
  · have hw := hw.1 cq
    refine lv_iconst (v := (-1)) hx hb dX12_end_14 (by decide) ?_
    exact m_reti hx hb hr hlk hM hS ⟨_, rfl, hw⟩ dX12_end_15
  · have hw := hw.2 cq
    refine lv_iload_n hx hb dX12_end_4 rfl (lv_at hl 1 rfl) ?_
    refine lv_aload_n hx hb dX12_end_5 rfl (lv_at hl 0 rfl) ?_
    refine m_getr E hM fs_X12_7 ho.1 (isO_at ho 0 rfl).1 dX12_end_6 ?_
    refine lv_iconst (v := 2) hx hb dX12_end_9 (by decide) ?_
    refine m_iald E hM (isO_at ho 0 rfl).2 (by unfold vp_in; decide) dX12_end_10 ?_
    refine lv_icmp_le (tgt := 16) hx hb dX12_end_11 (by decide) (fun cq => ?_) (fun cq => ?_)
    · have hw := hw.1 cq
      refine lv_aload_n hx hb dX12_end_16 rfl (lv_at hl 0 rfl) ?_
      refine m_getr E hM fs_X12_7 ho.1 (isO_at ho 0 rfl).1 dX12_end_17 ?_
      refine lv_iconst (v := 2) hx hb dX12_end_20 (by decide) ?_
      refine lv_iload_n hx hb dX12_end_21 rfl (lv_at hl 1 rfl) ?_
      refine m_iast E hM hS (isO_at ho 0 rfl).2 (by unfold vp_in; decide) dX12_end_22 (fun I1 H locs eI1 hM hS => ?_)
      have hw := hw I1 eI1
      refine lv_iload_n hx hb dX12_end_23 rfl (lv_at hl 1 rfl) ?_
      exact m_reti hx hb hr hlk hM hS ⟨_, rfl, hw⟩ dX12_end_24
    · have hw := hw.2 cq
      refine lv_iconst (v := (-1)) hx hb dX12_end_14 (by decide) ?_
      exact m_reti hx hb hr hlk hM hS ⟨_, rfl, hw⟩ dX12_end_15
theorem dX12_byteAt_0 : decode cX12_byteAt 0 = .ok (.iload_n 1, 1) := by decide +kernel
theorem dX12_byteAt_1 : decode cX12_byteAt 1 = .ok (.aload_n 0, 1) := by decide +kernel
theorem dX12_byteAt_2 : decode cX12_byteAt 2 = .ok (.getfield 78, 3) := by decide +kernel
theorem dX12_byteAt_5 : decode cX12_byteAt 5 = .ok (.if_icmp .ge 15, 3) := by decide +kernel
theorem dX12_byteAt_8 : decode cX12_byteAt 8 = .ok (.aload_n 0, 1) := by decide +kernel
theorem dX12_byteAt_9 : decode cX12_byteAt 9 = .ok (.getfield 7, 3) := by decide +kernel
theorem dX12_byteAt_12 : decode cX12_byteAt 12 = .ok (.bipush 10, 2) := by decide +kernel
theorem dX12_byteAt_14 : decode cX12_byteAt 14 = .ok (.iload_n 1, 1) := by decide +kernel
theorem dX12_byteAt_15 : decode cX12_byteAt 15 = .ok (.iadd, 1) := by decide +kernel
theorem dX12_byteAt_16 : decode cX12_byteAt 16 = .ok (.iaload, 1) := by decide +kernel
theorem dX12_byteAt_17 : decode cX12_byteAt 17 = .ok (.goto 4, 3) := by decide +kernel
theorem dX12_byteAt_20 : decode cX12_byteAt 20 = .ok (.iconst (-1), 1) := by decide +kernel
theorem dX12_byteAt_21 : decode cX12_byteAt 21 = .ok (.ireturn, 1) := by decide +kernel
def w_X12_byteAt (I : mI) (o : Nat) (a1 : Int32) (post : Int32 → Prop) : Prop := ((I o 2) ≤ a1 → post (-1)) ∧ (¬ (I o 2) ≤ a1 → vp_in (10 + a1) 3960 ∧ post (I (o + 1) (10 + a1).toNatClampNeg))
set_option maxRecDepth 100000 in
set_option maxHeartbeats 4000000 in
theorem c_X12_byteAt {l : Launch} {D : va_G} {cA : Nat → ClassId} {Z : mZ} {bs : Ad} {n : Nat} {K : mK} {R : mR} {I : mI} {L : mL} {o : Nat} {a1 : Int32} {post : Int32 → Prop} (ho : isX12 K R o) (hw : w_X12_byteAt I o a1 post) : Met l yX12_byteAt (.code yX12_byteAt cX12_byteAt 2 (some .int) :: gw) ({ frames := 0, cells := 0, slots := 0, locals := 0 } : Room) (PreM D cA Z bs (n, K, R, I, L) [.ref (ad bs o), .int a1]) (QI D cA bs (fun r u => u = (n, K, R, I, L) ∧ post r)) 0 0 (Ab bs) := by
  refine m_met (by decide) (Nat.le_of_ble_eq_true rfl) (fun p e s m below meth c ls E hr hlk hM hS hl => ?_)
  have E : Ev p s m _ c cX12_byteAt 2 RX12 D cA Z bs := E
  have hl : lv_has ls 2 [(0, .ref (ad bs o)), (1, .int a1)] := hl
  have hx := E.1.1
  have hb := E.1.2.1
  generalize hHe : s.heap = H at hM ⊢
  have hS : va_S (Ab bs) s.heap H [] := by rw [← hHe]; exact va_S.rf
  clear hHe
  refine lv_iload_n hx hb dX12_byteAt_0 rfl (lv_at hl 1 rfl) ?_
  refine lv_aload_n hx hb dX12_byteAt_1 rfl (lv_at hl 0 rfl) ?_
  refine m_geti E hM fs_X12_78 ho.1 dX12_byteAt_2 ?_
  refine lv_icmp_ge (tgt := 20) hx hb dX12_byteAt_5 (by decide) (fun cq => ?_) (fun cq => ?_)
  · have hw := hw.1 cq
    refine lv_iconst (v := (-1)) hx hb dX12_byteAt_20 (by decide) ?_
    exact m_reti hx hb hr hlk hM hS ⟨rfl, hw⟩ dX12_byteAt_21
  · have hw := hw.2 cq
    refine lv_aload_n hx hb dX12_byteAt_8 rfl (lv_at hl 0 rfl) ?_
    refine m_getr E hM fs_X12_7 ho.1 (isO_at ho 0 rfl).1 dX12_byteAt_9 ?_
    refine lv_bipush (v := 10) hx hb dX12_byteAt_12 (by decide) ?_
    refine lv_iload_n hx hb dX12_byteAt_14 rfl (lv_at hl 1 rfl) ?_
    refine lv_iadd hx hb dX12_byteAt_15 ?_
    obtain ⟨hv, hw⟩ := hw
    refine m_iald E hM (isO_at ho 0 rfl).2 hv dX12_byteAt_16 ?_
    refine lv_goto (tgt := 21) hx hb dX12_byteAt_17 (by decide) ?_
    exact m_reti hx hb hr hlk hM hS ⟨rfl, hw⟩ dX12_byteAt_21
theorem dX12_isLetter_0 : decode cX12_isLetter 0 = .ok (.iload_n 0, 1) := by decide +kernel
theorem dX12_isLetter_1 : decode cX12_isLetter 1 = .ok (.bipush 97, 2) := by decide +kernel
theorem dX12_isLetter_3 : decode cX12_isLetter 3 = .ok (.if_icmp .lt 13, 3) := by decide +kernel
theorem dX12_isLetter_6 : decode cX12_isLetter 6 = .ok (.iload_n 0, 1) := by decide +kernel
theorem dX12_isLetter_7 : decode cX12_isLetter 7 = .ok (.bipush 122, 2) := by decide +kernel
theorem dX12_isLetter_9 : decode cX12_isLetter 9 = .ok (.if_icmp .gt 7, 3) := by decide +kernel
theorem dX12_isLetter_12 : decode cX12_isLetter 12 = .ok (.iconst 1, 1) := by decide +kernel
theorem dX12_isLetter_13 : decode cX12_isLetter 13 = .ok (.goto 4, 3) := by decide +kernel
theorem dX12_isLetter_16 : decode cX12_isLetter 16 = .ok (.iconst 0, 1) := by decide +kernel
theorem dX12_isLetter_17 : decode cX12_isLetter 17 = .ok (.ireturn, 1) := by decide +kernel
def w_X12_isLetter (a1 : Int32) (post : Bool → Prop) : Prop := (a1 < 97 → post false) ∧ (¬ a1 < 97 → (122 < a1 → post false) ∧ (¬ 122 < a1 → post true))
set_option maxRecDepth 100000 in
set_option maxHeartbeats 4000000 in
theorem c_X12_isLetter {l : Launch} {D : va_G} {cA : Nat → ClassId} {Z : mZ} {bs : Ad} {n : Nat} {K : mK} {R : mR} {I : mI} {L : mL} {a1 : Int32} {post : Bool → Prop}  (hw : w_X12_isLetter a1 post) : Met l yX12_isLetter (.code yX12_isLetter cX12_isLetter 1 (some .boolean) :: gw) ({ frames := 0, cells := 0, slots := 0, locals := 0 } : Room) (PreM D cA Z bs (n, K, R, I, L) [.int a1]) (QI D cA bs (fun r u => ∃ b, r = bI b ∧ u = (n, K, R, I, L) ∧ post b)) 0 0 (Ab bs) := by
  refine m_met (by decide) (Nat.le_of_ble_eq_true rfl) (fun p e s m below meth c ls E hr hlk hM hS hl => ?_)
  have E : Ev p s m _ c cX12_isLetter 1 RX12 D cA Z bs := E
  have hl : lv_has ls 1 [(0, .int a1)] := hl
  have hx := E.1.1
  have hb := E.1.2.1
  generalize hHe : s.heap = H at hM ⊢
  have hS : va_S (Ab bs) s.heap H [] := by rw [← hHe]; exact va_S.rf
  clear hHe
  refine lv_iload_n hx hb dX12_isLetter_0 rfl (lv_at hl 0 rfl) ?_
  refine lv_bipush (v := 97) hx hb dX12_isLetter_1 (by decide) ?_
  refine lv_icmp_lt (tgt := 16) hx hb dX12_isLetter_3 (by decide) (fun cq => ?_) (fun cq => ?_)
  · have hw := hw.1 cq
    refine lv_iconst (v := 0) hx hb dX12_isLetter_16 (by decide) ?_
    exact m_retz hx hb hr hlk (Or.inl rfl) hM hS ⟨false, rfl, rfl, hw⟩ dX12_isLetter_17
  · have hw := hw.2 cq
    refine lv_iload_n hx hb dX12_isLetter_6 rfl (lv_at hl 0 rfl) ?_
    refine lv_bipush (v := 122) hx hb dX12_isLetter_7 (by decide) ?_
    refine lv_icmp_gt (tgt := 16) hx hb dX12_isLetter_9 (by decide) (fun cq => ?_) (fun cq => ?_)
    · have hw := hw.1 cq
      refine lv_iconst (v := 0) hx hb dX12_isLetter_16 (by decide) ?_
      exact m_retz hx hb hr hlk (Or.inl rfl) hM hS ⟨false, rfl, rfl, hw⟩ dX12_isLetter_17
    · have hw := hw.2 cq
      refine lv_iconst (v := 1) hx hb dX12_isLetter_12 (by decide) ?_
      refine lv_goto (tgt := 17) hx hb dX12_isLetter_13 (by decide) ?_
      exact m_retz hx hb hr hlk (Or.inr rfl) hM hS ⟨true, rfl, rfl, hw⟩ dX12_isLetter_17
theorem dX12_isDigit_0 : decode cX12_isDigit 0 = .ok (.iload_n 0, 1) := by decide +kernel
theorem dX12_isDigit_1 : decode cX12_isDigit 1 = .ok (.bipush 48, 2) := by decide +kernel
theorem dX12_isDigit_3 : decode cX12_isDigit 3 = .ok (.if_icmp .lt 13, 3) := by decide +kernel
theorem dX12_isDigit_6 : decode cX12_isDigit 6 = .ok (.iload_n 0, 1) := by decide +kernel
theorem dX12_isDigit_7 : decode cX12_isDigit 7 = .ok (.bipush 57, 2) := by decide +kernel
theorem dX12_isDigit_9 : decode cX12_isDigit 9 = .ok (.if_icmp .gt 7, 3) := by decide +kernel
theorem dX12_isDigit_12 : decode cX12_isDigit 12 = .ok (.iconst 1, 1) := by decide +kernel
theorem dX12_isDigit_13 : decode cX12_isDigit 13 = .ok (.goto 4, 3) := by decide +kernel
theorem dX12_isDigit_16 : decode cX12_isDigit 16 = .ok (.iconst 0, 1) := by decide +kernel
theorem dX12_isDigit_17 : decode cX12_isDigit 17 = .ok (.ireturn, 1) := by decide +kernel
def w_X12_isDigit (a1 : Int32) (post : Bool → Prop) : Prop := (a1 < 48 → post false) ∧ (¬ a1 < 48 → (57 < a1 → post false) ∧ (¬ 57 < a1 → post true))
set_option maxRecDepth 100000 in
set_option maxHeartbeats 4000000 in
theorem c_X12_isDigit {l : Launch} {D : va_G} {cA : Nat → ClassId} {Z : mZ} {bs : Ad} {n : Nat} {K : mK} {R : mR} {I : mI} {L : mL} {a1 : Int32} {post : Bool → Prop}  (hw : w_X12_isDigit a1 post) : Met l yX12_isDigit (.code yX12_isDigit cX12_isDigit 1 (some .boolean) :: gw) ({ frames := 0, cells := 0, slots := 0, locals := 0 } : Room) (PreM D cA Z bs (n, K, R, I, L) [.int a1]) (QI D cA bs (fun r u => ∃ b, r = bI b ∧ u = (n, K, R, I, L) ∧ post b)) 0 0 (Ab bs) := by
  refine m_met (by decide) (Nat.le_of_ble_eq_true rfl) (fun p e s m below meth c ls E hr hlk hM hS hl => ?_)
  have E : Ev p s m _ c cX12_isDigit 1 RX12 D cA Z bs := E
  have hl : lv_has ls 1 [(0, .int a1)] := hl
  have hx := E.1.1
  have hb := E.1.2.1
  generalize hHe : s.heap = H at hM ⊢
  have hS : va_S (Ab bs) s.heap H [] := by rw [← hHe]; exact va_S.rf
  clear hHe
  refine lv_iload_n hx hb dX12_isDigit_0 rfl (lv_at hl 0 rfl) ?_
  refine lv_bipush (v := 48) hx hb dX12_isDigit_1 (by decide) ?_
  refine lv_icmp_lt (tgt := 16) hx hb dX12_isDigit_3 (by decide) (fun cq => ?_) (fun cq => ?_)
  · have hw := hw.1 cq
    refine lv_iconst (v := 0) hx hb dX12_isDigit_16 (by decide) ?_
    exact m_retz hx hb hr hlk (Or.inl rfl) hM hS ⟨false, rfl, rfl, hw⟩ dX12_isDigit_17
  · have hw := hw.2 cq
    refine lv_iload_n hx hb dX12_isDigit_6 rfl (lv_at hl 0 rfl) ?_
    refine lv_bipush (v := 57) hx hb dX12_isDigit_7 (by decide) ?_
    refine lv_icmp_gt (tgt := 16) hx hb dX12_isDigit_9 (by decide) (fun cq => ?_) (fun cq => ?_)
    · have hw := hw.1 cq
      refine lv_iconst (v := 0) hx hb dX12_isDigit_16 (by decide) ?_
      exact m_retz hx hb hr hlk (Or.inl rfl) hM hS ⟨false, rfl, rfl, hw⟩ dX12_isDigit_17
    · have hw := hw.2 cq
      refine lv_iconst (v := 1) hx hb dX12_isDigit_12 (by decide) ?_
      refine lv_goto (tgt := 17) hx hb dX12_isDigit_13 (by decide) ?_
      exact m_retz hx hb hr hlk (Or.inr rfl) hM hS ⟨true, rfl, rfl, hw⟩ dX12_isDigit_17
theorem dX12_four_0 : decode cX12_four 0 = .ok (.iload_n 0, 1) := by decide +kernel
theorem dX12_four_1 : decode cX12_four 1 = .ok (.bipush 32, 2) := by decide +kernel
theorem dX12_four_3 : decode cX12_four 3 = .ok (.imul, 1) := by decide +kernel
theorem dX12_four_4 : decode cX12_four 4 = .ok (.iload_n 1, 1) := by decide +kernel
theorem dX12_four_5 : decode cX12_four 5 = .ok (.iadd, 1) := by decide +kernel
theorem dX12_four_6 : decode cX12_four 6 = .ok (.bipush 32, 2) := by decide +kernel
theorem dX12_four_8 : decode cX12_four 8 = .ok (.imul, 1) := by decide +kernel
theorem dX12_four_9 : decode cX12_four 9 = .ok (.iload_n 2, 1) := by decide +kernel
theorem dX12_four_10 : decode cX12_four 10 = .ok (.iadd, 1) := by decide +kernel
theorem dX12_four_11 : decode cX12_four 11 = .ok (.bipush 32, 2) := by decide +kernel
theorem dX12_four_13 : decode cX12_four 13 = .ok (.imul, 1) := by decide +kernel
theorem dX12_four_14 : decode cX12_four 14 = .ok (.iload_n 3, 1) := by decide +kernel
theorem dX12_four_15 : decode cX12_four 15 = .ok (.iadd, 1) := by decide +kernel
theorem dX12_four_16 : decode cX12_four 16 = .ok (.i2l, 1) := by decide +kernel
theorem dX12_four_17 : decode cX12_four 17 = .ok (.lreturn, 1) := by decide +kernel
def w_X12_four (a1 : Int32) (a2 : Int32) (a3 : Int32) (a4 : Int32) (post : Int64 → Prop) : Prop := post (((((((a1 * 32) + a2) * 32) + a3) * 32) + a4).toInt64)
set_option maxRecDepth 100000 in
set_option maxHeartbeats 4000000 in
theorem c_X12_four {l : Launch} {D : va_G} {cA : Nat → ClassId} {Z : mZ} {bs : Ad} {n : Nat} {K : mK} {R : mR} {I : mI} {L : mL} {a1 : Int32} {a2 : Int32} {a3 : Int32} {a4 : Int32} {post : Int64 → Prop}  (hw : w_X12_four a1 a2 a3 a4 post) : Met l yX12_four (.code yX12_four cX12_four 4 (some .long) :: gw) ({ frames := 0, cells := 0, slots := 0, locals := 0 } : Room) (PreM D cA Z bs (n, K, R, I, L) [.int a1, .int a2, .int a3, .int a4]) (QL D cA bs (fun r u => u = (n, K, R, I, L) ∧ post r)) 0 0 (Ab bs) := by
  refine m_met (by decide) (Nat.le_of_ble_eq_true rfl) (fun p e s m below meth c ls E hr hlk hM hS hl => ?_)
  have E : Ev p s m _ c cX12_four 4 RX12 D cA Z bs := E
  have hl : lv_has ls 4 [(0, .int a1), (1, .int a2), (2, .int a3), (3, .int a4)] := hl
  have hx := E.1.1
  have hb := E.1.2.1
  generalize hHe : s.heap = H at hM ⊢
  have hS : va_S (Ab bs) s.heap H [] := by rw [← hHe]; exact va_S.rf
  clear hHe
  refine lv_iload_n hx hb dX12_four_0 rfl (lv_at hl 0 rfl) ?_
  refine lv_bipush (v := 32) hx hb dX12_four_1 (by decide) ?_
  refine lv_imul hx hb dX12_four_3 ?_
  refine lv_iload_n hx hb dX12_four_4 rfl (lv_at hl 1 rfl) ?_
  refine lv_iadd hx hb dX12_four_5 ?_
  refine lv_bipush (v := 32) hx hb dX12_four_6 (by decide) ?_
  refine lv_imul hx hb dX12_four_8 ?_
  refine lv_iload_n hx hb dX12_four_9 rfl (lv_at hl 2 rfl) ?_
  refine lv_iadd hx hb dX12_four_10 ?_
  refine lv_bipush (v := 32) hx hb dX12_four_11 (by decide) ?_
  refine lv_imul hx hb dX12_four_13 ?_
  refine lv_iload_n hx hb dX12_four_14 rfl (lv_at hl 3 rfl) ?_
  refine lv_iadd hx hb dX12_four_15 ?_
  refine lv_i2l hx hb dX12_four_16 rfl ?_
  exact m_retl hx hb hr hlk hM hS ⟨rfl, hw⟩ dX12_four_17
theorem dX12_eight_0 : decode cX12_eight 0 = .ok (.iload_n 0, 1) := by decide +kernel
theorem dX12_eight_1 : decode cX12_eight 1 = .ok (.iload_n 1, 1) := by decide +kernel
theorem dX12_eight_2 : decode cX12_eight 2 = .ok (.iload_n 2, 1) := by decide +kernel
theorem dX12_eight_3 : decode cX12_eight 3 = .ok (.iload_n 3, 1) := by decide +kernel
theorem dX12_eight_4 : decode cX12_eight 4 = .ok (.invokestatic 82, 3) := by decide +kernel
theorem dX12_eight_7 : decode cX12_eight 7 = .ok (.ldc2_w 86, 3) := by decide +kernel
theorem dX12_eight_10 : decode cX12_eight 10 = .ok (.lmul, 1) := by decide +kernel
theorem dX12_eight_11 : decode cX12_eight 11 = .ok (.iload 4, 2) := by decide +kernel
theorem dX12_eight_13 : decode cX12_eight 13 = .ok (.iload 5, 2) := by decide +kernel
theorem dX12_eight_15 : decode cX12_eight 15 = .ok (.iload 6, 2) := by decide +kernel
theorem dX12_eight_17 : decode cX12_eight 17 = .ok (.iload 7, 2) := by decide +kernel
theorem dX12_eight_19 : decode cX12_eight 19 = .ok (.invokestatic 82, 3) := by decide +kernel
theorem dX12_eight_22 : decode cX12_eight 22 = .ok (.ladd, 1) := by decide +kernel
theorem dX12_eight_23 : decode cX12_eight 23 = .ok (.lreturn, 1) := by decide +kernel
def w_X12_eight (a1 : Int32) (a2 : Int32) (a3 : Int32) (a4 : Int32) (a5 : Int32) (a6 : Int32) (a7 : Int32) (a8 : Int32) (post : Int64 → Prop) : Prop := w_X12_four a1 a2 a3 a4 (fun r1 => w_X12_four a5 a6 a7 a8 (fun r2 => post ((r1 * (1048576 : Int64)) + r2)))
set_option maxRecDepth 100000 in
set_option maxHeartbeats 4000000 in
theorem c_X12_eight {l : Launch} {D : va_G} {cA : Nat → ClassId} {Z : mZ} {bs : Ad} {n : Nat} {K : mK} {R : mR} {I : mI} {L : mL} {a1 : Int32} {a2 : Int32} {a3 : Int32} {a4 : Int32} {a5 : Int32} {a6 : Int32} {a7 : Int32} {a8 : Int32} {post : Int64 → Prop}  (hw : w_X12_eight a1 a2 a3 a4 a5 a6 a7 a8 post) : Met l yX12_eight (.code yX12_eight cX12_eight 8 (some .long) :: gw) ({ frames := 1, cells := 0, slots := 0, locals := 23 } : Room) (PreM D cA Z bs (n, K, R, I, L) [.int a1, .int a2, .int a3, .int a4, .int a5, .int a6, .int a7, .int a8]) (QL D cA bs (fun r u => u = (n, K, R, I, L) ∧ post r)) 0 0 (Ab bs) := by
  refine m_met (by decide) (Nat.le_of_ble_eq_true rfl) (fun p e s m below meth c ls E hr hlk hM hS hl => ?_)
  have E : Ev p s m _ c cX12_eight 8 RX12 D cA Z bs := E
  have hl : lv_has ls 8 [(0, .int a1), (1, .int a2), (2, .int a3), (3, .int a4), (4, .int a5), (5, .int a6), (6, .int a7), (7, .int a8)] := hl
  have hx := E.1.1
  have hb := E.1.2.1
  generalize hHe : s.heap = H at hM ⊢
  have hS : va_S (Ab bs) s.heap H [] := by rw [← hHe]; exact va_S.rf
  clear hHe
  refine lv_iload_n hx hb dX12_eight_0 rfl (lv_at hl 0 rfl) ?_
  refine lv_iload_n hx hb dX12_eight_1 rfl (lv_at hl 1 rfl) ?_
  refine lv_iload_n hx hb dX12_eight_2 rfl (lv_at hl 2 rfl) ?_
  refine lv_iload_n hx hb dX12_eight_3 rfl (lv_at hl 3 rfl) ?_
  refine m_cl (m_runS E hM hS cs_X12_82 (c_X12_four  hw) rfl rfl ⟨Nat.le_of_ble_eq_true rfl, Nat.le_of_ble_eq_true rfl⟩ rfl hl.1 rfl (Nat.le_of_ble_eq_true rfl) dX12_eight_4 ⟨Nat.le_of_ble_eq_true rfl, Nat.le_of_ble_eq_true rfl⟩) hS (fun r1 u H locs hp hM hS => ?_)
  obtain ⟨rfl, hw⟩ := hp
  refine lv_ldc2 (v := 1048576) hx hb E.1.2.2.2.1 (E.1.2.2.2.2 _ (gw_of 1499 (by decide +kernel) (by decide +kernel))) dX12_eight_7 ?_
  refine lv_lmul hx hb dX12_eight_10 ?_
  refine lv_iload hx hb dX12_eight_11 (lv_at hl 4 rfl) ?_
  refine lv_iload hx hb dX12_eight_13 (lv_at hl 5 rfl) ?_
  refine lv_iload hx hb dX12_eight_15 (lv_at hl 6 rfl) ?_
  refine lv_iload hx hb dX12_eight_17 (lv_at hl 7 rfl) ?_
  refine m_cl (m_runS E hM hS cs_X12_82 (c_X12_four  hw) rfl rfl ⟨Nat.le_of_ble_eq_true rfl, Nat.le_of_ble_eq_true rfl⟩ rfl hl.1 rfl (Nat.le_of_ble_eq_true rfl) dX12_eight_19 ⟨Nat.le_of_ble_eq_true rfl, Nat.le_of_ble_eq_true rfl⟩) hS (fun r2 u H locs hp hM hS => ?_)
  obtain ⟨rfl, hw⟩ := hp
  refine lv_ladd hx hb dX12_eight_22 ?_
  exact m_retl hx hb hr hlk hM hS ⟨rfl, hw⟩ dX12_eight_23
theorem dX12_wordOf_0 : decode cX12_wordOf 0 = .ok (.lload_n 0, 1) := by decide +kernel
theorem dX12_wordOf_1 : decode cX12_wordOf 1 = .ok (.iconst 0, 1) := by decide +kernel
theorem dX12_wordOf_2 : decode cX12_wordOf 2 = .ok (.iconst 0, 1) := by decide +kernel
theorem dX12_wordOf_3 : decode cX12_wordOf 3 = .ok (.iconst 0, 1) := by decide +kernel
theorem dX12_wordOf_4 : decode cX12_wordOf 4 = .ok (.bipush 19, 2) := by decide +kernel
theorem dX12_wordOf_6 : decode cX12_wordOf 6 = .ok (.bipush 20, 2) := by decide +kernel
theorem dX12_wordOf_8 : decode cX12_wordOf 8 = .ok (.iconst 5, 1) := by decide +kernel
theorem dX12_wordOf_9 : decode cX12_wordOf 9 = .ok (.bipush 16, 2) := by decide +kernel
theorem dX12_wordOf_11 : decode cX12_wordOf 11 = .ok (.bipush 19, 2) := by decide +kernel
theorem dX12_wordOf_13 : decode cX12_wordOf 13 = .ok (.invokestatic 88, 3) := by decide +kernel
theorem dX12_wordOf_16 : decode cX12_wordOf 16 = .ok (.lcmp, 1) := by decide +kernel
theorem dX12_wordOf_17 : decode cX12_wordOf 17 = .ok (.ifCond .ne 5, 3) := by decide +kernel
theorem dX12_wordOf_20 : decode cX12_wordOf 20 = .ok (.iconst 1, 1) := by decide +kernel
theorem dX12_wordOf_21 : decode cX12_wordOf 21 = .ok (.ireturn, 1) := by decide +kernel
theorem dX12_wordOf_22 : decode cX12_wordOf 22 = .ok (.lload_n 0, 1) := by decide +kernel
theorem dX12_wordOf_23 : decode cX12_wordOf 23 = .ok (.bipush 11, 2) := by decide +kernel
theorem dX12_wordOf_25 : decode cX12_wordOf 25 = .ok (.iconst 5, 1) := by decide +kernel
theorem dX12_wordOf_26 : decode cX12_wordOf 26 = .ok (.iconst 5, 1) := by decide +kernel
theorem dX12_wordOf_27 : decode cX12_wordOf 27 = .ok (.bipush 16, 2) := by decide +kernel
theorem dX12_wordOf_29 : decode cX12_wordOf 29 = .ok (.invokestatic 82, 3) := by decide +kernel
theorem dX12_wordOf_32 : decode cX12_wordOf 32 = .ok (.lcmp, 1) := by decide +kernel
theorem dX12_wordOf_33 : decode cX12_wordOf 33 = .ok (.ifCond .ne 5, 3) := by decide +kernel
theorem dX12_wordOf_36 : decode cX12_wordOf 36 = .ok (.iconst 2, 1) := by decide +kernel
theorem dX12_wordOf_37 : decode cX12_wordOf 37 = .ok (.ireturn, 1) := by decide +kernel
theorem dX12_wordOf_38 : decode cX12_wordOf 38 = .ok (.lload_n 0, 1) := by decide +kernel
theorem dX12_wordOf_39 : decode cX12_wordOf 39 = .ok (.iconst 0, 1) := by decide +kernel
theorem dX12_wordOf_40 : decode cX12_wordOf 40 = .ok (.iconst 0, 1) := by decide +kernel
theorem dX12_wordOf_41 : decode cX12_wordOf 41 = .ok (.iconst 3, 1) := by decide +kernel
theorem dX12_wordOf_42 : decode cX12_wordOf 42 = .ok (.iconst 1, 1) := by decide +kernel
theorem dX12_wordOf_43 : decode cX12_wordOf 43 = .ok (.bipush 18, 2) := by decide +kernel
theorem dX12_wordOf_45 : decode cX12_wordOf 45 = .ok (.bipush 16, 2) := by decide +kernel
theorem dX12_wordOf_47 : decode cX12_wordOf 47 = .ok (.iconst 5, 1) := by decide +kernel
theorem dX12_wordOf_48 : decode cX12_wordOf 48 = .ok (.bipush 20, 2) := by decide +kernel
theorem dX12_wordOf_50 : decode cX12_wordOf 50 = .ok (.invokestatic 88, 3) := by decide +kernel
theorem dX12_wordOf_53 : decode cX12_wordOf 53 = .ok (.lcmp, 1) := by decide +kernel
theorem dX12_wordOf_54 : decode cX12_wordOf 54 = .ok (.ifCond .ne 5, 3) := by decide +kernel
theorem dX12_wordOf_57 : decode cX12_wordOf 57 = .ok (.iconst 3, 1) := by decide +kernel
theorem dX12_wordOf_58 : decode cX12_wordOf 58 = .ok (.ireturn, 1) := by decide +kernel
theorem dX12_wordOf_59 : decode cX12_wordOf 59 = .ok (.lload_n 0, 1) := by decide +kernel
theorem dX12_wordOf_60 : decode cX12_wordOf 60 = .ok (.bipush 6, 2) := by decide +kernel
theorem dX12_wordOf_62 : decode cX12_wordOf 62 = .ok (.bipush 12, 2) := by decide +kernel
theorem dX12_wordOf_64 : decode cX12_wordOf 64 = .ok (.iconst 1, 1) := by decide +kernel
theorem dX12_wordOf_65 : decode cX12_wordOf 65 = .ok (.bipush 20, 2) := by decide +kernel
theorem dX12_wordOf_67 : decode cX12_wordOf 67 = .ok (.invokestatic 82, 3) := by decide +kernel
theorem dX12_wordOf_70 : decode cX12_wordOf 70 = .ok (.lcmp, 1) := by decide +kernel
theorem dX12_wordOf_71 : decode cX12_wordOf 71 = .ok (.ifCond .ne 5, 3) := by decide +kernel
theorem dX12_wordOf_74 : decode cX12_wordOf 74 = .ok (.iconst 4, 1) := by decide +kernel
theorem dX12_wordOf_75 : decode cX12_wordOf 75 = .ok (.ireturn, 1) := by decide +kernel
theorem dX12_wordOf_76 : decode cX12_wordOf 76 = .ok (.lload_n 0, 1) := by decide +kernel
theorem dX12_wordOf_77 : decode cX12_wordOf 77 = .ok (.iconst 0, 1) := by decide +kernel
theorem dX12_wordOf_78 : decode cX12_wordOf 78 = .ok (.iconst 0, 1) := by decide +kernel
theorem dX12_wordOf_79 : decode cX12_wordOf 79 = .ok (.bipush 16, 2) := by decide +kernel
theorem dX12_wordOf_81 : decode cX12_wordOf 81 = .ok (.iconst 5, 1) := by decide +kernel
theorem dX12_wordOf_82 : decode cX12_wordOf 82 = .ok (.bipush 18, 2) := by decide +kernel
theorem dX12_wordOf_84 : decode cX12_wordOf 84 = .ok (.bipush 19, 2) := by decide +kernel
theorem dX12_wordOf_86 : decode cX12_wordOf 86 = .ok (.bipush 15, 2) := by decide +kernel
theorem dX12_wordOf_88 : decode cX12_wordOf 88 = .ok (.bipush 14, 2) := by decide +kernel
theorem dX12_wordOf_90 : decode cX12_wordOf 90 = .ok (.invokestatic 88, 3) := by decide +kernel
theorem dX12_wordOf_93 : decode cX12_wordOf 93 = .ok (.lcmp, 1) := by decide +kernel
theorem dX12_wordOf_94 : decode cX12_wordOf 94 = .ok (.ifCond .ne 5, 3) := by decide +kernel
theorem dX12_wordOf_97 : decode cX12_wordOf 97 = .ok (.iconst 5, 1) := by decide +kernel
theorem dX12_wordOf_98 : decode cX12_wordOf 98 = .ok (.ireturn, 1) := by decide +kernel
theorem dX12_wordOf_99 : decode cX12_wordOf 99 = .ok (.lload_n 0, 1) := by decide +kernel
theorem dX12_wordOf_100 : decode cX12_wordOf 100 = .ok (.bipush 23, 2) := by decide +kernel
theorem dX12_wordOf_102 : decode cX12_wordOf 102 = .ok (.iconst 1, 1) := by decide +kernel
theorem dX12_wordOf_103 : decode cX12_wordOf 103 = .ok (.bipush 12, 2) := by decide +kernel
theorem dX12_wordOf_105 : decode cX12_wordOf 105 = .ok (.bipush 11, 2) := by decide +kernel
theorem dX12_wordOf_107 : decode cX12_wordOf 107 = .ok (.invokestatic 82, 3) := by decide +kernel
theorem dX12_wordOf_110 : decode cX12_wordOf 110 = .ok (.lcmp, 1) := by decide +kernel
theorem dX12_wordOf_111 : decode cX12_wordOf 111 = .ok (.ifCond .ne 6, 3) := by decide +kernel
theorem dX12_wordOf_114 : decode cX12_wordOf 114 = .ok (.bipush 6, 2) := by decide +kernel
theorem dX12_wordOf_116 : decode cX12_wordOf 116 = .ok (.ireturn, 1) := by decide +kernel
theorem dX12_wordOf_117 : decode cX12_wordOf 117 = .ok (.lload_n 0, 1) := by decide +kernel
theorem dX12_wordOf_118 : decode cX12_wordOf 118 = .ok (.iconst 0, 1) := by decide +kernel
theorem dX12_wordOf_119 : decode cX12_wordOf 119 = .ok (.iconst 0, 1) := by decide +kernel
theorem dX12_wordOf_120 : decode cX12_wordOf 120 = .ok (.iconst 3, 1) := by decide +kernel
theorem dX12_wordOf_121 : decode cX12_wordOf 121 = .ok (.bipush 8, 2) := by decide +kernel
theorem dX12_wordOf_123 : decode cX12_wordOf 123 = .ok (.iconst 1, 1) := by decide +kernel
theorem dX12_wordOf_124 : decode cX12_wordOf 124 = .ok (.bipush 14, 2) := by decide +kernel
theorem dX12_wordOf_126 : decode cX12_wordOf 126 = .ok (.bipush 7, 2) := by decide +kernel
theorem dX12_wordOf_128 : decode cX12_wordOf 128 = .ok (.iconst 5, 1) := by decide +kernel
theorem dX12_wordOf_129 : decode cX12_wordOf 129 = .ok (.invokestatic 88, 3) := by decide +kernel
theorem dX12_wordOf_132 : decode cX12_wordOf 132 = .ok (.lcmp, 1) := by decide +kernel
theorem dX12_wordOf_133 : decode cX12_wordOf 133 = .ok (.ifCond .ne 6, 3) := by decide +kernel
theorem dX12_wordOf_136 : decode cX12_wordOf 136 = .ok (.bipush 7, 2) := by decide +kernel
theorem dX12_wordOf_138 : decode cX12_wordOf 138 = .ok (.ireturn, 1) := by decide +kernel
theorem dX12_wordOf_139 : decode cX12_wordOf 139 = .ok (.lload_n 0, 1) := by decide +kernel
theorem dX12_wordOf_140 : decode cX12_wordOf 140 = .ok (.iconst 0, 1) := by decide +kernel
theorem dX12_wordOf_141 : decode cX12_wordOf 141 = .ok (.iconst 0, 1) := by decide +kernel
theorem dX12_wordOf_142 : decode cX12_wordOf 142 = .ok (.iconst 0, 1) := by decide +kernel
theorem dX12_wordOf_143 : decode cX12_wordOf 143 = .ok (.bipush 8, 2) := by decide +kernel
theorem dX12_wordOf_145 : decode cX12_wordOf 145 = .ok (.iconst 5, 1) := by decide +kernel
theorem dX12_wordOf_146 : decode cX12_wordOf 146 = .ok (.iconst 1, 1) := by decide +kernel
theorem dX12_wordOf_147 : decode cX12_wordOf 147 = .ok (.bipush 18, 2) := by decide +kernel
theorem dX12_wordOf_149 : decode cX12_wordOf 149 = .ok (.iconst 4, 1) := by decide +kernel
theorem dX12_wordOf_150 : decode cX12_wordOf 150 = .ok (.invokestatic 88, 3) := by decide +kernel
theorem dX12_wordOf_153 : decode cX12_wordOf 153 = .ok (.lcmp, 1) := by decide +kernel
theorem dX12_wordOf_154 : decode cX12_wordOf 154 = .ok (.ifCond .ne 8, 3) := by decide +kernel
theorem dX12_wordOf_157 : decode cX12_wordOf 157 = .ok (.bipush 8, 2) := by decide +kernel
theorem dX12_wordOf_159 : decode cX12_wordOf 159 = .ok (.goto 5, 3) := by decide +kernel
theorem dX12_wordOf_162 : decode cX12_wordOf 162 = .ok (.bipush 99, 2) := by decide +kernel
theorem dX12_wordOf_164 : decode cX12_wordOf 164 = .ok (.ireturn, 1) := by decide +kernel
def w_X12_wordOf (a1 : Int64) (post : Int32 → Prop) : Prop := w_X12_eight 0 0 0 19 20 5 16 19 (fun r1 => (¬ (lg_cmp a1 r1) = 0 → w_X12_four 11 5 5 16 (fun r2 => (¬ (lg_cmp a1 r2) = 0 → w_X12_eight 0 0 3 1 18 16 5 20 (fun r3 => (¬ (lg_cmp a1 r3) = 0 → w_X12_four 6 12 1 20 (fun r4 => (¬ (lg_cmp a1 r4) = 0 → w_X12_eight 0 0 16 5 18 19 15 14 (fun r5 => (¬ (lg_cmp a1 r5) = 0 → w_X12_four 23 1 12 11 (fun r6 => (¬ (lg_cmp a1 r6) = 0 → w_X12_eight 0 0 3 8 1 14 7 5 (fun r7 => (¬ (lg_cmp a1 r7) = 0 → w_X12_eight 0 0 0 8 5 1 18 4 (fun r8 => (¬ (lg_cmp a1 r8) = 0 → post 99) ∧ ((lg_cmp a1 r8) = 0 → post 8))) ∧ ((lg_cmp a1 r7) = 0 → post 7))) ∧ ((lg_cmp a1 r6) = 0 → post 6))) ∧ ((lg_cmp a1 r5) = 0 → post 5))) ∧ ((lg_cmp a1 r4) = 0 → post 4))) ∧ ((lg_cmp a1 r3) = 0 → post 3))) ∧ ((lg_cmp a1 r2) = 0 → post 2))) ∧ ((lg_cmp a1 r1) = 0 → post 1))
set_option maxRecDepth 100000 in
set_option maxHeartbeats 4000000 in
theorem c_X12_wordOf {l : Launch} {D : va_G} {cA : Nat → ClassId} {Z : mZ} {bs : Ad} {n : Nat} {K : mK} {R : mR} {I : mI} {L : mL} {a1 : Int64} {post : Int32 → Prop}  (hw : w_X12_wordOf a1 post) : Met l yX12_wordOf (.code yX12_wordOf cX12_wordOf 2 (some .int) :: gw) ({ frames := 2, cells := 0, slots := 0, locals := 50 } : Room) (PreM D cA Z bs (n, K, R, I, L) [.long a1]) (QI D cA bs (fun r u => u = (n, K, R, I, L) ∧ post r)) 0 0 (Ab bs) := by
  refine m_met (by decide) (Nat.le_of_ble_eq_true rfl) (fun p e s m below meth c ls E hr hlk hM hS hl => ?_)
  have E : Ev p s m _ c cX12_wordOf 2 RX12 D cA Z bs := E
  have hl : lv_has ls 2 [(0, .long a1)] := hl
  have hx := E.1.1
  have hb := E.1.2.1
  generalize hHe : s.heap = H at hM ⊢
  have hS : va_S (Ab bs) s.heap H [] := by rw [← hHe]; exact va_S.rf
  clear hHe
  refine lv_lload_n hx hb dX12_wordOf_0 rfl (lv_at hl 0 rfl) ?_
  refine lv_iconst (v := 0) hx hb dX12_wordOf_1 (by decide) ?_
  refine lv_iconst (v := 0) hx hb dX12_wordOf_2 (by decide) ?_
  refine lv_iconst (v := 0) hx hb dX12_wordOf_3 (by decide) ?_
  refine lv_bipush (v := 19) hx hb dX12_wordOf_4 (by decide) ?_
  refine lv_bipush (v := 20) hx hb dX12_wordOf_6 (by decide) ?_
  refine lv_iconst (v := 5) hx hb dX12_wordOf_8 (by decide) ?_
  refine lv_bipush (v := 16) hx hb dX12_wordOf_9 (by decide) ?_
  refine lv_bipush (v := 19) hx hb dX12_wordOf_11 (by decide) ?_
  refine m_cl (m_runS E hM hS cs_X12_88 (c_X12_eight  hw) rfl rfl ⟨Nat.le_of_ble_eq_true rfl, Nat.le_of_ble_eq_true rfl⟩ rfl hl.1 rfl (Nat.le_of_ble_eq_true rfl) dX12_wordOf_13 ⟨Nat.le_of_ble_eq_true rfl, Nat.le_of_ble_eq_true rfl⟩) hS (fun r1 u H locs hp hM hS => ?_)
  obtain ⟨rfl, hw⟩ := hp
  refine W.lcmp hx hb dX12_wordOf_16 ?_
  refine lv_if_ne (tgt := 22) hx hb dX12_wordOf_17 (by decide) (fun cq => ?_) (fun cq => ?_)
  · have hw := hw.1 cq
    refine lv_lload_n hx hb dX12_wordOf_22 rfl (lv_at hl 0 rfl) ?_
    refine lv_bipush (v := 11) hx hb dX12_wordOf_23 (by decide) ?_
    refine lv_iconst (v := 5) hx hb dX12_wordOf_25 (by decide) ?_
    refine lv_iconst (v := 5) hx hb dX12_wordOf_26 (by decide) ?_
    refine lv_bipush (v := 16) hx hb dX12_wordOf_27 (by decide) ?_
    refine m_cl (m_runS E hM hS cs_X12_82 (c_X12_four  hw) rfl rfl ⟨Nat.le_of_ble_eq_true rfl, Nat.le_of_ble_eq_true rfl⟩ rfl hl.1 rfl (Nat.le_of_ble_eq_true rfl) dX12_wordOf_29 ⟨Nat.le_of_ble_eq_true rfl, Nat.le_of_ble_eq_true rfl⟩) hS (fun r2 u H locs hp hM hS => ?_)
    obtain ⟨rfl, hw⟩ := hp
    refine W.lcmp hx hb dX12_wordOf_32 ?_
    refine lv_if_ne (tgt := 38) hx hb dX12_wordOf_33 (by decide) (fun cq => ?_) (fun cq => ?_)
    · have hw := hw.1 cq
      refine lv_lload_n hx hb dX12_wordOf_38 rfl (lv_at hl 0 rfl) ?_
      refine lv_iconst (v := 0) hx hb dX12_wordOf_39 (by decide) ?_
      refine lv_iconst (v := 0) hx hb dX12_wordOf_40 (by decide) ?_
      refine lv_iconst (v := 3) hx hb dX12_wordOf_41 (by decide) ?_
      refine lv_iconst (v := 1) hx hb dX12_wordOf_42 (by decide) ?_
      refine lv_bipush (v := 18) hx hb dX12_wordOf_43 (by decide) ?_
      refine lv_bipush (v := 16) hx hb dX12_wordOf_45 (by decide) ?_
      refine lv_iconst (v := 5) hx hb dX12_wordOf_47 (by decide) ?_
      refine lv_bipush (v := 20) hx hb dX12_wordOf_48 (by decide) ?_
      refine m_cl (m_runS E hM hS cs_X12_88 (c_X12_eight  hw) rfl rfl ⟨Nat.le_of_ble_eq_true rfl, Nat.le_of_ble_eq_true rfl⟩ rfl hl.1 rfl (Nat.le_of_ble_eq_true rfl) dX12_wordOf_50 ⟨Nat.le_of_ble_eq_true rfl, Nat.le_of_ble_eq_true rfl⟩) hS (fun r3 u H locs hp hM hS => ?_)
      obtain ⟨rfl, hw⟩ := hp
      refine W.lcmp hx hb dX12_wordOf_53 ?_
      refine lv_if_ne (tgt := 59) hx hb dX12_wordOf_54 (by decide) (fun cq => ?_) (fun cq => ?_)
      · have hw := hw.1 cq
        refine lv_lload_n hx hb dX12_wordOf_59 rfl (lv_at hl 0 rfl) ?_
        refine lv_bipush (v := 6) hx hb dX12_wordOf_60 (by decide) ?_
        refine lv_bipush (v := 12) hx hb dX12_wordOf_62 (by decide) ?_
        refine lv_iconst (v := 1) hx hb dX12_wordOf_64 (by decide) ?_
        refine lv_bipush (v := 20) hx hb dX12_wordOf_65 (by decide) ?_
        refine m_cl (m_runS E hM hS cs_X12_82 (c_X12_four  hw) rfl rfl ⟨Nat.le_of_ble_eq_true rfl, Nat.le_of_ble_eq_true rfl⟩ rfl hl.1 rfl (Nat.le_of_ble_eq_true rfl) dX12_wordOf_67 ⟨Nat.le_of_ble_eq_true rfl, Nat.le_of_ble_eq_true rfl⟩) hS (fun r4 u H locs hp hM hS => ?_)
        obtain ⟨rfl, hw⟩ := hp
        refine W.lcmp hx hb dX12_wordOf_70 ?_
        refine lv_if_ne (tgt := 76) hx hb dX12_wordOf_71 (by decide) (fun cq => ?_) (fun cq => ?_)
        · have hw := hw.1 cq
          refine lv_lload_n hx hb dX12_wordOf_76 rfl (lv_at hl 0 rfl) ?_
          refine lv_iconst (v := 0) hx hb dX12_wordOf_77 (by decide) ?_
          refine lv_iconst (v := 0) hx hb dX12_wordOf_78 (by decide) ?_
          refine lv_bipush (v := 16) hx hb dX12_wordOf_79 (by decide) ?_
          refine lv_iconst (v := 5) hx hb dX12_wordOf_81 (by decide) ?_
          refine lv_bipush (v := 18) hx hb dX12_wordOf_82 (by decide) ?_
          refine lv_bipush (v := 19) hx hb dX12_wordOf_84 (by decide) ?_
          refine lv_bipush (v := 15) hx hb dX12_wordOf_86 (by decide) ?_
          refine lv_bipush (v := 14) hx hb dX12_wordOf_88 (by decide) ?_
          refine m_cl (m_runS E hM hS cs_X12_88 (c_X12_eight  hw) rfl rfl ⟨Nat.le_of_ble_eq_true rfl, Nat.le_of_ble_eq_true rfl⟩ rfl hl.1 rfl (Nat.le_of_ble_eq_true rfl) dX12_wordOf_90 ⟨Nat.le_of_ble_eq_true rfl, Nat.le_of_ble_eq_true rfl⟩) hS (fun r5 u H locs hp hM hS => ?_)
          obtain ⟨rfl, hw⟩ := hp
          refine W.lcmp hx hb dX12_wordOf_93 ?_
          refine lv_if_ne (tgt := 99) hx hb dX12_wordOf_94 (by decide) (fun cq => ?_) (fun cq => ?_)
          · have hw := hw.1 cq
            refine lv_lload_n hx hb dX12_wordOf_99 rfl (lv_at hl 0 rfl) ?_
            refine lv_bipush (v := 23) hx hb dX12_wordOf_100 (by decide) ?_
            refine lv_iconst (v := 1) hx hb dX12_wordOf_102 (by decide) ?_
            refine lv_bipush (v := 12) hx hb dX12_wordOf_103 (by decide) ?_
            refine lv_bipush (v := 11) hx hb dX12_wordOf_105 (by decide) ?_
            refine m_cl (m_runS E hM hS cs_X12_82 (c_X12_four  hw) rfl rfl ⟨Nat.le_of_ble_eq_true rfl, Nat.le_of_ble_eq_true rfl⟩ rfl hl.1 rfl (Nat.le_of_ble_eq_true rfl) dX12_wordOf_107 ⟨Nat.le_of_ble_eq_true rfl, Nat.le_of_ble_eq_true rfl⟩) hS (fun r6 u H locs hp hM hS => ?_)
            obtain ⟨rfl, hw⟩ := hp
            refine W.lcmp hx hb dX12_wordOf_110 ?_
            refine lv_if_ne (tgt := 117) hx hb dX12_wordOf_111 (by decide) (fun cq => ?_) (fun cq => ?_)
            · have hw := hw.1 cq
              refine lv_lload_n hx hb dX12_wordOf_117 rfl (lv_at hl 0 rfl) ?_
              refine lv_iconst (v := 0) hx hb dX12_wordOf_118 (by decide) ?_
              refine lv_iconst (v := 0) hx hb dX12_wordOf_119 (by decide) ?_
              refine lv_iconst (v := 3) hx hb dX12_wordOf_120 (by decide) ?_
              refine lv_bipush (v := 8) hx hb dX12_wordOf_121 (by decide) ?_
              refine lv_iconst (v := 1) hx hb dX12_wordOf_123 (by decide) ?_
              refine lv_bipush (v := 14) hx hb dX12_wordOf_124 (by decide) ?_
              refine lv_bipush (v := 7) hx hb dX12_wordOf_126 (by decide) ?_
              refine lv_iconst (v := 5) hx hb dX12_wordOf_128 (by decide) ?_
              refine m_cl (m_runS E hM hS cs_X12_88 (c_X12_eight  hw) rfl rfl ⟨Nat.le_of_ble_eq_true rfl, Nat.le_of_ble_eq_true rfl⟩ rfl hl.1 rfl (Nat.le_of_ble_eq_true rfl) dX12_wordOf_129 ⟨Nat.le_of_ble_eq_true rfl, Nat.le_of_ble_eq_true rfl⟩) hS (fun r7 u H locs hp hM hS => ?_)
              obtain ⟨rfl, hw⟩ := hp
              refine W.lcmp hx hb dX12_wordOf_132 ?_
              refine lv_if_ne (tgt := 139) hx hb dX12_wordOf_133 (by decide) (fun cq => ?_) (fun cq => ?_)
              · have hw := hw.1 cq
                refine lv_lload_n hx hb dX12_wordOf_139 rfl (lv_at hl 0 rfl) ?_
                refine lv_iconst (v := 0) hx hb dX12_wordOf_140 (by decide) ?_
                refine lv_iconst (v := 0) hx hb dX12_wordOf_141 (by decide) ?_
                refine lv_iconst (v := 0) hx hb dX12_wordOf_142 (by decide) ?_
                refine lv_bipush (v := 8) hx hb dX12_wordOf_143 (by decide) ?_
                refine lv_iconst (v := 5) hx hb dX12_wordOf_145 (by decide) ?_
                refine lv_iconst (v := 1) hx hb dX12_wordOf_146 (by decide) ?_
                refine lv_bipush (v := 18) hx hb dX12_wordOf_147 (by decide) ?_
                refine lv_iconst (v := 4) hx hb dX12_wordOf_149 (by decide) ?_
                refine m_cl (m_runS E hM hS cs_X12_88 (c_X12_eight  hw) rfl rfl ⟨Nat.le_of_ble_eq_true rfl, Nat.le_of_ble_eq_true rfl⟩ rfl hl.1 rfl (Nat.le_of_ble_eq_true rfl) dX12_wordOf_150 ⟨Nat.le_of_ble_eq_true rfl, Nat.le_of_ble_eq_true rfl⟩) hS (fun r8 u H locs hp hM hS => ?_)
                obtain ⟨rfl, hw⟩ := hp
                refine W.lcmp hx hb dX12_wordOf_153 ?_
                refine lv_if_ne (tgt := 162) hx hb dX12_wordOf_154 (by decide) (fun cq => ?_) (fun cq => ?_)
                · have hw := hw.1 cq
                  refine lv_bipush (v := 99) hx hb dX12_wordOf_162 (by decide) ?_
                  exact m_reti hx hb hr hlk hM hS ⟨rfl, hw⟩ dX12_wordOf_164
                · have hw := hw.2 cq
                  refine lv_bipush (v := 8) hx hb dX12_wordOf_157 (by decide) ?_
                  refine lv_goto (tgt := 164) hx hb dX12_wordOf_159 (by decide) ?_
                  exact m_reti hx hb hr hlk hM hS ⟨rfl, hw⟩ dX12_wordOf_164
              · have hw := hw.2 cq
                refine lv_bipush (v := 7) hx hb dX12_wordOf_136 (by decide) ?_
                exact m_reti hx hb hr hlk hM hS ⟨rfl, hw⟩ dX12_wordOf_138
            · have hw := hw.2 cq
              refine lv_bipush (v := 6) hx hb dX12_wordOf_114 (by decide) ?_
              exact m_reti hx hb hr hlk hM hS ⟨rfl, hw⟩ dX12_wordOf_116
          · have hw := hw.2 cq
            refine lv_iconst (v := 5) hx hb dX12_wordOf_97 (by decide) ?_
            exact m_reti hx hb hr hlk hM hS ⟨rfl, hw⟩ dX12_wordOf_98
        · have hw := hw.2 cq
          refine lv_iconst (v := 4) hx hb dX12_wordOf_74 (by decide) ?_
          exact m_reti hx hb hr hlk hM hS ⟨rfl, hw⟩ dX12_wordOf_75
      · have hw := hw.2 cq
        refine lv_iconst (v := 3) hx hb dX12_wordOf_57 (by decide) ?_
        exact m_reti hx hb hr hlk hM hS ⟨rfl, hw⟩ dX12_wordOf_58
    · have hw := hw.2 cq
      refine lv_iconst (v := 2) hx hb dX12_wordOf_36 (by decide) ?_
      exact m_reti hx hb hr hlk hM hS ⟨rfl, hw⟩ dX12_wordOf_37
  · have hw := hw.2 cq
    refine lv_iconst (v := 1) hx hb dX12_wordOf_20 (by decide) ?_
    exact m_reti hx hb hr hlk hM hS ⟨rfl, hw⟩ dX12_wordOf_21
theorem dX12_advance_0 : decode cX12_advance 0 = .ok (.aload_n 0, 1) := by decide +kernel
theorem dX12_advance_1 : decode cX12_advance 1 = .ok (.aload_n 0, 1) := by decide +kernel
theorem dX12_advance_2 : decode cX12_advance 2 = .ok (.getfield 92, 3) := by decide +kernel
theorem dX12_advance_5 : decode cX12_advance 5 = .ok (.invokevirtual 95, 3) := by decide +kernel
theorem dX12_advance_8 : decode cX12_advance 8 = .ok (.bipush 10, 2) := by decide +kernel
theorem dX12_advance_10 : decode cX12_advance 10 = .ok (.if_icmp .eq 16, 3) := by decide +kernel
theorem dX12_advance_13 : decode cX12_advance 13 = .ok (.aload_n 0, 1) := by decide +kernel
theorem dX12_advance_14 : decode cX12_advance 14 = .ok (.aload_n 0, 1) := by decide +kernel
theorem dX12_advance_15 : decode cX12_advance 15 = .ok (.getfield 92, 3) := by decide +kernel
theorem dX12_advance_18 : decode cX12_advance 18 = .ok (.invokevirtual 95, 3) := by decide +kernel
theorem dX12_advance_21 : decode cX12_advance 21 = .ok (.bipush 32, 2) := by decide +kernel
theorem dX12_advance_23 : decode cX12_advance 23 = .ok (.if_icmp .ne 16, 3) := by decide +kernel
theorem dX12_advance_26 : decode cX12_advance 26 = .ok (.aload_n 0, 1) := by decide +kernel
theorem dX12_advance_27 : decode cX12_advance 27 = .ok (.dup, 1) := by decide +kernel
theorem dX12_advance_28 : decode cX12_advance 28 = .ok (.getfield 92, 3) := by decide +kernel
theorem dX12_advance_31 : decode cX12_advance 31 = .ok (.iconst 1, 1) := by decide +kernel
theorem dX12_advance_32 : decode cX12_advance 32 = .ok (.iadd, 1) := by decide +kernel
theorem dX12_advance_33 : decode cX12_advance 33 = .ok (.putfield 92, 3) := by decide +kernel
theorem dX12_advance_36 : decode cX12_advance 36 = .ok (.goto (-36), 3) := by decide +kernel
theorem dX12_advance_39 : decode cX12_advance 39 = .ok (.aload_n 0, 1) := by decide +kernel
theorem dX12_advance_40 : decode cX12_advance 40 = .ok (.aload_n 0, 1) := by decide +kernel
theorem dX12_advance_41 : decode cX12_advance 41 = .ok (.getfield 92, 3) := by decide +kernel
theorem dX12_advance_44 : decode cX12_advance 44 = .ok (.putfield 99, 3) := by decide +kernel
theorem dX12_advance_47 : decode cX12_advance 47 = .ok (.aload_n 0, 1) := by decide +kernel
theorem dX12_advance_48 : decode cX12_advance 48 = .ok (.aload_n 0, 1) := by decide +kernel
theorem dX12_advance_49 : decode cX12_advance 49 = .ok (.getfield 92, 3) := by decide +kernel
theorem dX12_advance_52 : decode cX12_advance 52 = .ok (.invokevirtual 95, 3) := by decide +kernel
theorem dX12_advance_55 : decode cX12_advance 55 = .ok (.istore_n 1, 1) := by decide +kernel
theorem dX12_advance_56 : decode cX12_advance 56 = .ok (.iload_n 1, 1) := by decide +kernel
theorem dX12_advance_57 : decode cX12_advance 57 = .ok (.ifCond .ge 11, 3) := by decide +kernel
theorem dX12_advance_60 : decode cX12_advance 60 = .ok (.aload_n 0, 1) := by decide +kernel
theorem dX12_advance_61 : decode cX12_advance 61 = .ok (.iconst 0, 1) := by decide +kernel
theorem dX12_advance_62 : decode cX12_advance 62 = .ok (.putfield 102, 3) := by decide +kernel
theorem dX12_advance_65 : decode cX12_advance 65 = .ok (.goto 256, 3) := by decide +kernel
theorem dX12_advance_68 : decode cX12_advance 68 = .ok (.iload_n 1, 1) := by decide +kernel
theorem dX12_advance_69 : decode cX12_advance 69 = .ok (.invokestatic 105, 3) := by decide +kernel
theorem dX12_advance_72 : decode cX12_advance 72 = .ok (.ifCond .eq 114, 3) := by decide +kernel
theorem dX12_advance_75 : decode cX12_advance 75 = .ok (.lconst 0, 1) := by decide +kernel
theorem dX12_advance_76 : decode cX12_advance 76 = .ok (.lstore_n 2, 1) := by decide +kernel
theorem dX12_advance_77 : decode cX12_advance 77 = .ok (.aload_n 0, 1) := by decide +kernel
theorem dX12_advance_78 : decode cX12_advance 78 = .ok (.aload_n 0, 1) := by decide +kernel
theorem dX12_advance_79 : decode cX12_advance 79 = .ok (.getfield 92, 3) := by decide +kernel
theorem dX12_advance_82 : decode cX12_advance 82 = .ok (.invokevirtual 95, 3) := by decide +kernel
theorem dX12_advance_85 : decode cX12_advance 85 = .ok (.invokestatic 105, 3) := by decide +kernel
theorem dX12_advance_88 : decode cX12_advance 88 = .ok (.ifCond .eq 50, 3) := by decide +kernel
theorem dX12_advance_91 : decode cX12_advance 91 = .ok (.aload_n 0, 1) := by decide +kernel
theorem dX12_advance_92 : decode cX12_advance 92 = .ok (.getfield 92, 3) := by decide +kernel
theorem dX12_advance_95 : decode cX12_advance 95 = .ok (.aload_n 0, 1) := by decide +kernel
theorem dX12_advance_96 : decode cX12_advance 96 = .ok (.getfield 99, 3) := by decide +kernel
theorem dX12_advance_99 : decode cX12_advance 99 = .ok (.isub, 1) := by decide +kernel
theorem dX12_advance_100 : decode cX12_advance 100 = .ok (.bipush 8, 2) := by decide +kernel
theorem dX12_advance_102 : decode cX12_advance 102 = .ok (.if_icmp .ge 23, 3) := by decide +kernel
theorem dX12_advance_105 : decode cX12_advance 105 = .ok (.ldc2_w 109, 3) := by decide +kernel
theorem dX12_advance_108 : decode cX12_advance 108 = .ok (.lload_n 2, 1) := by decide +kernel
theorem dX12_advance_109 : decode cX12_advance 109 = .ok (.lmul, 1) := by decide +kernel
theorem dX12_advance_110 : decode cX12_advance 110 = .ok (.aload_n 0, 1) := by decide +kernel
theorem dX12_advance_111 : decode cX12_advance 111 = .ok (.aload_n 0, 1) := by decide +kernel
theorem dX12_advance_112 : decode cX12_advance 112 = .ok (.getfield 92, 3) := by decide +kernel
theorem dX12_advance_115 : decode cX12_advance 115 = .ok (.invokevirtual 95, 3) := by decide +kernel
theorem dX12_advance_118 : decode cX12_advance 118 = .ok (.i2l, 1) := by decide +kernel
theorem dX12_advance_119 : decode cX12_advance 119 = .ok (.ladd, 1) := by decide +kernel
theorem dX12_advance_120 : decode cX12_advance 120 = .ok (.ldc2_w 111, 3) := by decide +kernel
theorem dX12_advance_123 : decode cX12_advance 123 = .ok (.lsub, 1) := by decide +kernel
theorem dX12_advance_124 : decode cX12_advance 124 = .ok (.lstore_n 2, 1) := by decide +kernel
theorem dX12_advance_125 : decode cX12_advance 125 = .ok (.aload_n 0, 1) := by decide +kernel
theorem dX12_advance_126 : decode cX12_advance 126 = .ok (.dup, 1) := by decide +kernel
theorem dX12_advance_127 : decode cX12_advance 127 = .ok (.getfield 92, 3) := by decide +kernel
theorem dX12_advance_130 : decode cX12_advance 130 = .ok (.iconst 1, 1) := by decide +kernel
theorem dX12_advance_131 : decode cX12_advance 131 = .ok (.iadd, 1) := by decide +kernel
theorem dX12_advance_132 : decode cX12_advance 132 = .ok (.putfield 92, 3) := by decide +kernel
theorem dX12_advance_135 : decode cX12_advance 135 = .ok (.goto (-58), 3) := by decide +kernel
theorem dX12_advance_138 : decode cX12_advance 138 = .ok (.aload_n 0, 1) := by decide +kernel
theorem dX12_advance_139 : decode cX12_advance 139 = .ok (.aload_n 0, 1) := by decide +kernel
theorem dX12_advance_140 : decode cX12_advance 140 = .ok (.getfield 92, 3) := by decide +kernel
theorem dX12_advance_143 : decode cX12_advance 143 = .ok (.aload_n 0, 1) := by decide +kernel
theorem dX12_advance_144 : decode cX12_advance 144 = .ok (.getfield 99, 3) := by decide +kernel
theorem dX12_advance_147 : decode cX12_advance 147 = .ok (.isub, 1) := by decide +kernel
theorem dX12_advance_148 : decode cX12_advance 148 = .ok (.bipush 8, 2) := by decide +kernel
theorem dX12_advance_150 : decode cX12_advance 150 = .ok (.if_icmp .le 8, 3) := by decide +kernel
theorem dX12_advance_153 : decode cX12_advance 153 = .ok (.bipush 99, 2) := by decide +kernel
theorem dX12_advance_155 : decode cX12_advance 155 = .ok (.goto 7, 3) := by decide +kernel
theorem dX12_advance_158 : decode cX12_advance 158 = .ok (.lload_n 2, 1) := by decide +kernel
theorem dX12_advance_159 : decode cX12_advance 159 = .ok (.invokestatic 113, 3) := by decide +kernel
theorem dX12_advance_162 : decode cX12_advance 162 = .ok (.putfield 117, 3) := by decide +kernel
theorem dX12_advance_165 : decode cX12_advance 165 = .ok (.aload_n 0, 1) := by decide +kernel
theorem dX12_advance_166 : decode cX12_advance 166 = .ok (.aload_n 0, 1) := by decide +kernel
theorem dX12_advance_167 : decode cX12_advance 167 = .ok (.getfield 117, 3) := by decide +kernel
theorem dX12_advance_170 : decode cX12_advance 170 = .ok (.bipush 99, 2) := by decide +kernel
theorem dX12_advance_172 : decode cX12_advance 172 = .ok (.if_icmp .ne 7, 3) := by decide +kernel
theorem dX12_advance_175 : decode cX12_advance 175 = .ok (.iconst 4, 1) := by decide +kernel
theorem dX12_advance_176 : decode cX12_advance 176 = .ok (.goto 4, 3) := by decide +kernel
theorem dX12_advance_179 : decode cX12_advance 179 = .ok (.iconst 3, 1) := by decide +kernel
theorem dX12_advance_180 : decode cX12_advance 180 = .ok (.putfield 102, 3) := by decide +kernel
theorem dX12_advance_183 : decode cX12_advance 183 = .ok (.goto 138, 3) := by decide +kernel
theorem dX12_advance_186 : decode cX12_advance 186 = .ok (.iload_n 1, 1) := by decide +kernel
theorem dX12_advance_187 : decode cX12_advance 187 = .ok (.invokestatic 120, 3) := by decide +kernel
theorem dX12_advance_190 : decode cX12_advance 190 = .ok (.ifCond .eq 96, 3) := by decide +kernel
theorem dX12_advance_193 : decode cX12_advance 193 = .ok (.aload_n 0, 1) := by decide +kernel
theorem dX12_advance_194 : decode cX12_advance 194 = .ok (.iconst 0, 1) := by decide +kernel
theorem dX12_advance_195 : decode cX12_advance 195 = .ok (.putfield 123, 3) := by decide +kernel
theorem dX12_advance_198 : decode cX12_advance 198 = .ok (.aload_n 0, 1) := by decide +kernel
theorem dX12_advance_199 : decode cX12_advance 199 = .ok (.aload_n 0, 1) := by decide +kernel
theorem dX12_advance_200 : decode cX12_advance 200 = .ok (.getfield 92, 3) := by decide +kernel
theorem dX12_advance_203 : decode cX12_advance 203 = .ok (.invokevirtual 95, 3) := by decide +kernel
theorem dX12_advance_206 : decode cX12_advance 206 = .ok (.invokestatic 120, 3) := by decide +kernel
theorem dX12_advance_209 : decode cX12_advance 209 = .ok (.ifCond .eq 52, 3) := by decide +kernel
theorem dX12_advance_212 : decode cX12_advance 212 = .ok (.aload_n 0, 1) := by decide +kernel
theorem dX12_advance_213 : decode cX12_advance 213 = .ok (.getfield 92, 3) := by decide +kernel
theorem dX12_advance_216 : decode cX12_advance 216 = .ok (.aload_n 0, 1) := by decide +kernel
theorem dX12_advance_217 : decode cX12_advance 217 = .ok (.getfield 99, 3) := by decide +kernel
theorem dX12_advance_220 : decode cX12_advance 220 = .ok (.isub, 1) := by decide +kernel
theorem dX12_advance_221 : decode cX12_advance 221 = .ok (.iconst 2, 1) := by decide +kernel
theorem dX12_advance_222 : decode cX12_advance 222 = .ok (.if_icmp .ge 26, 3) := by decide +kernel
theorem dX12_advance_225 : decode cX12_advance 225 = .ok (.aload_n 0, 1) := by decide +kernel
theorem dX12_advance_226 : decode cX12_advance 226 = .ok (.bipush 10, 2) := by decide +kernel
theorem dX12_advance_228 : decode cX12_advance 228 = .ok (.aload_n 0, 1) := by decide +kernel
theorem dX12_advance_229 : decode cX12_advance 229 = .ok (.getfield 123, 3) := by decide +kernel
theorem dX12_advance_232 : decode cX12_advance 232 = .ok (.imul, 1) := by decide +kernel
theorem dX12_advance_233 : decode cX12_advance 233 = .ok (.aload_n 0, 1) := by decide +kernel
theorem dX12_advance_234 : decode cX12_advance 234 = .ok (.aload_n 0, 1) := by decide +kernel
theorem dX12_advance_235 : decode cX12_advance 235 = .ok (.getfield 92, 3) := by decide +kernel
theorem dX12_advance_238 : decode cX12_advance 238 = .ok (.invokevirtual 95, 3) := by decide +kernel
theorem dX12_advance_241 : decode cX12_advance 241 = .ok (.iadd, 1) := by decide +kernel
theorem dX12_advance_242 : decode cX12_advance 242 = .ok (.bipush 48, 2) := by decide +kernel
theorem dX12_advance_244 : decode cX12_advance 244 = .ok (.isub, 1) := by decide +kernel
theorem dX12_advance_245 : decode cX12_advance 245 = .ok (.putfield 123, 3) := by decide +kernel
theorem dX12_advance_248 : decode cX12_advance 248 = .ok (.aload_n 0, 1) := by decide +kernel
theorem dX12_advance_249 : decode cX12_advance 249 = .ok (.dup, 1) := by decide +kernel
theorem dX12_advance_250 : decode cX12_advance 250 = .ok (.getfield 92, 3) := by decide +kernel
theorem dX12_advance_253 : decode cX12_advance 253 = .ok (.iconst 1, 1) := by decide +kernel
theorem dX12_advance_254 : decode cX12_advance 254 = .ok (.iadd, 1) := by decide +kernel
theorem dX12_advance_255 : decode cX12_advance 255 = .ok (.putfield 92, 3) := by decide +kernel
theorem dX12_advance_258 : decode cX12_advance 258 = .ok (.goto (-60), 3) := by decide +kernel
theorem dX12_advance_261 : decode cX12_advance 261 = .ok (.aload_n 0, 1) := by decide +kernel
theorem dX12_advance_262 : decode cX12_advance 262 = .ok (.aload_n 0, 1) := by decide +kernel
theorem dX12_advance_263 : decode cX12_advance 263 = .ok (.getfield 92, 3) := by decide +kernel
theorem dX12_advance_266 : decode cX12_advance 266 = .ok (.aload_n 0, 1) := by decide +kernel
theorem dX12_advance_267 : decode cX12_advance 267 = .ok (.getfield 99, 3) := by decide +kernel
theorem dX12_advance_270 : decode cX12_advance 270 = .ok (.isub, 1) := by decide +kernel
theorem dX12_advance_271 : decode cX12_advance 271 = .ok (.iconst 2, 1) := by decide +kernel
theorem dX12_advance_272 : decode cX12_advance 272 = .ok (.if_icmp .le 7, 3) := by decide +kernel
theorem dX12_advance_275 : decode cX12_advance 275 = .ok (.iconst 4, 1) := by decide +kernel
theorem dX12_advance_276 : decode cX12_advance 276 = .ok (.goto 4, 3) := by decide +kernel
theorem dX12_advance_279 : decode cX12_advance 279 = .ok (.iconst 1, 1) := by decide +kernel
theorem dX12_advance_280 : decode cX12_advance 280 = .ok (.putfield 102, 3) := by decide +kernel
theorem dX12_advance_283 : decode cX12_advance 283 = .ok (.goto 38, 3) := by decide +kernel
theorem dX12_advance_286 : decode cX12_advance 286 = .ok (.aload_n 0, 1) := by decide +kernel
theorem dX12_advance_287 : decode cX12_advance 287 = .ok (.dup, 1) := by decide +kernel
theorem dX12_advance_288 : decode cX12_advance 288 = .ok (.getfield 92, 3) := by decide +kernel
theorem dX12_advance_291 : decode cX12_advance 291 = .ok (.iconst 1, 1) := by decide +kernel
theorem dX12_advance_292 : decode cX12_advance 292 = .ok (.iadd, 1) := by decide +kernel
theorem dX12_advance_293 : decode cX12_advance 293 = .ok (.putfield 92, 3) := by decide +kernel
theorem dX12_advance_296 : decode cX12_advance 296 = .ok (.aload_n 0, 1) := by decide +kernel
theorem dX12_advance_297 : decode cX12_advance 297 = .ok (.iload_n 1, 1) := by decide +kernel
theorem dX12_advance_298 : decode cX12_advance 298 = .ok (.bipush 59, 2) := by decide +kernel
theorem dX12_advance_300 : decode cX12_advance 300 = .ok (.if_icmp .ne 7, 3) := by decide +kernel
theorem dX12_advance_303 : decode cX12_advance 303 = .ok (.iconst 2, 1) := by decide +kernel
theorem dX12_advance_304 : decode cX12_advance 304 = .ok (.goto 14, 3) := by decide +kernel
theorem dX12_advance_307 : decode cX12_advance 307 = .ok (.iload_n 1, 1) := by decide +kernel
theorem dX12_advance_308 : decode cX12_advance 308 = .ok (.bipush 45, 2) := by decide +kernel
theorem dX12_advance_310 : decode cX12_advance 310 = .ok (.if_icmp .ne 7, 3) := by decide +kernel
theorem dX12_advance_313 : decode cX12_advance 313 = .ok (.iconst 5, 1) := by decide +kernel
theorem dX12_advance_314 : decode cX12_advance 314 = .ok (.goto 4, 3) := by decide +kernel
theorem dX12_advance_317 : decode cX12_advance 317 = .ok (.iconst 4, 1) := by decide +kernel
theorem dX12_advance_318 : decode cX12_advance 318 = .ok (.putfield 102, 3) := by decide +kernel
theorem dX12_advance_321 : decode cX12_advance 321 = .ok (.return_, 1) := by decide +kernel
def w_X12_advance_26 (o : Nat) (post : mI → Prop) (k0 : mI → Prop) (I : mI) : Prop := ∀ I26, I26 = up2 I o 3 ((I o 3) + 1) → k0 I26
set_option maxRecDepth 100000 in
set_option maxHeartbeats 4000000 in
theorem s_X12_advance_26 {p : Program} {l : Launch} {e : Env} {s : State} {m : MethodId} {args : Array Value} {below : List Frame} {meth : Method} {c : Code} {D : va_G} {cA : Nat → ClassId} {Z : mZ} {bs : Ad} {n : Nat} {K : mK} {R : mR} {L : mL} (E : Ev p s m args c cX12_advance 4 RX12 D cA Z bs) (hr : meth.sig.returnType = none) (hlk : meth.locks = false) {o : Nat} (ho : isX12 K R o) {post : mI → Prop} {k0 : mI → Prop} (hk0 : ∀ (I : mI) (H : Heap) (locs : List Loc) (ls : Array Slot), k0 I → mm D cA bs (n, K, R, I, L) H → va_S (Ab bs) s.heap H locs → lv_has ls 4 [(0, .ref (ad bs o))] → W p l e ({ frames := 3, cells := 0, slots := 0, locals := 71 } : Room) s m args below meth c H locs 0 0 (MQ below (QV D cA bs (fun u => ∃ I', u = (n, K, R, I', L) ∧ post I')) args s 0 0 (Ab bs)) (F0 m 0 ls [])) {I : mI} {H : Heap} {locs : List Loc} {ls : Array Slot} (hw : w_X12_advance_26 o post k0 I) (hM : mm D cA bs (n, K, R, I, L) H) (hS : va_S (Ab bs) s.heap H locs) (hl : lv_has ls 4 [(0, .ref (ad bs o))]) : W p l e ({ frames := 3, cells := 0, slots := 0, locals := 71 } : Room) s m args below meth c H locs 0 0 (MQ below (QV D cA bs (fun u => ∃ I', u = (n, K, R, I', L) ∧ post I')) args s 0 0 (Ab bs)) (F0 m 26 ls []) := by
  have hx := E.1.1
  have hb := E.1.2.1
  refine lv_aload_n hx hb dX12_advance_26 rfl (lv_at hl 0 rfl) ?_
  refine lv_dup hx hb dX12_advance_27 rfl ?_
  refine m_geti E hM fs_X12_92 ho.1 dX12_advance_28 ?_
  refine lv_iconst (v := 1) hx hb dX12_advance_31 (by decide) ?_
  refine lv_iadd hx hb dX12_advance_32 ?_
  refine m_puti E hM hS fp_X12_92 ho.1 rfl rfl dX12_advance_33 (fun I26 H locs eI26 hM hS => ?_)
  have hw := hw I26 eI26
  refine lv_goto (tgt := 0) hx hb dX12_advance_36 (by decide) ?_
  exact hk0 _ H locs ls  hw hM hS (lv_sub hl [0] rfl)
def w_X12_advance_0 (o : Nat) (post : mI → Prop) (k39 : mI → Prop) (I : mI) : Prop := ∀ ZZ : (mI → Prop), (∀ (I : mI), (w_X12_byteAt I o (I o 3) (fun r1 => (r1 = 10 → (w_X12_advance_26 o post ZZ) I) ∧ (¬ r1 = 10 → w_X12_byteAt I o (I o 3) (fun r2 => (¬ r2 = 32 → k39 I) ∧ (r2 = 32 → (w_X12_advance_26 o post ZZ) I))))) → ZZ I) → ZZ I
set_option maxRecDepth 100000 in
set_option maxHeartbeats 4000000 in
theorem s_X12_advance_0 {p : Program} {l : Launch} {e : Env} {s : State} {m : MethodId} {args : Array Value} {below : List Frame} {meth : Method} {c : Code} {D : va_G} {cA : Nat → ClassId} {Z : mZ} {bs : Ad} {n : Nat} {K : mK} {R : mR} {L : mL} (E : Ev p s m args c cX12_advance 4 RX12 D cA Z bs) (hr : meth.sig.returnType = none) (hlk : meth.locks = false) {o : Nat} (ho : isX12 K R o) {post : mI → Prop} {k39 : mI → Prop} (hk39 : ∀ (I : mI) (H : Heap) (locs : List Loc) (ls : Array Slot), k39 I → mm D cA bs (n, K, R, I, L) H → va_S (Ab bs) s.heap H locs → lv_has ls 4 [(0, .ref (ad bs o))] → W p l e ({ frames := 3, cells := 0, slots := 0, locals := 71 } : Room) s m args below meth c H locs 0 0 (MQ below (QV D cA bs (fun u => ∃ I', u = (n, K, R, I', L) ∧ post I')) args s 0 0 (Ab bs)) (F0 m 39 ls [])) {I : mI} {H : Heap} {locs : List Loc} {ls : Array Slot} (hw : w_X12_advance_0 o post k39 I) (hM : mm D cA bs (n, K, R, I, L) H) (hS : va_S (Ab bs) s.heap H locs) (hl : lv_has ls 4 [(0, .ref (ad bs o))]) : W p l e ({ frames := 3, cells := 0, slots := 0, locals := 71 } : Room) s m args below meth c H locs 0 0 (MQ below (QV D cA bs (fun u => ∃ I', u = (n, K, R, I', L) ∧ post I')) args s 0 0 (Ab bs)) (F0 m 0 ls []) := by
  have hx := E.1.1
  have hb := E.1.2.1
  refine hw (fun I => ∀ (H : Heap) (locs : List Loc) (ls : Array Slot), mm D cA bs (n, K, R, I, L) H → va_S (Ab bs) s.heap H locs → lv_has ls 4 [(0, .ref (ad bs o))] → W p l e ({ frames := 3, cells := 0, slots := 0, locals := 71 } : Room) s m args below meth c H locs 0 0 (MQ below (QV D cA bs (fun u => ∃ I', u = (n, K, R, I', L) ∧ post I')) args s 0 0 (Ab bs)) (F0 m 0 ls [])) ?_ H locs ls hM hS hl
  clear hw hM hS hl
  intro I hw H locs ls hM hS hl
  refine lv_aload_n hx hb dX12_advance_0 rfl (lv_at hl 0 rfl) ?_
  refine lv_aload_n hx hb dX12_advance_1 rfl (lv_at hl 0 rfl) ?_
  refine m_geti E hM fs_X12_92 ho.1 dX12_advance_2 ?_
  refine m_ci (m_runV E hM hS cs_X12_95 ho.1 (by decide) rfl rfl (c_X12_byteAt ho hw) rfl rfl ⟨Nat.le_of_ble_eq_true rfl, Nat.le_of_ble_eq_true rfl⟩ rfl hl.1 rfl (Nat.le_of_ble_eq_true rfl) dX12_advance_5 ⟨Nat.le_of_ble_eq_true rfl, Nat.le_of_ble_eq_true rfl⟩) hS (fun r1 u H locs hp hM hS => ?_)
  obtain ⟨rfl, hw⟩ := hp
  refine lv_bipush (v := 10) hx hb dX12_advance_8 (by decide) ?_
  refine lv_icmp_eq (tgt := 26) hx hb dX12_advance_10 (by decide) (fun cq => ?_) (fun cq => ?_)
  · have hw := hw.1 cq
    exact s_X12_advance_26 E hr hlk ho (fun I H locs ls  hw hM hS hl => hw H locs ls  hM hS hl)  hw hM hS (lv_sub hl [0] rfl)
  · have hw := hw.2 cq
    refine lv_aload_n hx hb dX12_advance_13 rfl (lv_at hl 0 rfl) ?_
    refine lv_aload_n hx hb dX12_advance_14 rfl (lv_at hl 0 rfl) ?_
    refine m_geti E hM fs_X12_92 ho.1 dX12_advance_15 ?_
    refine m_ci (m_runV E hM hS cs_X12_95 ho.1 (by decide) rfl rfl (c_X12_byteAt ho hw) rfl rfl ⟨Nat.le_of_ble_eq_true rfl, Nat.le_of_ble_eq_true rfl⟩ rfl hl.1 rfl (Nat.le_of_ble_eq_true rfl) dX12_advance_18 ⟨Nat.le_of_ble_eq_true rfl, Nat.le_of_ble_eq_true rfl⟩) hS (fun r2 u H locs hp hM hS => ?_)
    obtain ⟨rfl, hw⟩ := hp
    refine lv_bipush (v := 32) hx hb dX12_advance_21 (by decide) ?_
    refine lv_icmp_ne (tgt := 39) hx hb dX12_advance_23 (by decide) (fun cq => ?_) (fun cq => ?_)
    · have hw := hw.1 cq
      exact hk39 _ H locs ls  hw hM hS (lv_sub hl [0] rfl)
    · have hw := hw.2 cq
      exact s_X12_advance_26 E hr hlk ho (fun I H locs ls  hw hM hS hl => hw H locs ls  hM hS hl)  hw hM hS (lv_sub hl [0] rfl)
def w_X12_advance_318 (o : Nat) (post : mI → Prop) (I : mI) (s1 : Int32) : Prop := ∀ I25, I25 = up2 I o 5 s1 → post I25
set_option maxRecDepth 100000 in
set_option maxHeartbeats 4000000 in
theorem s_X12_advance_318 {p : Program} {l : Launch} {e : Env} {s : State} {m : MethodId} {args : Array Value} {below : List Frame} {meth : Method} {c : Code} {D : va_G} {cA : Nat → ClassId} {Z : mZ} {bs : Ad} {n : Nat} {K : mK} {R : mR} {L : mL} (E : Ev p s m args c cX12_advance 4 RX12 D cA Z bs) (hr : meth.sig.returnType = none) (hlk : meth.locks = false) {o : Nat} (ho : isX12 K R o) {post : mI → Prop} {I : mI} {s1 : Int32} {H : Heap} {locs : List Loc} {ls : Array Slot} (hw : w_X12_advance_318 o post I s1) (hM : mm D cA bs (n, K, R, I, L) H) (hS : va_S (Ab bs) s.heap H locs) (hl : lv_has ls 4 []) : W p l e ({ frames := 3, cells := 0, slots := 0, locals := 71 } : Room) s m args below meth c H locs 0 0 (MQ below (QV D cA bs (fun u => ∃ I', u = (n, K, R, I', L) ∧ post I')) args s 0 0 (Ab bs)) (F0 m 318 ls [.int s1, .ref (ad bs o)]) := by
  have hx := E.1.1
  have hb := E.1.2.1
  refine m_puti E hM hS fp_X12_102 ho.1 rfl rfl dX12_advance_318 (fun I25 H locs eI25 hM hS => ?_)
  have hw := hw I25 eI25
  exact m_retv hx hb hr hlk hM hS ⟨_, rfl, hw⟩ dX12_advance_321
def w_X12_advance_248 (o : Nat) (post : mI → Prop) (k198 : mI → Prop) (I : mI) : Prop := ∀ I23, I23 = up2 I o 3 ((I o 3) + 1) → k198 I23
set_option maxRecDepth 100000 in
set_option maxHeartbeats 4000000 in
theorem s_X12_advance_248 {p : Program} {l : Launch} {e : Env} {s : State} {m : MethodId} {args : Array Value} {below : List Frame} {meth : Method} {c : Code} {D : va_G} {cA : Nat → ClassId} {Z : mZ} {bs : Ad} {n : Nat} {K : mK} {R : mR} {L : mL} (E : Ev p s m args c cX12_advance 4 RX12 D cA Z bs) (hr : meth.sig.returnType = none) (hlk : meth.locks = false) {o : Nat} (ho : isX12 K R o) {post : mI → Prop} {k198 : mI → Prop} (hk198 : ∀ (I : mI) (H : Heap) (locs : List Loc) (ls : Array Slot), k198 I → mm D cA bs (n, K, R, I, L) H → va_S (Ab bs) s.heap H locs → lv_has ls 4 [(0, .ref (ad bs o))] → W p l e ({ frames := 3, cells := 0, slots := 0, locals := 71 } : Room) s m args below meth c H locs 0 0 (MQ below (QV D cA bs (fun u => ∃ I', u = (n, K, R, I', L) ∧ post I')) args s 0 0 (Ab bs)) (F0 m 198 ls [])) {I : mI} {H : Heap} {locs : List Loc} {ls : Array Slot} (hw : w_X12_advance_248 o post k198 I) (hM : mm D cA bs (n, K, R, I, L) H) (hS : va_S (Ab bs) s.heap H locs) (hl : lv_has ls 4 [(0, .ref (ad bs o))]) : W p l e ({ frames := 3, cells := 0, slots := 0, locals := 71 } : Room) s m args below meth c H locs 0 0 (MQ below (QV D cA bs (fun u => ∃ I', u = (n, K, R, I', L) ∧ post I')) args s 0 0 (Ab bs)) (F0 m 248 ls []) := by
  have hx := E.1.1
  have hb := E.1.2.1
  refine lv_aload_n hx hb dX12_advance_248 rfl (lv_at hl 0 rfl) ?_
  refine lv_dup hx hb dX12_advance_249 rfl ?_
  refine m_geti E hM fs_X12_92 ho.1 dX12_advance_250 ?_
  refine lv_iconst (v := 1) hx hb dX12_advance_253 (by decide) ?_
  refine lv_iadd hx hb dX12_advance_254 ?_
  refine m_puti E hM hS fp_X12_92 ho.1 rfl rfl dX12_advance_255 (fun I23 H locs eI23 hM hS => ?_)
  have hw := hw I23 eI23
  refine lv_goto (tgt := 198) hx hb dX12_advance_258 (by decide) ?_
  exact hk198 _ H locs ls  hw hM hS (lv_sub hl [0] rfl)
def w_X12_advance_198 (o : Nat) (post : mI → Prop) (k261 : mI → Prop) (I : mI) : Prop := ∀ ZZ : (mI → Prop), (∀ (I : mI), (w_X12_byteAt I o (I o 3) (fun r19 => w_X12_isDigit r19 (fun b20 => (b20 = false → k261 I) ∧ (b20 = true → (2 ≤ ((I o 3) - (I o 4)) → (w_X12_advance_248 o post ZZ) I) ∧ (¬ 2 ≤ ((I o 3) - (I o 4)) → w_X12_byteAt I o (I o 3) (fun r21 => ∀ I22, I22 = up2 I o 6 (((10 * (I o 6)) + r21) - 48) → (w_X12_advance_248 o post ZZ) I22)))))) → ZZ I) → ZZ I
set_option maxRecDepth 100000 in
set_option maxHeartbeats 4000000 in
theorem s_X12_advance_198 {p : Program} {l : Launch} {e : Env} {s : State} {m : MethodId} {args : Array Value} {below : List Frame} {meth : Method} {c : Code} {D : va_G} {cA : Nat → ClassId} {Z : mZ} {bs : Ad} {n : Nat} {K : mK} {R : mR} {L : mL} (E : Ev p s m args c cX12_advance 4 RX12 D cA Z bs) (hr : meth.sig.returnType = none) (hlk : meth.locks = false) {o : Nat} (ho : isX12 K R o) {post : mI → Prop} {k261 : mI → Prop} (hk261 : ∀ (I : mI) (H : Heap) (locs : List Loc) (ls : Array Slot), k261 I → mm D cA bs (n, K, R, I, L) H → va_S (Ab bs) s.heap H locs → lv_has ls 4 [(0, .ref (ad bs o))] → W p l e ({ frames := 3, cells := 0, slots := 0, locals := 71 } : Room) s m args below meth c H locs 0 0 (MQ below (QV D cA bs (fun u => ∃ I', u = (n, K, R, I', L) ∧ post I')) args s 0 0 (Ab bs)) (F0 m 261 ls [])) {I : mI} {H : Heap} {locs : List Loc} {ls : Array Slot} (hw : w_X12_advance_198 o post k261 I) (hM : mm D cA bs (n, K, R, I, L) H) (hS : va_S (Ab bs) s.heap H locs) (hl : lv_has ls 4 [(0, .ref (ad bs o))]) : W p l e ({ frames := 3, cells := 0, slots := 0, locals := 71 } : Room) s m args below meth c H locs 0 0 (MQ below (QV D cA bs (fun u => ∃ I', u = (n, K, R, I', L) ∧ post I')) args s 0 0 (Ab bs)) (F0 m 198 ls []) := by
  have hx := E.1.1
  have hb := E.1.2.1
  refine hw (fun I => ∀ (H : Heap) (locs : List Loc) (ls : Array Slot), mm D cA bs (n, K, R, I, L) H → va_S (Ab bs) s.heap H locs → lv_has ls 4 [(0, .ref (ad bs o))] → W p l e ({ frames := 3, cells := 0, slots := 0, locals := 71 } : Room) s m args below meth c H locs 0 0 (MQ below (QV D cA bs (fun u => ∃ I', u = (n, K, R, I', L) ∧ post I')) args s 0 0 (Ab bs)) (F0 m 198 ls [])) ?_ H locs ls hM hS hl
  clear hw hM hS hl
  intro I hw H locs ls hM hS hl
  refine lv_aload_n hx hb dX12_advance_198 rfl (lv_at hl 0 rfl) ?_
  refine lv_aload_n hx hb dX12_advance_199 rfl (lv_at hl 0 rfl) ?_
  refine m_geti E hM fs_X12_92 ho.1 dX12_advance_200 ?_
  refine m_ci (m_runV E hM hS cs_X12_95 ho.1 (by decide) rfl rfl (c_X12_byteAt ho hw) rfl rfl ⟨Nat.le_of_ble_eq_true rfl, Nat.le_of_ble_eq_true rfl⟩ rfl hl.1 rfl (Nat.le_of_ble_eq_true rfl) dX12_advance_203 ⟨Nat.le_of_ble_eq_true rfl, Nat.le_of_ble_eq_true rfl⟩) hS (fun r19 u H locs hp hM hS => ?_)
  obtain ⟨rfl, hw⟩ := hp
  refine m_ci (m_runS E hM hS cs_X12_120 (c_X12_isDigit  hw) rfl rfl ⟨Nat.le_of_ble_eq_true rfl, Nat.le_of_ble_eq_true rfl⟩ rfl hl.1 rfl (Nat.le_of_ble_eq_true rfl) dX12_advance_206 ⟨Nat.le_of_ble_eq_true rfl, Nat.le_of_ble_eq_true rfl⟩) hS (fun r9 u H locs hp hM hS => ?_)
  obtain ⟨b20, rfl, rfl, hw⟩ := hp
  refine lv_if_eq (tgt := 261) hx hb dX12_advance_209 (by decide) (fun cq => ?_) (fun cq => ?_)
  · have hw := hw.1 (bI_f cq)
    exact hk261 _ H locs ls  hw hM hS (lv_sub hl [0] rfl)
  · have hw := hw.2 (bI_t cq)
    refine lv_aload_n hx hb dX12_advance_212 rfl (lv_at hl 0 rfl) ?_
    refine m_geti E hM fs_X12_92 ho.1 dX12_advance_213 ?_
    refine lv_aload_n hx hb dX12_advance_216 rfl (lv_at hl 0 rfl) ?_
    refine m_geti E hM fs_X12_99 ho.1 dX12_advance_217 ?_
    refine lv_isub hx hb dX12_advance_220 ?_
    refine lv_iconst (v := 2) hx hb dX12_advance_221 (by decide) ?_
    refine lv_icmp_ge (tgt := 248) hx hb dX12_advance_222 (by decide) (fun cq => ?_) (fun cq => ?_)
    · have hw := hw.1 cq
      exact s_X12_advance_248 E hr hlk ho (fun I H locs ls  hw hM hS hl => hw H locs ls  hM hS hl)  hw hM hS (lv_sub hl [0] rfl)
    · have hw := hw.2 cq
      refine lv_aload_n hx hb dX12_advance_225 rfl (lv_at hl 0 rfl) ?_
      refine lv_bipush (v := 10) hx hb dX12_advance_226 (by decide) ?_
      refine lv_aload_n hx hb dX12_advance_228 rfl (lv_at hl 0 rfl) ?_
      refine m_geti E hM fs_X12_123 ho.1 dX12_advance_229 ?_
      refine lv_imul hx hb dX12_advance_232 ?_
      refine lv_aload_n hx hb dX12_advance_233 rfl (lv_at hl 0 rfl) ?_
      refine lv_aload_n hx hb dX12_advance_234 rfl (lv_at hl 0 rfl) ?_
      refine m_geti E hM fs_X12_92 ho.1 dX12_advance_235 ?_
      refine m_ci (m_runV E hM hS cs_X12_95 ho.1 (by decide) rfl rfl (c_X12_byteAt ho hw) rfl rfl ⟨Nat.le_of_ble_eq_true rfl, Nat.le_of_ble_eq_true rfl⟩ rfl hl.1 rfl (Nat.le_of_ble_eq_true rfl) dX12_advance_238 ⟨Nat.le_of_ble_eq_true rfl, Nat.le_of_ble_eq_true rfl⟩) hS (fun r21 u H locs hp hM hS => ?_)
      obtain ⟨rfl, hw⟩ := hp
      refine lv_iadd hx hb dX12_advance_241 ?_
      refine lv_bipush (v := 48) hx hb dX12_advance_242 (by decide) ?_
      refine lv_isub hx hb dX12_advance_244 ?_
      refine m_puti E hM hS fp_X12_123 ho.1 rfl rfl dX12_advance_245 (fun I22 H locs eI22 hM hS => ?_)
      have hw := hw I22 eI22
      exact s_X12_advance_248 E hr hlk ho (fun I H locs ls  hw hM hS hl => hw H locs ls  hM hS hl)  hw hM hS (lv_sub hl [0] rfl)
def w_X12_advance_280 (o : Nat) (post : mI → Prop) (I : mI) (s1 : Int32) : Prop := ∀ I24, I24 = up2 I o 5 s1 → post I24
set_option maxRecDepth 100000 in
set_option maxHeartbeats 4000000 in
theorem s_X12_advance_280 {p : Program} {l : Launch} {e : Env} {s : State} {m : MethodId} {args : Array Value} {below : List Frame} {meth : Method} {c : Code} {D : va_G} {cA : Nat → ClassId} {Z : mZ} {bs : Ad} {n : Nat} {K : mK} {R : mR} {L : mL} (E : Ev p s m args c cX12_advance 4 RX12 D cA Z bs) (hr : meth.sig.returnType = none) (hlk : meth.locks = false) {o : Nat} (ho : isX12 K R o) {post : mI → Prop} {I : mI} {s1 : Int32} {H : Heap} {locs : List Loc} {ls : Array Slot} (hw : w_X12_advance_280 o post I s1) (hM : mm D cA bs (n, K, R, I, L) H) (hS : va_S (Ab bs) s.heap H locs) (hl : lv_has ls 4 []) : W p l e ({ frames := 3, cells := 0, slots := 0, locals := 71 } : Room) s m args below meth c H locs 0 0 (MQ below (QV D cA bs (fun u => ∃ I', u = (n, K, R, I', L) ∧ post I')) args s 0 0 (Ab bs)) (F0 m 280 ls [.int s1, .ref (ad bs o)]) := by
  have hx := E.1.1
  have hb := E.1.2.1
  refine m_puti E hM hS fp_X12_102 ho.1 rfl rfl dX12_advance_280 (fun I24 H locs eI24 hM hS => ?_)
  have hw := hw I24 eI24
  refine lv_goto (tgt := 321) hx hb dX12_advance_283 (by decide) ?_
  exact m_retv hx hb hr hlk hM hS ⟨_, rfl, hw⟩ dX12_advance_321
def w_X12_advance_261 (o : Nat) (post : mI → Prop) (I : mI) : Prop := (((I o 3) - (I o 4)) ≤ 2 → (w_X12_advance_280 o post) I 1) ∧ (¬ ((I o 3) - (I o 4)) ≤ 2 → (w_X12_advance_280 o post) I 4)
set_option maxRecDepth 100000 in
set_option maxHeartbeats 4000000 in
theorem s_X12_advance_261 {p : Program} {l : Launch} {e : Env} {s : State} {m : MethodId} {args : Array Value} {below : List Frame} {meth : Method} {c : Code} {D : va_G} {cA : Nat → ClassId} {Z : mZ} {bs : Ad} {n : Nat} {K : mK} {R : mR} {L : mL} (E : Ev p s m args c cX12_advance 4 RX12 D cA Z bs) (hr : meth.sig.returnType = none) (hlk : meth.locks = false) {o : Nat} (ho : isX12 K R o) {post : mI → Prop} {I : mI} {H : Heap} {locs : List Loc} {ls : Array Slot} (hw : w_X12_advance_261 o post I) (hM : mm D cA bs (n, K, R, I, L) H) (hS : va_S (Ab bs) s.heap H locs) (hl : lv_has ls 4 [(0, .ref (ad bs o))]) : W p l e ({ frames := 3, cells := 0, slots := 0, locals := 71 } : Room) s m args below meth c H locs 0 0 (MQ below (QV D cA bs (fun u => ∃ I', u = (n, K, R, I', L) ∧ post I')) args s 0 0 (Ab bs)) (F0 m 261 ls []) := by
  have hx := E.1.1
  have hb := E.1.2.1
  refine lv_aload_n hx hb dX12_advance_261 rfl (lv_at hl 0 rfl) ?_
  refine lv_aload_n hx hb dX12_advance_262 rfl (lv_at hl 0 rfl) ?_
  refine m_geti E hM fs_X12_92 ho.1 dX12_advance_263 ?_
  refine lv_aload_n hx hb dX12_advance_266 rfl (lv_at hl 0 rfl) ?_
  refine m_geti E hM fs_X12_99 ho.1 dX12_advance_267 ?_
  refine lv_isub hx hb dX12_advance_270 ?_
  refine lv_iconst (v := 2) hx hb dX12_advance_271 (by decide) ?_
  refine lv_icmp_le (tgt := 279) hx hb dX12_advance_272 (by decide) (fun cq => ?_) (fun cq => ?_)
  · have hw := hw.1 cq
    refine lv_iconst (v := 1) hx hb dX12_advance_279 (by decide) ?_
    exact s_X12_advance_280 E hr hlk ho  hw hM hS (lv_sub hl [] rfl)
  · have hw := hw.2 cq
    refine lv_iconst (v := 4) hx hb dX12_advance_275 (by decide) ?_
    refine lv_goto (tgt := 280) hx hb dX12_advance_276 (by decide) ?_
    exact s_X12_advance_280 E hr hlk ho  hw hM hS (lv_sub hl [] rfl)
def w_X12_advance_125 (o : Nat) (post : mI → Prop) (k77 : mI → Int64 → Prop) (I : mI) (v2 : Int64) : Prop := ∀ I15, I15 = up2 I o 3 ((I o 3) + 1) → k77 I15 v2
set_option maxRecDepth 100000 in
set_option maxHeartbeats 4000000 in
theorem s_X12_advance_125 {p : Program} {l : Launch} {e : Env} {s : State} {m : MethodId} {args : Array Value} {below : List Frame} {meth : Method} {c : Code} {D : va_G} {cA : Nat → ClassId} {Z : mZ} {bs : Ad} {n : Nat} {K : mK} {R : mR} {L : mL} (E : Ev p s m args c cX12_advance 4 RX12 D cA Z bs) (hr : meth.sig.returnType = none) (hlk : meth.locks = false) {o : Nat} (ho : isX12 K R o) {post : mI → Prop} {k77 : mI → Int64 → Prop} (hk77 : ∀ (I : mI) (v2 : Int64) (H : Heap) (locs : List Loc) (ls : Array Slot), k77 I v2 → mm D cA bs (n, K, R, I, L) H → va_S (Ab bs) s.heap H locs → lv_has ls 4 [(0, .ref (ad bs o)), (2, .long v2)] → W p l e ({ frames := 3, cells := 0, slots := 0, locals := 71 } : Room) s m args below meth c H locs 0 0 (MQ below (QV D cA bs (fun u => ∃ I', u = (n, K, R, I', L) ∧ post I')) args s 0 0 (Ab bs)) (F0 m 77 ls [])) {I : mI} {v2 : Int64} {H : Heap} {locs : List Loc} {ls : Array Slot} (hw : w_X12_advance_125 o post k77 I v2) (hM : mm D cA bs (n, K, R, I, L) H) (hS : va_S (Ab bs) s.heap H locs) (hl : lv_has ls 4 [(0, .ref (ad bs o)), (2, .long v2)]) : W p l e ({ frames := 3, cells := 0, slots := 0, locals := 71 } : Room) s m args below meth c H locs 0 0 (MQ below (QV D cA bs (fun u => ∃ I', u = (n, K, R, I', L) ∧ post I')) args s 0 0 (Ab bs)) (F0 m 125 ls []) := by
  have hx := E.1.1
  have hb := E.1.2.1
  refine lv_aload_n hx hb dX12_advance_125 rfl (lv_at hl 0 rfl) ?_
  refine lv_dup hx hb dX12_advance_126 rfl ?_
  refine m_geti E hM fs_X12_92 ho.1 dX12_advance_127 ?_
  refine lv_iconst (v := 1) hx hb dX12_advance_130 (by decide) ?_
  refine lv_iadd hx hb dX12_advance_131 ?_
  refine m_puti E hM hS fp_X12_92 ho.1 rfl rfl dX12_advance_132 (fun I15 H locs eI15 hM hS => ?_)
  have hw := hw I15 eI15
  refine lv_goto (tgt := 77) hx hb dX12_advance_135 (by decide) ?_
  exact hk77 _ _ H locs ls  hw hM hS (lv_sub hl [0, 1] rfl)
def w_X12_advance_77 (o : Nat) (post : mI → Prop) (k138 : mI → Int64 → Prop) (I : mI) (v2 : Int64) : Prop := ∀ ZZ : (mI → Int64 → Prop), (∀ (I : mI) (v2 : Int64), (w_X12_byteAt I o (I o 3) (fun r11 => w_X12_isLetter r11 (fun b12 => (b12 = false → k138 I v2) ∧ (b12 = true → (8 ≤ ((I o 3) - (I o 4)) → (w_X12_advance_125 o post ZZ) I v2) ∧ (¬ 8 ≤ ((I o 3) - (I o 4)) → w_X12_byteAt I o (I o 3) (fun r13 => ∀ x14, x14 = ((((32 : Int64) * v2) + (r13.toInt64)) - (96 : Int64)) → (w_X12_advance_125 o post ZZ) I x14)))))) → ZZ I v2) → ZZ I v2
set_option maxRecDepth 100000 in
set_option maxHeartbeats 4000000 in
theorem s_X12_advance_77 {p : Program} {l : Launch} {e : Env} {s : State} {m : MethodId} {args : Array Value} {below : List Frame} {meth : Method} {c : Code} {D : va_G} {cA : Nat → ClassId} {Z : mZ} {bs : Ad} {n : Nat} {K : mK} {R : mR} {L : mL} (E : Ev p s m args c cX12_advance 4 RX12 D cA Z bs) (hr : meth.sig.returnType = none) (hlk : meth.locks = false) {o : Nat} (ho : isX12 K R o) {post : mI → Prop} {k138 : mI → Int64 → Prop} (hk138 : ∀ (I : mI) (v2 : Int64) (H : Heap) (locs : List Loc) (ls : Array Slot), k138 I v2 → mm D cA bs (n, K, R, I, L) H → va_S (Ab bs) s.heap H locs → lv_has ls 4 [(0, .ref (ad bs o)), (2, .long v2)] → W p l e ({ frames := 3, cells := 0, slots := 0, locals := 71 } : Room) s m args below meth c H locs 0 0 (MQ below (QV D cA bs (fun u => ∃ I', u = (n, K, R, I', L) ∧ post I')) args s 0 0 (Ab bs)) (F0 m 138 ls [])) {I : mI} {v2 : Int64} {H : Heap} {locs : List Loc} {ls : Array Slot} (hw : w_X12_advance_77 o post k138 I v2) (hM : mm D cA bs (n, K, R, I, L) H) (hS : va_S (Ab bs) s.heap H locs) (hl : lv_has ls 4 [(0, .ref (ad bs o)), (2, .long v2)]) : W p l e ({ frames := 3, cells := 0, slots := 0, locals := 71 } : Room) s m args below meth c H locs 0 0 (MQ below (QV D cA bs (fun u => ∃ I', u = (n, K, R, I', L) ∧ post I')) args s 0 0 (Ab bs)) (F0 m 77 ls []) := by
  have hx := E.1.1
  have hb := E.1.2.1
  refine hw (fun I v2 => ∀ (H : Heap) (locs : List Loc) (ls : Array Slot), mm D cA bs (n, K, R, I, L) H → va_S (Ab bs) s.heap H locs → lv_has ls 4 [(0, .ref (ad bs o)), (2, .long v2)] → W p l e ({ frames := 3, cells := 0, slots := 0, locals := 71 } : Room) s m args below meth c H locs 0 0 (MQ below (QV D cA bs (fun u => ∃ I', u = (n, K, R, I', L) ∧ post I')) args s 0 0 (Ab bs)) (F0 m 77 ls [])) ?_ H locs ls hM hS hl
  clear hw hM hS hl
  intro I v2 hw H locs ls hM hS hl
  refine lv_aload_n hx hb dX12_advance_77 rfl (lv_at hl 0 rfl) ?_
  refine lv_aload_n hx hb dX12_advance_78 rfl (lv_at hl 0 rfl) ?_
  refine m_geti E hM fs_X12_92 ho.1 dX12_advance_79 ?_
  refine m_ci (m_runV E hM hS cs_X12_95 ho.1 (by decide) rfl rfl (c_X12_byteAt ho hw) rfl rfl ⟨Nat.le_of_ble_eq_true rfl, Nat.le_of_ble_eq_true rfl⟩ rfl hl.1 rfl (Nat.le_of_ble_eq_true rfl) dX12_advance_82 ⟨Nat.le_of_ble_eq_true rfl, Nat.le_of_ble_eq_true rfl⟩) hS (fun r11 u H locs hp hM hS => ?_)
  obtain ⟨rfl, hw⟩ := hp
  refine m_ci (m_runS E hM hS cs_X12_105 (c_X12_isLetter  hw) rfl rfl ⟨Nat.le_of_ble_eq_true rfl, Nat.le_of_ble_eq_true rfl⟩ rfl hl.1 rfl (Nat.le_of_ble_eq_true rfl) dX12_advance_85 ⟨Nat.le_of_ble_eq_true rfl, Nat.le_of_ble_eq_true rfl⟩) hS (fun r9 u H locs hp hM hS => ?_)
  obtain ⟨b12, rfl, rfl, hw⟩ := hp
  refine lv_if_eq (tgt := 138) hx hb dX12_advance_88 (by decide) (fun cq => ?_) (fun cq => ?_)
  · have hw := hw.1 (bI_f cq)
    exact hk138 _ _ H locs ls  hw hM hS (lv_sub hl [0, 1] rfl)
  · have hw := hw.2 (bI_t cq)
    refine lv_aload_n hx hb dX12_advance_91 rfl (lv_at hl 0 rfl) ?_
    refine m_geti E hM fs_X12_92 ho.1 dX12_advance_92 ?_
    refine lv_aload_n hx hb dX12_advance_95 rfl (lv_at hl 0 rfl) ?_
    refine m_geti E hM fs_X12_99 ho.1 dX12_advance_96 ?_
    refine lv_isub hx hb dX12_advance_99 ?_
    refine lv_bipush (v := 8) hx hb dX12_advance_100 (by decide) ?_
    refine lv_icmp_ge (tgt := 125) hx hb dX12_advance_102 (by decide) (fun cq => ?_) (fun cq => ?_)
    · have hw := hw.1 cq
      exact s_X12_advance_125 E hr hlk ho (fun I v2 H locs ls  hw hM hS hl => hw H locs ls  hM hS hl)  hw hM hS (lv_sub hl [0, 1] rfl)
    · have hw := hw.2 cq
      refine lv_ldc2 (v := 32) hx hb E.1.2.2.2.1 (E.1.2.2.2.2 _ (gw_of 1488 (by decide +kernel) (by decide +kernel))) dX12_advance_105 ?_
      refine lv_lload_n hx hb dX12_advance_108 rfl (lv_at hl 1 rfl) ?_
      refine lv_lmul hx hb dX12_advance_109 ?_
      refine lv_aload_n hx hb dX12_advance_110 rfl (lv_at hl 0 rfl) ?_
      refine lv_aload_n hx hb dX12_advance_111 rfl (lv_at hl 0 rfl) ?_
      refine m_geti E hM fs_X12_92 ho.1 dX12_advance_112 ?_
      refine m_ci (m_runV E hM hS cs_X12_95 ho.1 (by decide) rfl rfl (c_X12_byteAt ho hw) rfl rfl ⟨Nat.le_of_ble_eq_true rfl, Nat.le_of_ble_eq_true rfl⟩ rfl hl.1 rfl (Nat.le_of_ble_eq_true rfl) dX12_advance_115 ⟨Nat.le_of_ble_eq_true rfl, Nat.le_of_ble_eq_true rfl⟩) hS (fun r13 u H locs hp hM hS => ?_)
      obtain ⟨rfl, hw⟩ := hp
      refine lv_i2l hx hb dX12_advance_118 rfl ?_
      refine lv_ladd hx hb dX12_advance_119 ?_
      refine lv_ldc2 (v := 96) hx hb E.1.2.2.2.1 (E.1.2.2.2.2 _ (gw_of 1489 (by decide +kernel) (by decide +kernel))) dX12_advance_120 ?_
      refine lv_lsub hx hb dX12_advance_123 ?_
      refine lv_topl (fun x14 ex14 => ?_)
      have hw := hw x14 ex14
      refine lv_lstore_n (lv' := [(2, .long x14), (0, .ref (ad bs o))]) hx hb dX12_advance_124 rfl hl (by decide) rfl (fun ls hl => ?_)
      exact s_X12_advance_125 E hr hlk ho (fun I v2 H locs ls  hw hM hS hl => hw H locs ls  hM hS hl)  hw hM hS (lv_sub hl [1, 0] rfl)
def w_X12_advance_180 (o : Nat) (post : mI → Prop) (I : mI) (s1 : Int32) : Prop := ∀ I18, I18 = up2 I o 5 s1 → post I18
set_option maxRecDepth 100000 in
set_option maxHeartbeats 4000000 in
theorem s_X12_advance_180 {p : Program} {l : Launch} {e : Env} {s : State} {m : MethodId} {args : Array Value} {below : List Frame} {meth : Method} {c : Code} {D : va_G} {cA : Nat → ClassId} {Z : mZ} {bs : Ad} {n : Nat} {K : mK} {R : mR} {L : mL} (E : Ev p s m args c cX12_advance 4 RX12 D cA Z bs) (hr : meth.sig.returnType = none) (hlk : meth.locks = false) {o : Nat} (ho : isX12 K R o) {post : mI → Prop} {I : mI} {s1 : Int32} {H : Heap} {locs : List Loc} {ls : Array Slot} (hw : w_X12_advance_180 o post I s1) (hM : mm D cA bs (n, K, R, I, L) H) (hS : va_S (Ab bs) s.heap H locs) (hl : lv_has ls 4 []) : W p l e ({ frames := 3, cells := 0, slots := 0, locals := 71 } : Room) s m args below meth c H locs 0 0 (MQ below (QV D cA bs (fun u => ∃ I', u = (n, K, R, I', L) ∧ post I')) args s 0 0 (Ab bs)) (F0 m 180 ls [.int s1, .ref (ad bs o)]) := by
  have hx := E.1.1
  have hb := E.1.2.1
  refine m_puti E hM hS fp_X12_102 ho.1 rfl rfl dX12_advance_180 (fun I18 H locs eI18 hM hS => ?_)
  have hw := hw I18 eI18
  refine lv_goto (tgt := 321) hx hb dX12_advance_183 (by decide) ?_
  exact m_retv hx hb hr hlk hM hS ⟨_, rfl, hw⟩ dX12_advance_321
def w_X12_advance_162 (o : Nat) (post : mI → Prop) (I : mI) (s1 : Int32) : Prop := ∀ I17, I17 = up2 I o 7 s1 → (¬ (I17 o 7) = 99 → (w_X12_advance_180 o post) I17 3) ∧ ((I17 o 7) = 99 → (w_X12_advance_180 o post) I17 4)
set_option maxRecDepth 100000 in
set_option maxHeartbeats 4000000 in
theorem s_X12_advance_162 {p : Program} {l : Launch} {e : Env} {s : State} {m : MethodId} {args : Array Value} {below : List Frame} {meth : Method} {c : Code} {D : va_G} {cA : Nat → ClassId} {Z : mZ} {bs : Ad} {n : Nat} {K : mK} {R : mR} {L : mL} (E : Ev p s m args c cX12_advance 4 RX12 D cA Z bs) (hr : meth.sig.returnType = none) (hlk : meth.locks = false) {o : Nat} (ho : isX12 K R o) {post : mI → Prop} {I : mI} {s1 : Int32} {H : Heap} {locs : List Loc} {ls : Array Slot} (hw : w_X12_advance_162 o post I s1) (hM : mm D cA bs (n, K, R, I, L) H) (hS : va_S (Ab bs) s.heap H locs) (hl : lv_has ls 4 [(0, .ref (ad bs o))]) : W p l e ({ frames := 3, cells := 0, slots := 0, locals := 71 } : Room) s m args below meth c H locs 0 0 (MQ below (QV D cA bs (fun u => ∃ I', u = (n, K, R, I', L) ∧ post I')) args s 0 0 (Ab bs)) (F0 m 162 ls [.int s1, .ref (ad bs o)]) := by
  have hx := E.1.1
  have hb := E.1.2.1
  refine m_puti E hM hS fp_X12_117 ho.1 rfl rfl dX12_advance_162 (fun I17 H locs eI17 hM hS => ?_)
  have hw := hw I17 eI17
  refine lv_aload_n hx hb dX12_advance_165 rfl (lv_at hl 0 rfl) ?_
  refine lv_aload_n hx hb dX12_advance_166 rfl (lv_at hl 0 rfl) ?_
  refine m_geti E hM fs_X12_117 ho.1 dX12_advance_167 ?_
  refine lv_bipush (v := 99) hx hb dX12_advance_170 (by decide) ?_
  refine lv_icmp_ne (tgt := 179) hx hb dX12_advance_172 (by decide) (fun cq => ?_) (fun cq => ?_)
  · have hw := hw.1 cq
    refine lv_iconst (v := 3) hx hb dX12_advance_179 (by decide) ?_
    exact s_X12_advance_180 E hr hlk ho  hw hM hS (lv_sub hl [] rfl)
  · have hw := hw.2 cq
    refine lv_iconst (v := 4) hx hb dX12_advance_175 (by decide) ?_
    refine lv_goto (tgt := 180) hx hb dX12_advance_176 (by decide) ?_
    exact s_X12_advance_180 E hr hlk ho  hw hM hS (lv_sub hl [] rfl)
def w_X12_advance_138 (o : Nat) (post : mI → Prop) (I : mI) (v2 : Int64) : Prop := (((I o 3) - (I o 4)) ≤ 8 → w_X12_wordOf v2 (fun r16 => (w_X12_advance_162 o post) I r16)) ∧ (¬ ((I o 3) - (I o 4)) ≤ 8 → (w_X12_advance_162 o post) I 99)
set_option maxRecDepth 100000 in
set_option maxHeartbeats 4000000 in
theorem s_X12_advance_138 {p : Program} {l : Launch} {e : Env} {s : State} {m : MethodId} {args : Array Value} {below : List Frame} {meth : Method} {c : Code} {D : va_G} {cA : Nat → ClassId} {Z : mZ} {bs : Ad} {n : Nat} {K : mK} {R : mR} {L : mL} (E : Ev p s m args c cX12_advance 4 RX12 D cA Z bs) (hr : meth.sig.returnType = none) (hlk : meth.locks = false) {o : Nat} (ho : isX12 K R o) {post : mI → Prop} {I : mI} {v2 : Int64} {H : Heap} {locs : List Loc} {ls : Array Slot} (hw : w_X12_advance_138 o post I v2) (hM : mm D cA bs (n, K, R, I, L) H) (hS : va_S (Ab bs) s.heap H locs) (hl : lv_has ls 4 [(0, .ref (ad bs o)), (2, .long v2)]) : W p l e ({ frames := 3, cells := 0, slots := 0, locals := 71 } : Room) s m args below meth c H locs 0 0 (MQ below (QV D cA bs (fun u => ∃ I', u = (n, K, R, I', L) ∧ post I')) args s 0 0 (Ab bs)) (F0 m 138 ls []) := by
  have hx := E.1.1
  have hb := E.1.2.1
  refine lv_aload_n hx hb dX12_advance_138 rfl (lv_at hl 0 rfl) ?_
  refine lv_aload_n hx hb dX12_advance_139 rfl (lv_at hl 0 rfl) ?_
  refine m_geti E hM fs_X12_92 ho.1 dX12_advance_140 ?_
  refine lv_aload_n hx hb dX12_advance_143 rfl (lv_at hl 0 rfl) ?_
  refine m_geti E hM fs_X12_99 ho.1 dX12_advance_144 ?_
  refine lv_isub hx hb dX12_advance_147 ?_
  refine lv_bipush (v := 8) hx hb dX12_advance_148 (by decide) ?_
  refine lv_icmp_le (tgt := 158) hx hb dX12_advance_150 (by decide) (fun cq => ?_) (fun cq => ?_)
  · have hw := hw.1 cq
    refine lv_lload_n hx hb dX12_advance_158 rfl (lv_at hl 1 rfl) ?_
    refine m_ci (m_runS E hM hS cs_X12_113 (c_X12_wordOf  hw) rfl rfl ⟨Nat.le_of_ble_eq_true rfl, Nat.le_of_ble_eq_true rfl⟩ rfl hl.1 rfl (Nat.le_of_ble_eq_true rfl) dX12_advance_159 ⟨Nat.le_of_ble_eq_true rfl, Nat.le_of_ble_eq_true rfl⟩) hS (fun r16 u H locs hp hM hS => ?_)
    obtain ⟨rfl, hw⟩ := hp
    exact s_X12_advance_162 E hr hlk ho  hw hM hS (lv_sub hl [0] rfl)
  · have hw := hw.2 cq
    refine lv_bipush (v := 99) hx hb dX12_advance_153 (by decide) ?_
    refine lv_goto (tgt := 162) hx hb dX12_advance_155 (by decide) ?_
    exact s_X12_advance_162 E hr hlk ho  hw hM hS (lv_sub hl [0] rfl)
def w_X12_advance_39 (o : Nat) (post : mI → Prop) (I : mI) : Prop := ∀ I3, I3 = up2 I o 4 (I o 3) → w_X12_byteAt I3 o (I3 o 3) (fun r4 => (0 ≤ r4 → w_X12_isLetter r4 (fun b5 => (b5 = false → w_X12_isDigit r4 (fun b6 => (b6 = false → ∀ I7, I7 = up2 I3 o 3 ((I3 o 3) + 1) → (¬ r4 = 59 → (¬ r4 = 45 → (w_X12_advance_318 o post) I7 4) ∧ (r4 = 45 → (w_X12_advance_318 o post) I7 5)) ∧ (r4 = 59 → (w_X12_advance_318 o post) I7 2)) ∧ (b6 = true → ∀ I8, I8 = up2 I3 o 6 0 → (w_X12_advance_198 o post (w_X12_advance_261 o post)) I8))) ∧ (b5 = true → ∀ x9, x9 = (0 : Int64) → (w_X12_advance_77 o post (w_X12_advance_138 o post)) I3 x9))) ∧ (¬ 0 ≤ r4 → ∀ I10, I10 = up2 I3 o 5 0 → post I10))
set_option maxRecDepth 100000 in
set_option maxHeartbeats 4000000 in
theorem s_X12_advance_39 {p : Program} {l : Launch} {e : Env} {s : State} {m : MethodId} {args : Array Value} {below : List Frame} {meth : Method} {c : Code} {D : va_G} {cA : Nat → ClassId} {Z : mZ} {bs : Ad} {n : Nat} {K : mK} {R : mR} {L : mL} (E : Ev p s m args c cX12_advance 4 RX12 D cA Z bs) (hr : meth.sig.returnType = none) (hlk : meth.locks = false) {o : Nat} (ho : isX12 K R o) {post : mI → Prop} {I : mI} {H : Heap} {locs : List Loc} {ls : Array Slot} (hw : w_X12_advance_39 o post I) (hM : mm D cA bs (n, K, R, I, L) H) (hS : va_S (Ab bs) s.heap H locs) (hl : lv_has ls 4 [(0, .ref (ad bs o))]) : W p l e ({ frames := 3, cells := 0, slots := 0, locals := 71 } : Room) s m args below meth c H locs 0 0 (MQ below (QV D cA bs (fun u => ∃ I', u = (n, K, R, I', L) ∧ post I')) args s 0 0 (Ab bs)) (F0 m 39 ls []) := by
  have hx := E.1.1
  have hb := E.1.2.1
  refine lv_aload_n hx hb dX12_advance_39 rfl (lv_at hl 0 rfl) ?_
  refine lv_aload_n hx hb dX12_advance_40 rfl (lv_at hl 0 rfl) ?_
  refine m_geti E hM fs_X12_92 ho.1 dX12_advance_41 ?_
  refine m_puti E hM hS fp_X12_99 ho.1 rfl rfl dX12_advance_44 (fun I3 H locs eI3 hM hS => ?_)
  have hw := hw I3 eI3
  refine lv_aload_n hx hb dX12_advance_47 rfl (lv_at hl 0 rfl) ?_
  refine lv_aload_n hx hb dX12_advance_48 rfl (lv_at hl 0 rfl) ?_
  refine m_geti E hM fs_X12_92 ho.1 dX12_advance_49 ?_
  refine m_ci (m_runV E hM hS cs_X12_95 ho.1 (by decide) rfl rfl (c_X12_byteAt ho hw) rfl rfl ⟨Nat.le_of_ble_eq_true rfl, Nat.le_of_ble_eq_true rfl⟩ rfl hl.1 rfl (Nat.le_of_ble_eq_true rfl) dX12_advance_52 ⟨Nat.le_of_ble_eq_true rfl, Nat.le_of_ble_eq_true rfl⟩) hS (fun r4 u H locs hp hM hS => ?_)
  obtain ⟨rfl, hw⟩ := hp
  refine lv_istore_n (lv' := [(1, .int r4), (0, .ref (ad bs o))]) hx hb dX12_advance_55 rfl hl (by decide) rfl (fun ls hl => ?_)
  refine lv_iload_n hx hb dX12_advance_56 rfl (lv_at hl 0 rfl) ?_
  refine lv_if_ge (tgt := 68) hx hb dX12_advance_57 (by decide) (fun cq => ?_) (fun cq => ?_)
  · have hw := hw.1 cq
    refine lv_iload_n hx hb dX12_advance_68 rfl (lv_at hl 0 rfl) ?_
    refine m_ci (m_runS E hM hS cs_X12_105 (c_X12_isLetter  hw) rfl rfl ⟨Nat.le_of_ble_eq_true rfl, Nat.le_of_ble_eq_true rfl⟩ rfl hl.1 rfl (Nat.le_of_ble_eq_true rfl) dX12_advance_69 ⟨Nat.le_of_ble_eq_true rfl, Nat.le_of_ble_eq_true rfl⟩) hS (fun r9 u H locs hp hM hS => ?_)
    obtain ⟨b5, rfl, rfl, hw⟩ := hp
    refine lv_if_eq (tgt := 186) hx hb dX12_advance_72 (by decide) (fun cq => ?_) (fun cq => ?_)
    · have hw := hw.1 (bI_f cq)
      refine lv_iload_n hx hb dX12_advance_186 rfl (lv_at hl 0 rfl) ?_
      refine m_ci (m_runS E hM hS cs_X12_120 (c_X12_isDigit  hw) rfl rfl ⟨Nat.le_of_ble_eq_true rfl, Nat.le_of_ble_eq_true rfl⟩ rfl hl.1 rfl (Nat.le_of_ble_eq_true rfl) dX12_advance_187 ⟨Nat.le_of_ble_eq_true rfl, Nat.le_of_ble_eq_true rfl⟩) hS (fun r9 u H locs hp hM hS => ?_)
      obtain ⟨b6, rfl, rfl, hw⟩ := hp
      refine lv_if_eq (tgt := 286) hx hb dX12_advance_190 (by decide) (fun cq => ?_) (fun cq => ?_)
      · have hw := hw.1 (bI_f cq)
        refine lv_aload_n hx hb dX12_advance_286 rfl (lv_at hl 1 rfl) ?_
        refine lv_dup hx hb dX12_advance_287 rfl ?_
        refine m_geti E hM fs_X12_92 ho.1 dX12_advance_288 ?_
        refine lv_iconst (v := 1) hx hb dX12_advance_291 (by decide) ?_
        refine lv_iadd hx hb dX12_advance_292 ?_
        refine m_puti E hM hS fp_X12_92 ho.1 rfl rfl dX12_advance_293 (fun I7 H locs eI7 hM hS => ?_)
        have hw := hw I7 eI7
        refine lv_aload_n hx hb dX12_advance_296 rfl (lv_at hl 1 rfl) ?_
        refine lv_iload_n hx hb dX12_advance_297 rfl (lv_at hl 0 rfl) ?_
        refine lv_bipush (v := 59) hx hb dX12_advance_298 (by decide) ?_
        refine lv_icmp_ne (tgt := 307) hx hb dX12_advance_300 (by decide) (fun cq => ?_) (fun cq => ?_)
        · have hw := hw.1 cq
          refine lv_iload_n hx hb dX12_advance_307 rfl (lv_at hl 0 rfl) ?_
          refine lv_bipush (v := 45) hx hb dX12_advance_308 (by decide) ?_
          refine lv_icmp_ne (tgt := 317) hx hb dX12_advance_310 (by decide) (fun cq => ?_) (fun cq => ?_)
          · have hw := hw.1 cq
            refine lv_iconst (v := 4) hx hb dX12_advance_317 (by decide) ?_
            exact s_X12_advance_318 E hr hlk ho  hw hM hS (lv_sub hl [] rfl)
          · have hw := hw.2 cq
            refine lv_iconst (v := 5) hx hb dX12_advance_313 (by decide) ?_
            refine lv_goto (tgt := 318) hx hb dX12_advance_314 (by decide) ?_
            exact s_X12_advance_318 E hr hlk ho  hw hM hS (lv_sub hl [] rfl)
        · have hw := hw.2 cq
          refine lv_iconst (v := 2) hx hb dX12_advance_303 (by decide) ?_
          refine lv_goto (tgt := 318) hx hb dX12_advance_304 (by decide) ?_
          exact s_X12_advance_318 E hr hlk ho  hw hM hS (lv_sub hl [] rfl)
      · have hw := hw.2 (bI_t cq)
        refine lv_aload_n hx hb dX12_advance_193 rfl (lv_at hl 1 rfl) ?_
        refine lv_iconst (v := 0) hx hb dX12_advance_194 (by decide) ?_
        refine m_puti E hM hS fp_X12_123 ho.1 rfl rfl dX12_advance_195 (fun I8 H locs eI8 hM hS => ?_)
        have hw := hw I8 eI8
        exact s_X12_advance_198 E hr hlk ho (fun I H locs ls  hw hM hS hl => s_X12_advance_261 E hr hlk ho  hw hM hS hl)  hw hM hS (lv_sub hl [1] rfl)
    · have hw := hw.2 (bI_t cq)
      refine lv_lconst (v := 0) hx hb dX12_advance_75 (by decide) ?_
      refine lv_topl (fun x9 ex9 => ?_)
      have hw := hw x9 ex9
      refine lv_lstore_n (lv' := [(2, .long x9), (1, .int r4), (0, .ref (ad bs o))]) hx hb dX12_advance_76 rfl hl (by decide) rfl (fun ls hl => ?_)
      exact s_X12_advance_77 E hr hlk ho (fun I v2 H locs ls  hw hM hS hl => s_X12_advance_138 E hr hlk ho  hw hM hS hl)  hw hM hS (lv_sub hl [2, 0] rfl)
  · have hw := hw.2 cq
    refine lv_aload_n hx hb dX12_advance_60 rfl (lv_at hl 1 rfl) ?_
    refine lv_iconst (v := 0) hx hb dX12_advance_61 (by decide) ?_
    refine m_puti E hM hS fp_X12_102 ho.1 rfl rfl dX12_advance_62 (fun I10 H locs eI10 hM hS => ?_)
    have hw := hw I10 eI10
    refine lv_goto (tgt := 321) hx hb dX12_advance_65 (by decide) ?_
    exact m_retv hx hb hr hlk hM hS ⟨_, rfl, hw⟩ dX12_advance_321
def w_X12_advance (I : mI) (o : Nat) (post : mI → Prop) : Prop := (w_X12_advance_0 o post (w_X12_advance_39 o post)) I
set_option maxRecDepth 100000 in
set_option maxHeartbeats 4000000 in
theorem c_X12_advance {l : Launch} {D : va_G} {cA : Nat → ClassId} {Z : mZ} {bs : Ad} {n : Nat} {K : mK} {R : mR} {I : mI} {L : mL} {o : Nat} {post : mI → Prop} (ho : isX12 K R o) (hw : w_X12_advance I o post) : Met l yX12_advance (.code yX12_advance cX12_advance 4 none :: gw) ({ frames := 3, cells := 0, slots := 0, locals := 71 } : Room) (PreM D cA Z bs (n, K, R, I, L) [.ref (ad bs o)]) (QV D cA bs (fun u => ∃ I', u = (n, K, R, I', L) ∧ post I')) 0 0 (Ab bs) := by
  refine m_met (by decide) (Nat.le_of_ble_eq_true rfl) (fun p e s m below meth c ls E hr hlk hM hS hl => ?_)
  have E : Ev p s m _ c cX12_advance 4 RX12 D cA Z bs := E
  have hl : lv_has ls 4 [(0, .ref (ad bs o))] := hl
  have hx := E.1.1
  have hb := E.1.2.1
  generalize hHe : s.heap = H at hM ⊢
  have hS : va_S (Ab bs) s.heap H [] := by rw [← hHe]; exact va_S.rf
  clear hHe
  exact s_X12_advance_0 E hr hlk ho (fun I H locs ls  hw hM hS hl => s_X12_advance_39 E hr hlk ho  hw hM hS hl)  hw hM hS (lv_sub hl [0] rfl)
theorem dX12_ends_0 : decode cX12_ends 0 = .ok (.aload_n 0, 1) := by decide +kernel
theorem dX12_ends_1 : decode cX12_ends 1 = .ok (.getfield 126, 3) := by decide +kernel
theorem dX12_ends_4 : decode cX12_ends 4 = .ok (.ifCond .eq 4, 3) := by decide +kernel
theorem dX12_ends_7 : decode cX12_ends 7 = .ok (.return_, 1) := by decide +kernel
theorem dX12_ends_8 : decode cX12_ends 8 = .ok (.aload_n 0, 1) := by decide +kernel
theorem dX12_ends_9 : decode cX12_ends 9 = .ok (.iconst 1, 1) := by decide +kernel
theorem dX12_ends_10 : decode cX12_ends 10 = .ok (.putfield 126, 3) := by decide +kernel
theorem dX12_ends_13 : decode cX12_ends 13 = .ok (.aload_n 0, 1) := by decide +kernel
theorem dX12_ends_14 : decode cX12_ends 14 = .ok (.getfield 7, 3) := by decide +kernel
theorem dX12_ends_17 : decode cX12_ends 17 = .ok (.iconst 3, 1) := by decide +kernel
theorem dX12_ends_18 : decode cX12_ends 18 = .ok (.iconst 1, 1) := by decide +kernel
theorem dX12_ends_19 : decode cX12_ends 19 = .ok (.iastore, 1) := by decide +kernel
theorem dX12_ends_20 : decode cX12_ends 20 = .ok (.aload_n 0, 1) := by decide +kernel
theorem dX12_ends_21 : decode cX12_ends 21 = .ok (.getfield 7, 3) := by decide +kernel
theorem dX12_ends_24 : decode cX12_ends 24 = .ok (.iconst 4, 1) := by decide +kernel
theorem dX12_ends_25 : decode cX12_ends 25 = .ok (.aload_n 0, 1) := by decide +kernel
theorem dX12_ends_26 : decode cX12_ends 26 = .ok (.getfield 99, 3) := by decide +kernel
theorem dX12_ends_29 : decode cX12_ends 29 = .ok (.iastore, 1) := by decide +kernel
theorem dX12_ends_30 : decode cX12_ends 30 = .ok (.return_, 1) := by decide +kernel
def w_X12_ends (I : mI) (o : Nat) (post : mI → Prop) : Prop := ((I o 8) = 0 → ∀ I1, I1 = up2 I o 8 1 → ∀ I2, I2 = up2 I1 (o + 1) ((3 : Int32).toNatClampNeg) 1 → ∀ I3, I3 = up2 I2 (o + 1) ((4 : Int32).toNatClampNeg) (I2 o 4) → post I3) ∧ (¬ (I o 8) = 0 → post I)
set_option maxRecDepth 100000 in
set_option maxHeartbeats 4000000 in
theorem c_X12_ends {l : Launch} {D : va_G} {cA : Nat → ClassId} {Z : mZ} {bs : Ad} {n : Nat} {K : mK} {R : mR} {I : mI} {L : mL} {o : Nat} {post : mI → Prop} (ho : isX12 K R o) (hw : w_X12_ends I o post) : Met l yX12_ends (.code yX12_ends cX12_ends 1 none :: gw) ({ frames := 0, cells := 0, slots := 0, locals := 0 } : Room) (PreM D cA Z bs (n, K, R, I, L) [.ref (ad bs o)]) (QV D cA bs (fun u => ∃ I', u = (n, K, R, I', L) ∧ post I')) 0 0 (Ab bs) := by
  refine m_met (by decide) (Nat.le_of_ble_eq_true rfl) (fun p e s m below meth c ls E hr hlk hM hS hl => ?_)
  have E : Ev p s m _ c cX12_ends 1 RX12 D cA Z bs := E
  have hl : lv_has ls 1 [(0, .ref (ad bs o))] := hl
  have hx := E.1.1
  have hb := E.1.2.1
  generalize hHe : s.heap = H at hM ⊢
  have hS : va_S (Ab bs) s.heap H [] := by rw [← hHe]; exact va_S.rf
  clear hHe
  refine lv_aload_n hx hb dX12_ends_0 rfl (lv_at hl 0 rfl) ?_
  refine m_geti E hM fs_X12_126 ho.1 dX12_ends_1 ?_
  refine lv_if_eq (tgt := 8) hx hb dX12_ends_4 (by decide) (fun cq => ?_) (fun cq => ?_)
  · have hw := hw.1 cq
    refine lv_aload_n hx hb dX12_ends_8 rfl (lv_at hl 0 rfl) ?_
    refine lv_iconst (v := 1) hx hb dX12_ends_9 (by decide) ?_
    refine m_puti E hM hS fp_X12_126 ho.1 rfl rfl dX12_ends_10 (fun I1 H locs eI1 hM hS => ?_)
    have hw := hw I1 eI1
    refine lv_aload_n hx hb dX12_ends_13 rfl (lv_at hl 0 rfl) ?_
    refine m_getr E hM fs_X12_7 ho.1 (isO_at ho 0 rfl).1 dX12_ends_14 ?_
    refine lv_iconst (v := 3) hx hb dX12_ends_17 (by decide) ?_
    refine lv_iconst (v := 1) hx hb dX12_ends_18 (by decide) ?_
    refine m_iast E hM hS (isO_at ho 0 rfl).2 (by unfold vp_in; decide) dX12_ends_19 (fun I2 H locs eI2 hM hS => ?_)
    have hw := hw I2 eI2
    refine lv_aload_n hx hb dX12_ends_20 rfl (lv_at hl 0 rfl) ?_
    refine m_getr E hM fs_X12_7 ho.1 (isO_at ho 0 rfl).1 dX12_ends_21 ?_
    refine lv_iconst (v := 4) hx hb dX12_ends_24 (by decide) ?_
    refine lv_aload_n hx hb dX12_ends_25 rfl (lv_at hl 0 rfl) ?_
    refine m_geti E hM fs_X12_99 ho.1 dX12_ends_26 ?_
    refine m_iast E hM hS (isO_at ho 0 rfl).2 (by unfold vp_in; decide) dX12_ends_29 (fun I3 H locs eI3 hM hS => ?_)
    have hw := hw I3 eI3
    exact m_retv hx hb hr hlk hM hS ⟨_, rfl, hw⟩ dX12_ends_30
  · have hw := hw.2 cq
    exact m_retv hx hb hr hlk hM hS ⟨_, rfl, hw⟩ dX12_ends_7
theorem dX12_also_0 : decode cX12_also 0 = .ok (.aload_n 0, 1) := by decide +kernel
theorem dX12_also_1 : decode cX12_also 1 = .ok (.getfield 126, 3) := by decide +kernel
theorem dX12_also_4 : decode cX12_also 4 = .ok (.ifCond .ne 42, 3) := by decide +kernel
theorem dX12_also_7 : decode cX12_also 7 = .ok (.aload_n 0, 1) := by decide +kernel
theorem dX12_also_8 : decode cX12_also 8 = .ok (.getfield 7, 3) := by decide +kernel
theorem dX12_also_11 : decode cX12_also 11 = .ok (.iconst 3, 1) := by decide +kernel
theorem dX12_also_12 : decode cX12_also 12 = .ok (.iaload, 1) := by decide +kernel
theorem dX12_also_13 : decode cX12_also 13 = .ok (.ifCond .eq 34, 3) := by decide +kernel
theorem dX12_also_16 : decode cX12_also 16 = .ok (.aload_n 0, 1) := by decide +kernel
theorem dX12_also_17 : decode cX12_also 17 = .ok (.getfield 7, 3) := by decide +kernel
theorem dX12_also_20 : decode cX12_also 20 = .ok (.iconst 4, 1) := by decide +kernel
theorem dX12_also_21 : decode cX12_also 21 = .ok (.iaload, 1) := by decide +kernel
theorem dX12_also_22 : decode cX12_also 22 = .ok (.iload_n 2, 1) := by decide +kernel
theorem dX12_also_23 : decode cX12_also 23 = .ok (.if_icmp .lt 23, 3) := by decide +kernel
theorem dX12_also_26 : decode cX12_also 26 = .ok (.aload_n 0, 1) := by decide +kernel
theorem dX12_also_27 : decode cX12_also 27 = .ok (.getfield 7, 3) := by decide +kernel
theorem dX12_also_30 : decode cX12_also 30 = .ok (.iconst 4, 1) := by decide +kernel
theorem dX12_also_31 : decode cX12_also 31 = .ok (.iaload, 1) := by decide +kernel
theorem dX12_also_32 : decode cX12_also 32 = .ok (.iload_n 2, 1) := by decide +kernel
theorem dX12_also_33 : decode cX12_also 33 = .ok (.if_icmp .ne 14, 3) := by decide +kernel
theorem dX12_also_36 : decode cX12_also 36 = .ok (.aload_n 0, 1) := by decide +kernel
theorem dX12_also_37 : decode cX12_also 37 = .ok (.getfield 7, 3) := by decide +kernel
theorem dX12_also_40 : decode cX12_also 40 = .ok (.iconst 3, 1) := by decide +kernel
theorem dX12_also_41 : decode cX12_also 41 = .ok (.iaload, 1) := by decide +kernel
theorem dX12_also_42 : decode cX12_also 42 = .ok (.iload_n 1, 1) := by decide +kernel
theorem dX12_also_43 : decode cX12_also 43 = .ok (.if_icmp .gt 4, 3) := by decide +kernel
theorem dX12_also_46 : decode cX12_also 46 = .ok (.return_, 1) := by decide +kernel
theorem dX12_also_47 : decode cX12_also 47 = .ok (.aload_n 0, 1) := by decide +kernel
theorem dX12_also_48 : decode cX12_also 48 = .ok (.getfield 7, 3) := by decide +kernel
theorem dX12_also_51 : decode cX12_also 51 = .ok (.iconst 3, 1) := by decide +kernel
theorem dX12_also_52 : decode cX12_also 52 = .ok (.iload_n 1, 1) := by decide +kernel
theorem dX12_also_53 : decode cX12_also 53 = .ok (.iastore, 1) := by decide +kernel
theorem dX12_also_54 : decode cX12_also 54 = .ok (.aload_n 0, 1) := by decide +kernel
theorem dX12_also_55 : decode cX12_also 55 = .ok (.getfield 7, 3) := by decide +kernel
theorem dX12_also_58 : decode cX12_also 58 = .ok (.iconst 4, 1) := by decide +kernel
theorem dX12_also_59 : decode cX12_also 59 = .ok (.iload_n 2, 1) := by decide +kernel
theorem dX12_also_60 : decode cX12_also 60 = .ok (.iastore, 1) := by decide +kernel
theorem dX12_also_61 : decode cX12_also 61 = .ok (.return_, 1) := by decide +kernel
def w_X12_also_47 (o : Nat) (a1 : Int32) (a2 : Int32) (post : mI → Prop) (I : mI) : Prop := ∀ I1, I1 = up2 I (o + 1) ((3 : Int32).toNatClampNeg) a1 → ∀ I2, I2 = up2 I1 (o + 1) ((4 : Int32).toNatClampNeg) a2 → post I2
set_option maxRecDepth 100000 in
set_option maxHeartbeats 4000000 in
theorem s_X12_also_47 {p : Program} {l : Launch} {e : Env} {s : State} {m : MethodId} {args : Array Value} {below : List Frame} {meth : Method} {c : Code} {D : va_G} {cA : Nat → ClassId} {Z : mZ} {bs : Ad} {n : Nat} {K : mK} {R : mR} {L : mL} (E : Ev p s m args c cX12_also 3 RX12 D cA Z bs) (hr : meth.sig.returnType = none) (hlk : meth.locks = false) {o : Nat} {a1 : Int32} {a2 : Int32} (ho : isX12 K R o) {post : mI → Prop} {I : mI} {H : Heap} {locs : List Loc} {ls : Array Slot} (hw : w_X12_also_47 o a1 a2 post I) (hM : mm D cA bs (n, K, R, I, L) H) (hS : va_S (Ab bs) s.heap H locs) (hl : lv_has ls 3 [(0, .ref (ad bs o)), (1, .int a1), (2, .int a2)]) : W p l e ({ frames := 0, cells := 0, slots := 0, locals := 0 } : Room) s m args below meth c H locs 0 0 (MQ below (QV D cA bs (fun u => ∃ I', u = (n, K, R, I', L) ∧ post I')) args s 0 0 (Ab bs)) (F0 m 47 ls []) := by
  have hx := E.1.1
  have hb := E.1.2.1
  refine lv_aload_n hx hb dX12_also_47 rfl (lv_at hl 0 rfl) ?_
  refine m_getr E hM fs_X12_7 ho.1 (isO_at ho 0 rfl).1 dX12_also_48 ?_
  refine lv_iconst (v := 3) hx hb dX12_also_51 (by decide) ?_
  refine lv_iload_n hx hb dX12_also_52 rfl (lv_at hl 1 rfl) ?_
  refine m_iast E hM hS (isO_at ho 0 rfl).2 (by unfold vp_in; decide) dX12_also_53 (fun I1 H locs eI1 hM hS => ?_)
  have hw := hw I1 eI1
  refine lv_aload_n hx hb dX12_also_54 rfl (lv_at hl 0 rfl) ?_
  refine m_getr E hM fs_X12_7 ho.1 (isO_at ho 0 rfl).1 dX12_also_55 ?_
  refine lv_iconst (v := 4) hx hb dX12_also_58 (by decide) ?_
  refine lv_iload_n hx hb dX12_also_59 rfl (lv_at hl 2 rfl) ?_
  refine m_iast E hM hS (isO_at ho 0 rfl).2 (by unfold vp_in; decide) dX12_also_60 (fun I2 H locs eI2 hM hS => ?_)
  have hw := hw I2 eI2
  exact m_retv hx hb hr hlk hM hS ⟨_, rfl, hw⟩ dX12_also_61
def w_X12_also (I : mI) (o : Nat) (a1 : Int32) (a2 : Int32) (post : mI → Prop) : Prop := (¬ (I o 8) = 0 → post I) ∧ ((I o 8) = 0 → ((I (o + 1) (3 : Int32).toNatClampNeg) = 0 → (w_X12_also_47 o a1 a2 post) I) ∧ (¬ (I (o + 1) (3 : Int32).toNatClampNeg) = 0 → ((I (o + 1) (4 : Int32).toNatClampNeg) < a2 → post I) ∧ (¬ (I (o + 1) (4 : Int32).toNatClampNeg) < a2 → (¬ (I (o + 1) (4 : Int32).toNatClampNeg) = a2 → (w_X12_also_47 o a1 a2 post) I) ∧ ((I (o + 1) (4 : Int32).toNatClampNeg) = a2 → (a1 < (I (o + 1) (3 : Int32).toNatClampNeg) → (w_X12_also_47 o a1 a2 post) I) ∧ (¬ a1 < (I (o + 1) (3 : Int32).toNatClampNeg) → post I)))))
set_option maxRecDepth 100000 in
set_option maxHeartbeats 4000000 in
theorem c_X12_also {l : Launch} {D : va_G} {cA : Nat → ClassId} {Z : mZ} {bs : Ad} {n : Nat} {K : mK} {R : mR} {I : mI} {L : mL} {o : Nat} {a1 : Int32} {a2 : Int32} {post : mI → Prop} (ho : isX12 K R o) (hw : w_X12_also I o a1 a2 post) : Met l yX12_also (.code yX12_also cX12_also 3 none :: gw) ({ frames := 0, cells := 0, slots := 0, locals := 0 } : Room) (PreM D cA Z bs (n, K, R, I, L) [.ref (ad bs o), .int a1, .int a2]) (QV D cA bs (fun u => ∃ I', u = (n, K, R, I', L) ∧ post I')) 0 0 (Ab bs) := by
  refine m_met (by decide) (Nat.le_of_ble_eq_true rfl) (fun p e s m below meth c ls E hr hlk hM hS hl => ?_)
  have E : Ev p s m _ c cX12_also 3 RX12 D cA Z bs := E
  have hl : lv_has ls 3 [(0, .ref (ad bs o)), (1, .int a1), (2, .int a2)] := hl
  have hx := E.1.1
  have hb := E.1.2.1
  generalize hHe : s.heap = H at hM ⊢
  have hS : va_S (Ab bs) s.heap H [] := by rw [← hHe]; exact va_S.rf
  clear hHe
  refine lv_aload_n hx hb dX12_also_0 rfl (lv_at hl 0 rfl) ?_
  refine m_geti E hM fs_X12_126 ho.1 dX12_also_1 ?_
  refine lv_if_ne (tgt := 46) hx hb dX12_also_4 (by decide) (fun cq => ?_) (fun cq => ?_)
  · have hw := hw.1 cq
    exact m_retv hx hb hr hlk hM hS ⟨_, rfl, hw⟩ dX12_also_46
  · have hw := hw.2 cq
    refine lv_aload_n hx hb dX12_also_7 rfl (lv_at hl 0 rfl) ?_
    refine m_getr E hM fs_X12_7 ho.1 (isO_at ho 0 rfl).1 dX12_also_8 ?_
    refine lv_iconst (v := 3) hx hb dX12_also_11 (by decide) ?_
    refine m_iald E hM (isO_at ho 0 rfl).2 (by unfold vp_in; decide) dX12_also_12 ?_
    refine lv_if_eq (tgt := 47) hx hb dX12_also_13 (by decide) (fun cq => ?_) (fun cq => ?_)
    · have hw := hw.1 cq
      exact s_X12_also_47 E hr hlk ho  hw hM hS (lv_sub hl [0, 1, 2] rfl)
    · have hw := hw.2 cq
      refine lv_aload_n hx hb dX12_also_16 rfl (lv_at hl 0 rfl) ?_
      refine m_getr E hM fs_X12_7 ho.1 (isO_at ho 0 rfl).1 dX12_also_17 ?_
      refine lv_iconst (v := 4) hx hb dX12_also_20 (by decide) ?_
      refine m_iald E hM (isO_at ho 0 rfl).2 (by unfold vp_in; decide) dX12_also_21 ?_
      refine lv_iload_n hx hb dX12_also_22 rfl (lv_at hl 2 rfl) ?_
      refine lv_icmp_lt (tgt := 46) hx hb dX12_also_23 (by decide) (fun cq => ?_) (fun cq => ?_)
      · have hw := hw.1 cq
        exact m_retv hx hb hr hlk hM hS ⟨_, rfl, hw⟩ dX12_also_46
      · have hw := hw.2 cq
        refine lv_aload_n hx hb dX12_also_26 rfl (lv_at hl 0 rfl) ?_
        refine m_getr E hM fs_X12_7 ho.1 (isO_at ho 0 rfl).1 dX12_also_27 ?_
        refine lv_iconst (v := 4) hx hb dX12_also_30 (by decide) ?_
        refine m_iald E hM (isO_at ho 0 rfl).2 (by unfold vp_in; decide) dX12_also_31 ?_
        refine lv_iload_n hx hb dX12_also_32 rfl (lv_at hl 2 rfl) ?_
        refine lv_icmp_ne (tgt := 47) hx hb dX12_also_33 (by decide) (fun cq => ?_) (fun cq => ?_)
        · have hw := hw.1 cq
          exact s_X12_also_47 E hr hlk ho  hw hM hS (lv_sub hl [0, 1, 2] rfl)
        · have hw := hw.2 cq
          refine lv_aload_n hx hb dX12_also_36 rfl (lv_at hl 0 rfl) ?_
          refine m_getr E hM fs_X12_7 ho.1 (isO_at ho 0 rfl).1 dX12_also_37 ?_
          refine lv_iconst (v := 3) hx hb dX12_also_40 (by decide) ?_
          refine m_iald E hM (isO_at ho 0 rfl).2 (by unfold vp_in; decide) dX12_also_41 ?_
          refine lv_iload_n hx hb dX12_also_42 rfl (lv_at hl 1 rfl) ?_
          refine lv_icmp_gt (tgt := 47) hx hb dX12_also_43 (by decide) (fun cq => ?_) (fun cq => ?_)
          · have hw := hw.1 cq
            exact s_X12_also_47 E hr hlk ho  hw hM hS (lv_sub hl [0, 1, 2] rfl)
          · have hw := hw.2 cq
            exact m_retv hx hb hr hlk hM hS ⟨_, rfl, hw⟩ dX12_also_46
theorem dX12_numbered_0 : decode cX12_numbered 0 = .ok (.aload_n 0, 1) := by decide +kernel
theorem dX12_numbered_1 : decode cX12_numbered 1 = .ok (.getfield 126, 3) := by decide +kernel
theorem dX12_numbered_4 : decode cX12_numbered 4 = .ok (.ifCond .ne 11, 3) := by decide +kernel
theorem dX12_numbered_7 : decode cX12_numbered 7 = .ok (.aload_n 0, 1) := by decide +kernel
theorem dX12_numbered_8 : decode cX12_numbered 8 = .ok (.getfield 102, 3) := by decide +kernel
theorem dX12_numbered_11 : decode cX12_numbered 11 = .ok (.iconst 1, 1) := by decide +kernel
theorem dX12_numbered_12 : decode cX12_numbered 12 = .ok (.if_icmp .eq 9, 3) := by decide +kernel
theorem dX12_numbered_15 : decode cX12_numbered 15 = .ok (.aload_n 0, 1) := by decide +kernel
theorem dX12_numbered_16 : decode cX12_numbered 16 = .ok (.invokevirtual 130, 3) := by decide +kernel
theorem dX12_numbered_19 : decode cX12_numbered 19 = .ok (.iload_n 1, 1) := by decide +kernel
theorem dX12_numbered_20 : decode cX12_numbered 20 = .ok (.ireturn, 1) := by decide +kernel
theorem dX12_numbered_21 : decode cX12_numbered 21 = .ok (.aload_n 0, 1) := by decide +kernel
theorem dX12_numbered_22 : decode cX12_numbered 22 = .ok (.getfield 123, 3) := by decide +kernel
theorem dX12_numbered_25 : decode cX12_numbered 25 = .ok (.istore_n 3, 1) := by decide +kernel
theorem dX12_numbered_26 : decode cX12_numbered 26 = .ok (.iload_n 3, 1) := by decide +kernel
theorem dX12_numbered_27 : decode cX12_numbered 27 = .ok (.iload_n 1, 1) := by decide +kernel
theorem dX12_numbered_28 : decode cX12_numbered 28 = .ok (.iload_n 2, 1) := by decide +kernel
theorem dX12_numbered_29 : decode cX12_numbered 29 = .ok (.invokestatic 133, 3) := by decide +kernel
theorem dX12_numbered_32 : decode cX12_numbered 32 = .ok (.ifCond .ne 12, 3) := by decide +kernel
theorem dX12_numbered_35 : decode cX12_numbered 35 = .ok (.aload_n 0, 1) := by decide +kernel
theorem dX12_numbered_36 : decode cX12_numbered 36 = .ok (.iconst 2, 1) := by decide +kernel
theorem dX12_numbered_37 : decode cX12_numbered 37 = .ok (.aload_n 0, 1) := by decide +kernel
theorem dX12_numbered_38 : decode cX12_numbered 38 = .ok (.getfield 99, 3) := by decide +kernel
theorem dX12_numbered_41 : decode cX12_numbered 41 = .ok (.invokevirtual 137, 3) := by decide +kernel
theorem dX12_numbered_44 : decode cX12_numbered 44 = .ok (.aload_n 0, 1) := by decide +kernel
theorem dX12_numbered_45 : decode cX12_numbered 45 = .ok (.invokevirtual 141, 3) := by decide +kernel
theorem dX12_numbered_48 : decode cX12_numbered 48 = .ok (.iload_n 3, 1) := by decide +kernel
theorem dX12_numbered_49 : decode cX12_numbered 49 = .ok (.iload_n 1, 1) := by decide +kernel
theorem dX12_numbered_50 : decode cX12_numbered 50 = .ok (.iload_n 2, 1) := by decide +kernel
theorem dX12_numbered_51 : decode cX12_numbered 51 = .ok (.invokestatic 133, 3) := by decide +kernel
theorem dX12_numbered_54 : decode cX12_numbered 54 = .ok (.ifCond .eq 7, 3) := by decide +kernel
theorem dX12_numbered_57 : decode cX12_numbered 57 = .ok (.iload_n 3, 1) := by decide +kernel
theorem dX12_numbered_58 : decode cX12_numbered 58 = .ok (.goto 4, 3) := by decide +kernel
theorem dX12_numbered_61 : decode cX12_numbered 61 = .ok (.iload_n 1, 1) := by decide +kernel
theorem dX12_numbered_62 : decode cX12_numbered 62 = .ok (.ireturn, 1) := by decide +kernel
def w_X12_numbered_15 (o : Nat) (a1 : Int32) (a2 : Int32) (post : Int32 → mI → Prop) (I : mI) : Prop := w_X12_ends I o (fun I6 => post a1 I6)
set_option maxRecDepth 100000 in
set_option maxHeartbeats 4000000 in
theorem s_X12_numbered_15 {p : Program} {l : Launch} {e : Env} {s : State} {m : MethodId} {args : Array Value} {below : List Frame} {meth : Method} {c : Code} {D : va_G} {cA : Nat → ClassId} {Z : mZ} {bs : Ad} {n : Nat} {K : mK} {R : mR} {L : mL} (E : Ev p s m args c cX12_numbered 4 RX12 D cA Z bs) (hr : meth.sig.returnType = (some .int)) (hlk : meth.locks = false) {o : Nat} {a1 : Int32} {a2 : Int32} (ho : isX12 K R o) {post : Int32 → mI → Prop} {I : mI} {H : Heap} {locs : List Loc} {ls : Array Slot} (hw : w_X12_numbered_15 o a1 a2 post I) (hM : mm D cA bs (n, K, R, I, L) H) (hS : va_S (Ab bs) s.heap H locs) (hl : lv_has ls 4 [(0, .ref (ad bs o)), (1, .int a1)]) : W p l e ({ frames := 4, cells := 0, slots := 0, locals := 94 } : Room) s m args below meth c H locs 0 0 (MQ below (QI D cA bs (fun r u => ∃ I', u = (n, K, R, I', L) ∧ post r I')) args s 0 0 (Ab bs)) (F0 m 15 ls []) := by
  have hx := E.1.1
  have hb := E.1.2.1
  refine lv_aload_n hx hb dX12_numbered_15 rfl (lv_at hl 0 rfl) ?_
  refine m_cv (m_runV E hM hS cs_X12_130 ho.1 (by decide) rfl rfl (c_X12_ends ho hw) rfl rfl ⟨Nat.le_of_ble_eq_true rfl, Nat.le_of_ble_eq_true rfl⟩ rfl hl.1 rfl (Nat.le_of_ble_eq_true rfl) dX12_numbered_16 ⟨Nat.le_of_ble_eq_true rfl, Nat.le_of_ble_eq_true rfl⟩) hS (fun u H locs hp hM hS => ?_)
  obtain ⟨I6, rfl, hw⟩ := hp
  refine lv_iload_n hx hb dX12_numbered_19 rfl (lv_at hl 1 rfl) ?_
  exact m_reti hx hb hr hlk hM hS ⟨_, rfl, hw⟩ dX12_numbered_20
def w_X12_numbered_44 (o : Nat) (a1 : Int32) (a2 : Int32) (post : Int32 → mI → Prop) (I : mI) (v3 : Int32) : Prop := w_X12_advance I o (fun I4 => w_X12_isIn v3 a1 a2 (fun b5 => (b5 = false → post a1 I4) ∧ (b5 = true → post v3 I4)))
set_option maxRecDepth 100000 in
set_option maxHeartbeats 4000000 in
theorem s_X12_numbered_44 {p : Program} {l : Launch} {e : Env} {s : State} {m : MethodId} {args : Array Value} {below : List Frame} {meth : Method} {c : Code} {D : va_G} {cA : Nat → ClassId} {Z : mZ} {bs : Ad} {n : Nat} {K : mK} {R : mR} {L : mL} (E : Ev p s m args c cX12_numbered 4 RX12 D cA Z bs) (hr : meth.sig.returnType = (some .int)) (hlk : meth.locks = false) {o : Nat} {a1 : Int32} {a2 : Int32} (ho : isX12 K R o) {post : Int32 → mI → Prop} {I : mI} {v3 : Int32} {H : Heap} {locs : List Loc} {ls : Array Slot} (hw : w_X12_numbered_44 o a1 a2 post I v3) (hM : mm D cA bs (n, K, R, I, L) H) (hS : va_S (Ab bs) s.heap H locs) (hl : lv_has ls 4 [(0, .ref (ad bs o)), (1, .int a1), (2, .int a2), (3, .int v3)]) : W p l e ({ frames := 4, cells := 0, slots := 0, locals := 94 } : Room) s m args below meth c H locs 0 0 (MQ below (QI D cA bs (fun r u => ∃ I', u = (n, K, R, I', L) ∧ post r I')) args s 0 0 (Ab bs)) (F0 m 44 ls []) := by
  have hx := E.1.1
  have hb := E.1.2.1
  refine lv_aload_n hx hb dX12_numbered_44 rfl (lv_at hl 0 rfl) ?_
  refine m_cv (m_runV E hM hS cs_X12_141 ho.1 (by decide) rfl rfl (c_X12_advance ho hw) rfl rfl ⟨Nat.le_of_ble_eq_true rfl, Nat.le_of_ble_eq_true rfl⟩ rfl hl.1 rfl (Nat.le_of_ble_eq_true rfl) dX12_numbered_45 ⟨Nat.le_of_ble_eq_true rfl, Nat.le_of_ble_eq_true rfl⟩) hS (fun u H locs hp hM hS => ?_)
  obtain ⟨I4, rfl, hw⟩ := hp
  refine lv_iload_n hx hb dX12_numbered_48 rfl (lv_at hl 3 rfl) ?_
  refine lv_iload_n hx hb dX12_numbered_49 rfl (lv_at hl 1 rfl) ?_
  refine lv_iload_n hx hb dX12_numbered_50 rfl (lv_at hl 2 rfl) ?_
  refine m_ci (m_runS E hM hS cs_X12_133 (c_X12_isIn  hw) rfl rfl ⟨Nat.le_of_ble_eq_true rfl, Nat.le_of_ble_eq_true rfl⟩ rfl hl.1 rfl (Nat.le_of_ble_eq_true rfl) dX12_numbered_51 ⟨Nat.le_of_ble_eq_true rfl, Nat.le_of_ble_eq_true rfl⟩) hS (fun r9 u H locs hp hM hS => ?_)
  obtain ⟨b5, rfl, rfl, hw⟩ := hp
  refine lv_if_eq (tgt := 61) hx hb dX12_numbered_54 (by decide) (fun cq => ?_) (fun cq => ?_)
  · have hw := hw.1 (bI_f cq)
    refine lv_iload_n hx hb dX12_numbered_61 rfl (lv_at hl 1 rfl) ?_
    exact m_reti hx hb hr hlk hM hS ⟨_, rfl, hw⟩ dX12_numbered_62
  · have hw := hw.2 (bI_t cq)
    refine lv_iload_n hx hb dX12_numbered_57 rfl (lv_at hl 3 rfl) ?_
    refine lv_goto (tgt := 62) hx hb dX12_numbered_58 (by decide) ?_
    exact m_reti hx hb hr hlk hM hS ⟨_, rfl, hw⟩ dX12_numbered_62
def w_X12_numbered (I : mI) (o : Nat) (a1 : Int32) (a2 : Int32) (post : Int32 → mI → Prop) : Prop := (¬ (I o 8) = 0 → (w_X12_numbered_15 o a1 a2 post) I) ∧ ((I o 8) = 0 → ((I o 5) = 1 → ∀ x1, x1 = (I o 6) → w_X12_isIn x1 a1 a2 (fun b2 => (b2 = true → (w_X12_numbered_44 o a1 a2 post) I x1) ∧ (b2 = false → w_X12_also I o 2 (I o 4) (fun I3 => (w_X12_numbered_44 o a1 a2 post) I3 x1)))) ∧ (¬ (I o 5) = 1 → (w_X12_numbered_15 o a1 a2 post) I))
set_option maxRecDepth 100000 in
set_option maxHeartbeats 4000000 in
theorem c_X12_numbered {l : Launch} {D : va_G} {cA : Nat → ClassId} {Z : mZ} {bs : Ad} {n : Nat} {K : mK} {R : mR} {I : mI} {L : mL} {o : Nat} {a1 : Int32} {a2 : Int32} {post : Int32 → mI → Prop} (ho : isX12 K R o) (hw : w_X12_numbered I o a1 a2 post) : Met l yX12_numbered (.code yX12_numbered cX12_numbered 4 (some .int) :: gw) ({ frames := 4, cells := 0, slots := 0, locals := 94 } : Room) (PreM D cA Z bs (n, K, R, I, L) [.ref (ad bs o), .int a1, .int a2]) (QI D cA bs (fun r u => ∃ I', u = (n, K, R, I', L) ∧ post r I')) 0 0 (Ab bs) := by
  refine m_met (by decide) (Nat.le_of_ble_eq_true rfl) (fun p e s m below meth c ls E hr hlk hM hS hl => ?_)
  have E : Ev p s m _ c cX12_numbered 4 RX12 D cA Z bs := E
  have hl : lv_has ls 4 [(0, .ref (ad bs o)), (1, .int a1), (2, .int a2)] := hl
  have hx := E.1.1
  have hb := E.1.2.1
  generalize hHe : s.heap = H at hM ⊢
  have hS : va_S (Ab bs) s.heap H [] := by rw [← hHe]; exact va_S.rf
  clear hHe
  refine lv_aload_n hx hb dX12_numbered_0 rfl (lv_at hl 0 rfl) ?_
  refine m_geti E hM fs_X12_126 ho.1 dX12_numbered_1 ?_
  refine lv_if_ne (tgt := 15) hx hb dX12_numbered_4 (by decide) (fun cq => ?_) (fun cq => ?_)
  · have hw := hw.1 cq
    exact s_X12_numbered_15 E hr hlk ho  hw hM hS (lv_sub hl [0, 1] rfl)
  · have hw := hw.2 cq
    refine lv_aload_n hx hb dX12_numbered_7 rfl (lv_at hl 0 rfl) ?_
    refine m_geti E hM fs_X12_102 ho.1 dX12_numbered_8 ?_
    refine lv_iconst (v := 1) hx hb dX12_numbered_11 (by decide) ?_
    refine lv_icmp_eq (tgt := 21) hx hb dX12_numbered_12 (by decide) (fun cq => ?_) (fun cq => ?_)
    · have hw := hw.1 cq
      refine lv_aload_n hx hb dX12_numbered_21 rfl (lv_at hl 0 rfl) ?_
      refine m_geti E hM fs_X12_123 ho.1 dX12_numbered_22 ?_
      refine lv_topi (fun x1 ex1 => ?_)
      have hw := hw x1 ex1
      refine lv_istore_n (lv' := [(3, .int x1), (0, .ref (ad bs o)), (1, .int a1), (2, .int a2)]) hx hb dX12_numbered_25 rfl hl (by decide) rfl (fun ls hl => ?_)
      refine lv_iload_n hx hb dX12_numbered_26 rfl (lv_at hl 0 rfl) ?_
      refine lv_iload_n hx hb dX12_numbered_27 rfl (lv_at hl 2 rfl) ?_
      refine lv_iload_n hx hb dX12_numbered_28 rfl (lv_at hl 3 rfl) ?_
      refine m_ci (m_runS E hM hS cs_X12_133 (c_X12_isIn  hw) rfl rfl ⟨Nat.le_of_ble_eq_true rfl, Nat.le_of_ble_eq_true rfl⟩ rfl hl.1 rfl (Nat.le_of_ble_eq_true rfl) dX12_numbered_29 ⟨Nat.le_of_ble_eq_true rfl, Nat.le_of_ble_eq_true rfl⟩) hS (fun r9 u H locs hp hM hS => ?_)
      obtain ⟨b2, rfl, rfl, hw⟩ := hp
      refine lv_if_ne (tgt := 44) hx hb dX12_numbered_32 (by decide) (fun cq => ?_) (fun cq => ?_)
      · have hw := hw.1 (bI_t cq)
        exact s_X12_numbered_44 E hr hlk ho  hw hM hS (lv_sub hl [1, 2, 3, 0] rfl)
      · have hw := hw.2 (bI_f cq)
        refine lv_aload_n hx hb dX12_numbered_35 rfl (lv_at hl 1 rfl) ?_
        refine lv_iconst (v := 2) hx hb dX12_numbered_36 (by decide) ?_
        refine lv_aload_n hx hb dX12_numbered_37 rfl (lv_at hl 1 rfl) ?_
        refine m_geti E hM fs_X12_99 ho.1 dX12_numbered_38 ?_
        refine m_cv (m_runV E hM hS cs_X12_137 ho.1 (by decide) rfl rfl (c_X12_also ho hw) rfl rfl ⟨Nat.le_of_ble_eq_true rfl, Nat.le_of_ble_eq_true rfl⟩ rfl hl.1 rfl (Nat.le_of_ble_eq_true rfl) dX12_numbered_41 ⟨Nat.le_of_ble_eq_true rfl, Nat.le_of_ble_eq_true rfl⟩) hS (fun u H locs hp hM hS => ?_)
        obtain ⟨I3, rfl, hw⟩ := hp
        exact s_X12_numbered_44 E hr hlk ho  hw hM hS (lv_sub hl [1, 2, 3, 0] rfl)
    · have hw := hw.2 cq
      exact s_X12_numbered_15 E hr hlk ho  hw hM hS (lv_sub hl [0, 1] rfl)
theorem dX12_takes_0 : decode cX12_takes 0 = .ok (.aload_n 0, 1) := by decide +kernel
theorem dX12_takes_1 : decode cX12_takes 1 = .ok (.getfield 126, 3) := by decide +kernel
theorem dX12_takes_4 : decode cX12_takes 4 = .ok (.ifCond .ne 23, 3) := by decide +kernel
theorem dX12_takes_7 : decode cX12_takes 7 = .ok (.aload_n 0, 1) := by decide +kernel
theorem dX12_takes_8 : decode cX12_takes 8 = .ok (.getfield 102, 3) := by decide +kernel
theorem dX12_takes_11 : decode cX12_takes 11 = .ok (.iconst 3, 1) := by decide +kernel
theorem dX12_takes_12 : decode cX12_takes 12 = .ok (.if_icmp .ne 15, 3) := by decide +kernel
theorem dX12_takes_15 : decode cX12_takes 15 = .ok (.aload_n 0, 1) := by decide +kernel
theorem dX12_takes_16 : decode cX12_takes 16 = .ok (.getfield 117, 3) := by decide +kernel
theorem dX12_takes_19 : decode cX12_takes 19 = .ok (.iload_n 1, 1) := by decide +kernel
theorem dX12_takes_20 : decode cX12_takes 20 = .ok (.iload_n 2, 1) := by decide +kernel
theorem dX12_takes_21 : decode cX12_takes 21 = .ok (.invokestatic 133, 3) := by decide +kernel
theorem dX12_takes_24 : decode cX12_takes 24 = .ok (.ifCond .ne 9, 3) := by decide +kernel
theorem dX12_takes_27 : decode cX12_takes 27 = .ok (.aload_n 0, 1) := by decide +kernel
theorem dX12_takes_28 : decode cX12_takes 28 = .ok (.invokevirtual 130, 3) := by decide +kernel
theorem dX12_takes_31 : decode cX12_takes 31 = .ok (.iconst 0, 1) := by decide +kernel
theorem dX12_takes_32 : decode cX12_takes 32 = .ok (.ireturn, 1) := by decide +kernel
theorem dX12_takes_33 : decode cX12_takes 33 = .ok (.aload_n 0, 1) := by decide +kernel
theorem dX12_takes_34 : decode cX12_takes 34 = .ok (.getfield 117, 3) := by decide +kernel
theorem dX12_takes_37 : decode cX12_takes 37 = .ok (.istore_n 3, 1) := by decide +kernel
theorem dX12_takes_38 : decode cX12_takes 38 = .ok (.aload_n 0, 1) := by decide +kernel
theorem dX12_takes_39 : decode cX12_takes 39 = .ok (.invokevirtual 141, 3) := by decide +kernel
theorem dX12_takes_42 : decode cX12_takes 42 = .ok (.iload_n 3, 1) := by decide +kernel
theorem dX12_takes_43 : decode cX12_takes 43 = .ok (.ireturn, 1) := by decide +kernel
def w_X12_takes_27 (o : Nat) (a1 : Int32) (a2 : Int32) (post : Int32 → mI → Prop) (I : mI) : Prop := w_X12_ends I o (fun I4 => post 0 I4)
set_option maxRecDepth 100000 in
set_option maxHeartbeats 4000000 in
theorem s_X12_takes_27 {p : Program} {l : Launch} {e : Env} {s : State} {m : MethodId} {args : Array Value} {below : List Frame} {meth : Method} {c : Code} {D : va_G} {cA : Nat → ClassId} {Z : mZ} {bs : Ad} {n : Nat} {K : mK} {R : mR} {L : mL} (E : Ev p s m args c cX12_takes 4 RX12 D cA Z bs) (hr : meth.sig.returnType = (some .int)) (hlk : meth.locks = false) {o : Nat} {a1 : Int32} {a2 : Int32} (ho : isX12 K R o) {post : Int32 → mI → Prop} {I : mI} {H : Heap} {locs : List Loc} {ls : Array Slot} (hw : w_X12_takes_27 o a1 a2 post I) (hM : mm D cA bs (n, K, R, I, L) H) (hS : va_S (Ab bs) s.heap H locs) (hl : lv_has ls 4 [(0, .ref (ad bs o))]) : W p l e ({ frames := 4, cells := 0, slots := 0, locals := 94 } : Room) s m args below meth c H locs 0 0 (MQ below (QI D cA bs (fun r u => ∃ I', u = (n, K, R, I', L) ∧ post r I')) args s 0 0 (Ab bs)) (F0 m 27 ls []) := by
  have hx := E.1.1
  have hb := E.1.2.1
  refine lv_aload_n hx hb dX12_takes_27 rfl (lv_at hl 0 rfl) ?_
  refine m_cv (m_runV E hM hS cs_X12_130 ho.1 (by decide) rfl rfl (c_X12_ends ho hw) rfl rfl ⟨Nat.le_of_ble_eq_true rfl, Nat.le_of_ble_eq_true rfl⟩ rfl hl.1 rfl (Nat.le_of_ble_eq_true rfl) dX12_takes_28 ⟨Nat.le_of_ble_eq_true rfl, Nat.le_of_ble_eq_true rfl⟩) hS (fun u H locs hp hM hS => ?_)
  obtain ⟨I4, rfl, hw⟩ := hp
  refine lv_iconst (v := 0) hx hb dX12_takes_31 (by decide) ?_
  exact m_reti hx hb hr hlk hM hS ⟨_, rfl, hw⟩ dX12_takes_32
def w_X12_takes (I : mI) (o : Nat) (a1 : Int32) (a2 : Int32) (post : Int32 → mI → Prop) : Prop := (¬ (I o 8) = 0 → (w_X12_takes_27 o a1 a2 post) I) ∧ ((I o 8) = 0 → (¬ (I o 5) = 3 → (w_X12_takes_27 o a1 a2 post) I) ∧ ((I o 5) = 3 → w_X12_isIn (I o 7) a1 a2 (fun b1 => (b1 = true → ∀ x2, x2 = (I o 7) → w_X12_advance I o (fun I3 => post x2 I3)) ∧ (b1 = false → (w_X12_takes_27 o a1 a2 post) I))))
set_option maxRecDepth 100000 in
set_option maxHeartbeats 4000000 in
theorem c_X12_takes {l : Launch} {D : va_G} {cA : Nat → ClassId} {Z : mZ} {bs : Ad} {n : Nat} {K : mK} {R : mR} {I : mI} {L : mL} {o : Nat} {a1 : Int32} {a2 : Int32} {post : Int32 → mI → Prop} (ho : isX12 K R o) (hw : w_X12_takes I o a1 a2 post) : Met l yX12_takes (.code yX12_takes cX12_takes 4 (some .int) :: gw) ({ frames := 4, cells := 0, slots := 0, locals := 94 } : Room) (PreM D cA Z bs (n, K, R, I, L) [.ref (ad bs o), .int a1, .int a2]) (QI D cA bs (fun r u => ∃ I', u = (n, K, R, I', L) ∧ post r I')) 0 0 (Ab bs) := by
  refine m_met (by decide) (Nat.le_of_ble_eq_true rfl) (fun p e s m below meth c ls E hr hlk hM hS hl => ?_)
  have E : Ev p s m _ c cX12_takes 4 RX12 D cA Z bs := E
  have hl : lv_has ls 4 [(0, .ref (ad bs o)), (1, .int a1), (2, .int a2)] := hl
  have hx := E.1.1
  have hb := E.1.2.1
  generalize hHe : s.heap = H at hM ⊢
  have hS : va_S (Ab bs) s.heap H [] := by rw [← hHe]; exact va_S.rf
  clear hHe
  refine lv_aload_n hx hb dX12_takes_0 rfl (lv_at hl 0 rfl) ?_
  refine m_geti E hM fs_X12_126 ho.1 dX12_takes_1 ?_
  refine lv_if_ne (tgt := 27) hx hb dX12_takes_4 (by decide) (fun cq => ?_) (fun cq => ?_)
  · have hw := hw.1 cq
    exact s_X12_takes_27 E hr hlk ho  hw hM hS (lv_sub hl [0] rfl)
  · have hw := hw.2 cq
    refine lv_aload_n hx hb dX12_takes_7 rfl (lv_at hl 0 rfl) ?_
    refine m_geti E hM fs_X12_102 ho.1 dX12_takes_8 ?_
    refine lv_iconst (v := 3) hx hb dX12_takes_11 (by decide) ?_
    refine lv_icmp_ne (tgt := 27) hx hb dX12_takes_12 (by decide) (fun cq => ?_) (fun cq => ?_)
    · have hw := hw.1 cq
      exact s_X12_takes_27 E hr hlk ho  hw hM hS (lv_sub hl [0] rfl)
    · have hw := hw.2 cq
      refine lv_aload_n hx hb dX12_takes_15 rfl (lv_at hl 0 rfl) ?_
      refine m_geti E hM fs_X12_117 ho.1 dX12_takes_16 ?_
      refine lv_iload_n hx hb dX12_takes_19 rfl (lv_at hl 1 rfl) ?_
      refine lv_iload_n hx hb dX12_takes_20 rfl (lv_at hl 2 rfl) ?_
      refine m_ci (m_runS E hM hS cs_X12_133 (c_X12_isIn  hw) rfl rfl ⟨Nat.le_of_ble_eq_true rfl, Nat.le_of_ble_eq_true rfl⟩ rfl hl.1 rfl (Nat.le_of_ble_eq_true rfl) dX12_takes_21 ⟨Nat.le_of_ble_eq_true rfl, Nat.le_of_ble_eq_true rfl⟩) hS (fun r9 u H locs hp hM hS => ?_)
      obtain ⟨b1, rfl, rfl, hw⟩ := hp
      refine lv_if_ne (tgt := 33) hx hb dX12_takes_24 (by decide) (fun cq => ?_) (fun cq => ?_)
      · have hw := hw.1 (bI_t cq)
        refine lv_aload_n hx hb dX12_takes_33 rfl (lv_at hl 0 rfl) ?_
        refine m_geti E hM fs_X12_117 ho.1 dX12_takes_34 ?_
        refine lv_topi (fun x2 ex2 => ?_)
        have hw := hw x2 ex2
        refine lv_istore_n (lv' := [(3, .int x2), (0, .ref (ad bs o)), (1, .int a1), (2, .int a2)]) hx hb dX12_takes_37 rfl hl (by decide) rfl (fun ls hl => ?_)
        refine lv_aload_n hx hb dX12_takes_38 rfl (lv_at hl 1 rfl) ?_
        refine m_cv (m_runV E hM hS cs_X12_141 ho.1 (by decide) rfl rfl (c_X12_advance ho hw) rfl rfl ⟨Nat.le_of_ble_eq_true rfl, Nat.le_of_ble_eq_true rfl⟩ rfl hl.1 rfl (Nat.le_of_ble_eq_true rfl) dX12_takes_39 ⟨Nat.le_of_ble_eq_true rfl, Nat.le_of_ble_eq_true rfl⟩) hS (fun u H locs hp hM hS => ?_)
        obtain ⟨I3, rfl, hw⟩ := hp
        refine lv_iload_n hx hb dX12_takes_42 rfl (lv_at hl 0 rfl) ?_
        exact m_reti hx hb hr hlk hM hS ⟨_, rfl, hw⟩ dX12_takes_43
      · have hw := hw.2 (bI_f cq)
        exact s_X12_takes_27 E hr hlk ho  hw hM hS (lv_sub hl [0] rfl)
theorem dX12_endsLine_0 : decode cX12_endsLine 0 = .ok (.aload_n 0, 1) := by decide +kernel
theorem dX12_endsLine_1 : decode cX12_endsLine 1 = .ok (.getfield 126, 3) := by decide +kernel
theorem dX12_endsLine_4 : decode cX12_endsLine 4 = .ok (.ifCond .ne 18, 3) := by decide +kernel
theorem dX12_endsLine_7 : decode cX12_endsLine 7 = .ok (.aload_n 0, 1) := by decide +kernel
theorem dX12_endsLine_8 : decode cX12_endsLine 8 = .ok (.getfield 102, 3) := by decide +kernel
theorem dX12_endsLine_11 : decode cX12_endsLine 11 = .ok (.iconst 2, 1) := by decide +kernel
theorem dX12_endsLine_12 : decode cX12_endsLine 12 = .ok (.if_icmp .ne 10, 3) := by decide +kernel
theorem dX12_endsLine_15 : decode cX12_endsLine 15 = .ok (.aload_n 0, 1) := by decide +kernel
theorem dX12_endsLine_16 : decode cX12_endsLine 16 = .ok (.invokevirtual 141, 3) := by decide +kernel
theorem dX12_endsLine_19 : decode cX12_endsLine 19 = .ok (.goto 7, 3) := by decide +kernel
theorem dX12_endsLine_22 : decode cX12_endsLine 22 = .ok (.aload_n 0, 1) := by decide +kernel
theorem dX12_endsLine_23 : decode cX12_endsLine 23 = .ok (.invokevirtual 130, 3) := by decide +kernel
theorem dX12_endsLine_26 : decode cX12_endsLine 26 = .ok (.return_, 1) := by decide +kernel
def w_X12_endsLine_22 (o : Nat) (post : mI → Prop) (I : mI) : Prop := w_X12_ends I o (fun I2 => post I2)
set_option maxRecDepth 100000 in
set_option maxHeartbeats 4000000 in
theorem s_X12_endsLine_22 {p : Program} {l : Launch} {e : Env} {s : State} {m : MethodId} {args : Array Value} {below : List Frame} {meth : Method} {c : Code} {D : va_G} {cA : Nat → ClassId} {Z : mZ} {bs : Ad} {n : Nat} {K : mK} {R : mR} {L : mL} (E : Ev p s m args c cX12_endsLine 1 RX12 D cA Z bs) (hr : meth.sig.returnType = none) (hlk : meth.locks = false) {o : Nat} (ho : isX12 K R o) {post : mI → Prop} {I : mI} {H : Heap} {locs : List Loc} {ls : Array Slot} (hw : w_X12_endsLine_22 o post I) (hM : mm D cA bs (n, K, R, I, L) H) (hS : va_S (Ab bs) s.heap H locs) (hl : lv_has ls 1 [(0, .ref (ad bs o))]) : W p l e ({ frames := 4, cells := 0, slots := 0, locals := 94 } : Room) s m args below meth c H locs 0 0 (MQ below (QV D cA bs (fun u => ∃ I', u = (n, K, R, I', L) ∧ post I')) args s 0 0 (Ab bs)) (F0 m 22 ls []) := by
  have hx := E.1.1
  have hb := E.1.2.1
  refine lv_aload_n hx hb dX12_endsLine_22 rfl (lv_at hl 0 rfl) ?_
  refine m_cv (m_runV E hM hS cs_X12_130 ho.1 (by decide) rfl rfl (c_X12_ends ho hw) rfl rfl ⟨Nat.le_of_ble_eq_true rfl, Nat.le_of_ble_eq_true rfl⟩ rfl hl.1 rfl (Nat.le_of_ble_eq_true rfl) dX12_endsLine_23 ⟨Nat.le_of_ble_eq_true rfl, Nat.le_of_ble_eq_true rfl⟩) hS (fun u H locs hp hM hS => ?_)
  obtain ⟨I2, rfl, hw⟩ := hp
  exact m_retv hx hb hr hlk hM hS ⟨_, rfl, hw⟩ dX12_endsLine_26
def w_X12_endsLine (I : mI) (o : Nat) (post : mI → Prop) : Prop := (¬ (I o 8) = 0 → (w_X12_endsLine_22 o post) I) ∧ ((I o 8) = 0 → (¬ (I o 5) = 2 → (w_X12_endsLine_22 o post) I) ∧ ((I o 5) = 2 → w_X12_advance I o (fun I1 => post I1)))
set_option maxRecDepth 100000 in
set_option maxHeartbeats 4000000 in
theorem c_X12_endsLine {l : Launch} {D : va_G} {cA : Nat → ClassId} {Z : mZ} {bs : Ad} {n : Nat} {K : mK} {R : mR} {I : mI} {L : mL} {o : Nat} {post : mI → Prop} (ho : isX12 K R o) (hw : w_X12_endsLine I o post) : Met l yX12_endsLine (.code yX12_endsLine cX12_endsLine 1 none :: gw) ({ frames := 4, cells := 0, slots := 0, locals := 94 } : Room) (PreM D cA Z bs (n, K, R, I, L) [.ref (ad bs o)]) (QV D cA bs (fun u => ∃ I', u = (n, K, R, I', L) ∧ post I')) 0 0 (Ab bs) := by
  refine m_met (by decide) (Nat.le_of_ble_eq_true rfl) (fun p e s m below meth c ls E hr hlk hM hS hl => ?_)
  have E : Ev p s m _ c cX12_endsLine 1 RX12 D cA Z bs := E
  have hl : lv_has ls 1 [(0, .ref (ad bs o))] := hl
  have hx := E.1.1
  have hb := E.1.2.1
  generalize hHe : s.heap = H at hM ⊢
  have hS : va_S (Ab bs) s.heap H [] := by rw [← hHe]; exact va_S.rf
  clear hHe
  refine lv_aload_n hx hb dX12_endsLine_0 rfl (lv_at hl 0 rfl) ?_
  refine m_geti E hM fs_X12_126 ho.1 dX12_endsLine_1 ?_
  refine lv_if_ne (tgt := 22) hx hb dX12_endsLine_4 (by decide) (fun cq => ?_) (fun cq => ?_)
  · have hw := hw.1 cq
    exact s_X12_endsLine_22 E hr hlk ho  hw hM hS (lv_sub hl [0] rfl)
  · have hw := hw.2 cq
    refine lv_aload_n hx hb dX12_endsLine_7 rfl (lv_at hl 0 rfl) ?_
    refine m_geti E hM fs_X12_102 ho.1 dX12_endsLine_8 ?_
    refine lv_iconst (v := 2) hx hb dX12_endsLine_11 (by decide) ?_
    refine lv_icmp_ne (tgt := 22) hx hb dX12_endsLine_12 (by decide) (fun cq => ?_) (fun cq => ?_)
    · have hw := hw.1 cq
      exact s_X12_endsLine_22 E hr hlk ho  hw hM hS (lv_sub hl [0] rfl)
    · have hw := hw.2 cq
      refine lv_aload_n hx hb dX12_endsLine_15 rfl (lv_at hl 0 rfl) ?_
      refine m_cv (m_runV E hM hS cs_X12_141 ho.1 (by decide) rfl rfl (c_X12_advance ho hw) rfl rfl ⟨Nat.le_of_ble_eq_true rfl, Nat.le_of_ble_eq_true rfl⟩ rfl hl.1 rfl (Nat.le_of_ble_eq_true rfl) dX12_endsLine_16 ⟨Nat.le_of_ble_eq_true rfl, Nat.le_of_ble_eq_true rfl⟩) hS (fun u H locs hp hM hS => ?_)
      obtain ⟨I1, rfl, hw⟩ := hp
      refine lv_goto (tgt := 26) hx hb dX12_endsLine_19 (by decide) ?_
      exact m_retv hx hb hr hlk hM hS ⟨_, rfl, hw⟩ dX12_endsLine_26
theorem dX12_who_0 : decode cX12_who 0 = .ok (.aload_n 0, 1) := by decide +kernel
theorem dX12_who_1 : decode cX12_who 1 = .ok (.iconst 0, 1) := by decide +kernel
theorem dX12_who_2 : decode cX12_who 2 = .ok (.iconst 5, 1) := by decide +kernel
theorem dX12_who_3 : decode cX12_who 3 = .ok (.invokevirtual 144, 3) := by decide +kernel
theorem dX12_who_6 : decode cX12_who 6 = .ok (.istore_n 1, 1) := by decide +kernel
theorem dX12_who_7 : decode cX12_who 7 = .ok (.aload_n 0, 1) := by decide +kernel
theorem dX12_who_8 : decode cX12_who 8 = .ok (.iload_n 1, 1) := by decide +kernel
theorem dX12_who_9 : decode cX12_who 9 = .ok (.aload_n 0, 1) := by decide +kernel
theorem dX12_who_10 : decode cX12_who 10 = .ok (.getfield 148, 3) := by decide +kernel
theorem dX12_who_13 : decode cX12_who 13 = .ok (.if_icmp .le 7, 3) := by decide +kernel
theorem dX12_who_16 : decode cX12_who 16 = .ok (.iload_n 1, 1) := by decide +kernel
theorem dX12_who_17 : decode cX12_who 17 = .ok (.goto 7, 3) := by decide +kernel
theorem dX12_who_20 : decode cX12_who 20 = .ok (.aload_n 0, 1) := by decide +kernel
theorem dX12_who_21 : decode cX12_who 21 = .ok (.getfield 148, 3) := by decide +kernel
theorem dX12_who_24 : decode cX12_who 24 = .ok (.putfield 148, 3) := by decide +kernel
theorem dX12_who_27 : decode cX12_who 27 = .ok (.iload_n 1, 1) := by decide +kernel
theorem dX12_who_28 : decode cX12_who 28 = .ok (.ireturn, 1) := by decide +kernel
def w_X12_who_24 (o : Nat) (post : Int32 → mI → Prop) (I : mI) (v1 : Int32) (s1 : Int32) : Prop := ∀ I3, I3 = up2 I o 9 s1 → post v1 I3
set_option maxRecDepth 100000 in
set_option maxHeartbeats 4000000 in
theorem s_X12_who_24 {p : Program} {l : Launch} {e : Env} {s : State} {m : MethodId} {args : Array Value} {below : List Frame} {meth : Method} {c : Code} {D : va_G} {cA : Nat → ClassId} {Z : mZ} {bs : Ad} {n : Nat} {K : mK} {R : mR} {L : mL} (E : Ev p s m args c cX12_who 2 RX12 D cA Z bs) (hr : meth.sig.returnType = (some .int)) (hlk : meth.locks = false) {o : Nat} (ho : isX12 K R o) {post : Int32 → mI → Prop} {I : mI} {v1 : Int32} {s1 : Int32} {H : Heap} {locs : List Loc} {ls : Array Slot} (hw : w_X12_who_24 o post I v1 s1) (hM : mm D cA bs (n, K, R, I, L) H) (hS : va_S (Ab bs) s.heap H locs) (hl : lv_has ls 2 [(1, .int v1)]) : W p l e ({ frames := 5, cells := 0, slots := 0, locals := 117 } : Room) s m args below meth c H locs 0 0 (MQ below (QI D cA bs (fun r u => ∃ I', u = (n, K, R, I', L) ∧ post r I')) args s 0 0 (Ab bs)) (F0 m 24 ls [.int s1, .ref (ad bs o)]) := by
  have hx := E.1.1
  have hb := E.1.2.1
  refine m_puti E hM hS fp_X12_148 ho.1 rfl rfl dX12_who_24 (fun I3 H locs eI3 hM hS => ?_)
  have hw := hw I3 eI3
  refine lv_iload_n hx hb dX12_who_27 rfl (lv_at hl 0 rfl) ?_
  exact m_reti hx hb hr hlk hM hS ⟨_, rfl, hw⟩ dX12_who_28
def w_X12_who (I : mI) (o : Nat) (post : Int32 → mI → Prop) : Prop := w_X12_numbered I o 0 5 (fun r1 I2 => (r1 ≤ (I2 o 9) → (w_X12_who_24 o post) I2 r1 (I2 o 9)) ∧ (¬ r1 ≤ (I2 o 9) → (w_X12_who_24 o post) I2 r1 r1))
set_option maxRecDepth 100000 in
set_option maxHeartbeats 4000000 in
theorem c_X12_who {l : Launch} {D : va_G} {cA : Nat → ClassId} {Z : mZ} {bs : Ad} {n : Nat} {K : mK} {R : mR} {I : mI} {L : mL} {o : Nat} {post : Int32 → mI → Prop} (ho : isX12 K R o) (hw : w_X12_who I o post) : Met l yX12_who (.code yX12_who cX12_who 2 (some .int) :: gw) ({ frames := 5, cells := 0, slots := 0, locals := 117 } : Room) (PreM D cA Z bs (n, K, R, I, L) [.ref (ad bs o)]) (QI D cA bs (fun r u => ∃ I', u = (n, K, R, I', L) ∧ post r I')) 0 0 (Ab bs) := by
  refine m_met (by decide) (Nat.le_of_ble_eq_true rfl) (fun p e s m below meth c ls E hr hlk hM hS hl => ?_)
  have E : Ev p s m _ c cX12_who 2 RX12 D cA Z bs := E
  have hl : lv_has ls 2 [(0, .ref (ad bs o))] := hl
  have hx := E.1.1
  have hb := E.1.2.1
  generalize hHe : s.heap = H at hM ⊢
  have hS : va_S (Ab bs) s.heap H [] := by rw [← hHe]; exact va_S.rf
  clear hHe
  refine lv_aload_n hx hb dX12_who_0 rfl (lv_at hl 0 rfl) ?_
  refine lv_iconst (v := 0) hx hb dX12_who_1 (by decide) ?_
  refine lv_iconst (v := 5) hx hb dX12_who_2 (by decide) ?_
  refine m_ci (m_runV E hM hS cs_X12_144 ho.1 (by decide) rfl rfl (c_X12_numbered ho hw) rfl rfl ⟨Nat.le_of_ble_eq_true rfl, Nat.le_of_ble_eq_true rfl⟩ rfl hl.1 rfl (Nat.le_of_ble_eq_true rfl) dX12_who_3 ⟨Nat.le_of_ble_eq_true rfl, Nat.le_of_ble_eq_true rfl⟩) hS (fun r1 u H locs hp hM hS => ?_)
  obtain ⟨I2, rfl, hw⟩ := hp
  refine lv_istore_n (lv' := [(1, .int r1), (0, .ref (ad bs o))]) hx hb dX12_who_6 rfl hl (by decide) rfl (fun ls hl => ?_)
  refine lv_aload_n hx hb dX12_who_7 rfl (lv_at hl 1 rfl) ?_
  refine lv_iload_n hx hb dX12_who_8 rfl (lv_at hl 0 rfl) ?_
  refine lv_aload_n hx hb dX12_who_9 rfl (lv_at hl 1 rfl) ?_
  refine m_geti E hM fs_X12_148 ho.1 dX12_who_10 ?_
  refine lv_icmp_le (tgt := 20) hx hb dX12_who_13 (by decide) (fun cq => ?_) (fun cq => ?_)
  · have hw := hw.1 cq
    refine lv_aload_n hx hb dX12_who_20 rfl (lv_at hl 1 rfl) ?_
    refine m_geti E hM fs_X12_148 ho.1 dX12_who_21 ?_
    exact s_X12_who_24 E hr hlk ho  hw hM hS (lv_sub hl [0] rfl)
  · have hw := hw.2 cq
    refine lv_iload_n hx hb dX12_who_16 rfl (lv_at hl 0 rfl) ?_
    refine lv_goto (tgt := 24) hx hb dX12_who_17 (by decide) ?_
    exact s_X12_who_24 E hr hlk ho  hw hM hS (lv_sub hl [0] rfl)
theorem dX12_stepTold_0 : decode cX12_stepTold 0 = .ok (.aload_n 0, 1) := by decide +kernel
theorem dX12_stepTold_1 : decode cX12_stepTold 1 = .ok (.iconst 0, 1) := by decide +kernel
theorem dX12_stepTold_2 : decode cX12_stepTold 2 = .ok (.bipush 23, 2) := by decide +kernel
theorem dX12_stepTold_4 : decode cX12_stepTold 4 = .ok (.invokevirtual 144, 3) := by decide +kernel
theorem dX12_stepTold_7 : decode cX12_stepTold 7 = .ok (.istore_n 1, 1) := by decide +kernel
theorem dX12_stepTold_8 : decode cX12_stepTold 8 = .ok (.aload_n 0, 1) := by decide +kernel
theorem dX12_stepTold_9 : decode cX12_stepTold 9 = .ok (.iload_n 1, 1) := by decide +kernel
theorem dX12_stepTold_10 : decode cX12_stepTold 10 = .ok (.aload_n 0, 1) := by decide +kernel
theorem dX12_stepTold_11 : decode cX12_stepTold 11 = .ok (.getfield 151, 3) := by decide +kernel
theorem dX12_stepTold_14 : decode cX12_stepTold 14 = .ok (.if_icmp .le 7, 3) := by decide +kernel
theorem dX12_stepTold_17 : decode cX12_stepTold 17 = .ok (.iload_n 1, 1) := by decide +kernel
theorem dX12_stepTold_18 : decode cX12_stepTold 18 = .ok (.goto 7, 3) := by decide +kernel
theorem dX12_stepTold_21 : decode cX12_stepTold 21 = .ok (.aload_n 0, 1) := by decide +kernel
theorem dX12_stepTold_22 : decode cX12_stepTold 22 = .ok (.getfield 151, 3) := by decide +kernel
theorem dX12_stepTold_25 : decode cX12_stepTold 25 = .ok (.putfield 151, 3) := by decide +kernel
theorem dX12_stepTold_28 : decode cX12_stepTold 28 = .ok (.iload_n 1, 1) := by decide +kernel
theorem dX12_stepTold_29 : decode cX12_stepTold 29 = .ok (.ireturn, 1) := by decide +kernel
def w_X12_stepTold_25 (o : Nat) (post : Int32 → mI → Prop) (I : mI) (v1 : Int32) (s1 : Int32) : Prop := ∀ I3, I3 = up2 I o 10 s1 → post v1 I3
set_option maxRecDepth 100000 in
set_option maxHeartbeats 4000000 in
theorem s_X12_stepTold_25 {p : Program} {l : Launch} {e : Env} {s : State} {m : MethodId} {args : Array Value} {below : List Frame} {meth : Method} {c : Code} {D : va_G} {cA : Nat → ClassId} {Z : mZ} {bs : Ad} {n : Nat} {K : mK} {R : mR} {L : mL} (E : Ev p s m args c cX12_stepTold 2 RX12 D cA Z bs) (hr : meth.sig.returnType = (some .int)) (hlk : meth.locks = false) {o : Nat} (ho : isX12 K R o) {post : Int32 → mI → Prop} {I : mI} {v1 : Int32} {s1 : Int32} {H : Heap} {locs : List Loc} {ls : Array Slot} (hw : w_X12_stepTold_25 o post I v1 s1) (hM : mm D cA bs (n, K, R, I, L) H) (hS : va_S (Ab bs) s.heap H locs) (hl : lv_has ls 2 [(1, .int v1)]) : W p l e ({ frames := 5, cells := 0, slots := 0, locals := 117 } : Room) s m args below meth c H locs 0 0 (MQ below (QI D cA bs (fun r u => ∃ I', u = (n, K, R, I', L) ∧ post r I')) args s 0 0 (Ab bs)) (F0 m 25 ls [.int s1, .ref (ad bs o)]) := by
  have hx := E.1.1
  have hb := E.1.2.1
  refine m_puti E hM hS fp_X12_151 ho.1 rfl rfl dX12_stepTold_25 (fun I3 H locs eI3 hM hS => ?_)
  have hw := hw I3 eI3
  refine lv_iload_n hx hb dX12_stepTold_28 rfl (lv_at hl 0 rfl) ?_
  exact m_reti hx hb hr hlk hM hS ⟨_, rfl, hw⟩ dX12_stepTold_29
def w_X12_stepTold (I : mI) (o : Nat) (post : Int32 → mI → Prop) : Prop := w_X12_numbered I o 0 23 (fun r1 I2 => (r1 ≤ (I2 o 10) → (w_X12_stepTold_25 o post) I2 r1 (I2 o 10)) ∧ (¬ r1 ≤ (I2 o 10) → (w_X12_stepTold_25 o post) I2 r1 r1))
set_option maxRecDepth 100000 in
set_option maxHeartbeats 4000000 in
theorem c_X12_stepTold {l : Launch} {D : va_G} {cA : Nat → ClassId} {Z : mZ} {bs : Ad} {n : Nat} {K : mK} {R : mR} {I : mI} {L : mL} {o : Nat} {post : Int32 → mI → Prop} (ho : isX12 K R o) (hw : w_X12_stepTold I o post) : Met l yX12_stepTold (.code yX12_stepTold cX12_stepTold 2 (some .int) :: gw) ({ frames := 5, cells := 0, slots := 0, locals := 117 } : Room) (PreM D cA Z bs (n, K, R, I, L) [.ref (ad bs o)]) (QI D cA bs (fun r u => ∃ I', u = (n, K, R, I', L) ∧ post r I')) 0 0 (Ab bs) := by
  refine m_met (by decide) (Nat.le_of_ble_eq_true rfl) (fun p e s m below meth c ls E hr hlk hM hS hl => ?_)
  have E : Ev p s m _ c cX12_stepTold 2 RX12 D cA Z bs := E
  have hl : lv_has ls 2 [(0, .ref (ad bs o))] := hl
  have hx := E.1.1
  have hb := E.1.2.1
  generalize hHe : s.heap = H at hM ⊢
  have hS : va_S (Ab bs) s.heap H [] := by rw [← hHe]; exact va_S.rf
  clear hHe
  refine lv_aload_n hx hb dX12_stepTold_0 rfl (lv_at hl 0 rfl) ?_
  refine lv_iconst (v := 0) hx hb dX12_stepTold_1 (by decide) ?_
  refine lv_bipush (v := 23) hx hb dX12_stepTold_2 (by decide) ?_
  refine m_ci (m_runV E hM hS cs_X12_144 ho.1 (by decide) rfl rfl (c_X12_numbered ho hw) rfl rfl ⟨Nat.le_of_ble_eq_true rfl, Nat.le_of_ble_eq_true rfl⟩ rfl hl.1 rfl (Nat.le_of_ble_eq_true rfl) dX12_stepTold_4 ⟨Nat.le_of_ble_eq_true rfl, Nat.le_of_ble_eq_true rfl⟩) hS (fun r1 u H locs hp hM hS => ?_)
  obtain ⟨I2, rfl, hw⟩ := hp
  refine lv_istore_n (lv' := [(1, .int r1), (0, .ref (ad bs o))]) hx hb dX12_stepTold_7 rfl hl (by decide) rfl (fun ls hl => ?_)
  refine lv_aload_n hx hb dX12_stepTold_8 rfl (lv_at hl 1 rfl) ?_
  refine lv_iload_n hx hb dX12_stepTold_9 rfl (lv_at hl 0 rfl) ?_
  refine lv_aload_n hx hb dX12_stepTold_10 rfl (lv_at hl 1 rfl) ?_
  refine m_geti E hM fs_X12_151 ho.1 dX12_stepTold_11 ?_
  refine lv_icmp_le (tgt := 21) hx hb dX12_stepTold_14 (by decide) (fun cq => ?_) (fun cq => ?_)
  · have hw := hw.1 cq
    refine lv_aload_n hx hb dX12_stepTold_21 rfl (lv_at hl 1 rfl) ?_
    refine m_geti E hM fs_X12_151 ho.1 dX12_stepTold_22 ?_
    exact s_X12_stepTold_25 E hr hlk ho  hw hM hS (lv_sub hl [0] rfl)
  · have hw := hw.2 cq
    refine lv_iload_n hx hb dX12_stepTold_17 rfl (lv_at hl 0 rfl) ?_
    refine lv_goto (tgt := 25) hx hb dX12_stepTold_18 (by decide) ?_
    exact s_X12_stepTold_25 E hr hlk ho  hw hM hS (lv_sub hl [0] rfl)
theorem dX12_flatLine_0 : decode cX12_flatLine 0 = .ok (.aload_n 0, 1) := by decide +kernel
theorem dX12_flatLine_1 : decode cX12_flatLine 1 = .ok (.getfield 17, 3) := by decide +kernel
theorem dX12_flatLine_4 : decode cX12_flatLine 4 = .ok (.iconst 2, 1) := by decide +kernel
theorem dX12_flatLine_5 : decode cX12_flatLine 5 = .ok (.iaload, 1) := by decide +kernel
theorem dX12_flatLine_6 : decode cX12_flatLine 6 = .ok (.bipush 6, 2) := by decide +kernel
theorem dX12_flatLine_8 : decode cX12_flatLine 8 = .ok (.if_icmp .ge 7, 3) := by decide +kernel
theorem dX12_flatLine_11 : decode cX12_flatLine 11 = .ok (.iconst 1, 1) := by decide +kernel
theorem dX12_flatLine_12 : decode cX12_flatLine 12 = .ok (.goto 4, 3) := by decide +kernel
theorem dX12_flatLine_15 : decode cX12_flatLine 15 = .ok (.iconst 0, 1) := by decide +kernel
theorem dX12_flatLine_16 : decode cX12_flatLine 16 = .ok (.istore_n 2, 1) := by decide +kernel
theorem dX12_flatLine_17 : decode cX12_flatLine 17 = .ok (.iload_n 2, 1) := by decide +kernel
theorem dX12_flatLine_18 : decode cX12_flatLine 18 = .ok (.ifCond .ne 9, 3) := by decide +kernel
theorem dX12_flatLine_21 : decode cX12_flatLine 21 = .ok (.aload_n 0, 1) := by decide +kernel
theorem dX12_flatLine_22 : decode cX12_flatLine 22 = .ok (.iconst 3, 1) := by decide +kernel
theorem dX12_flatLine_23 : decode cX12_flatLine 23 = .ok (.iload_n 1, 1) := by decide +kernel
theorem dX12_flatLine_24 : decode cX12_flatLine 24 = .ok (.invokevirtual 137, 3) := by decide +kernel
theorem dX12_flatLine_27 : decode cX12_flatLine 27 = .ok (.aload_n 0, 1) := by decide +kernel
theorem dX12_flatLine_28 : decode cX12_flatLine 28 = .ok (.invokevirtual 154, 3) := by decide +kernel
theorem dX12_flatLine_31 : decode cX12_flatLine 31 = .ok (.istore_n 3, 1) := by decide +kernel
theorem dX12_flatLine_32 : decode cX12_flatLine 32 = .ok (.aload_n 0, 1) := by decide +kernel
theorem dX12_flatLine_33 : decode cX12_flatLine 33 = .ok (.iconst 0, 1) := by decide +kernel
theorem dX12_flatLine_34 : decode cX12_flatLine 34 = .ok (.bipush 9, 2) := by decide +kernel
theorem dX12_flatLine_36 : decode cX12_flatLine 36 = .ok (.invokevirtual 144, 3) := by decide +kernel
theorem dX12_flatLine_39 : decode cX12_flatLine 39 = .ok (.istore 4, 2) := by decide +kernel
theorem dX12_flatLine_41 : decode cX12_flatLine 41 = .ok (.iload_n 2, 1) := by decide +kernel
theorem dX12_flatLine_42 : decode cX12_flatLine 42 = .ok (.ifCond .ne 4, 3) := by decide +kernel
theorem dX12_flatLine_45 : decode cX12_flatLine 45 = .ok (.return_, 1) := by decide +kernel
theorem dX12_flatLine_46 : decode cX12_flatLine 46 = .ok (.aload_n 0, 1) := by decide +kernel
theorem dX12_flatLine_47 : decode cX12_flatLine 47 = .ok (.getfield 17, 3) := by decide +kernel
theorem dX12_flatLine_50 : decode cX12_flatLine 50 = .ok (.bipush 29, 2) := by decide +kernel
theorem dX12_flatLine_52 : decode cX12_flatLine 52 = .ok (.iconst 2, 1) := by decide +kernel
theorem dX12_flatLine_53 : decode cX12_flatLine 53 = .ok (.aload_n 0, 1) := by decide +kernel
theorem dX12_flatLine_54 : decode cX12_flatLine 54 = .ok (.getfield 17, 3) := by decide +kernel
theorem dX12_flatLine_57 : decode cX12_flatLine 57 = .ok (.iconst 2, 1) := by decide +kernel
theorem dX12_flatLine_58 : decode cX12_flatLine 58 = .ok (.iaload, 1) := by decide +kernel
theorem dX12_flatLine_59 : decode cX12_flatLine 59 = .ok (.imul, 1) := by decide +kernel
theorem dX12_flatLine_60 : decode cX12_flatLine 60 = .ok (.iadd, 1) := by decide +kernel
theorem dX12_flatLine_61 : decode cX12_flatLine 61 = .ok (.iload_n 3, 1) := by decide +kernel
theorem dX12_flatLine_62 : decode cX12_flatLine 62 = .ok (.iastore, 1) := by decide +kernel
theorem dX12_flatLine_63 : decode cX12_flatLine 63 = .ok (.aload_n 0, 1) := by decide +kernel
theorem dX12_flatLine_64 : decode cX12_flatLine 64 = .ok (.getfield 17, 3) := by decide +kernel
theorem dX12_flatLine_67 : decode cX12_flatLine 67 = .ok (.bipush 30, 2) := by decide +kernel
theorem dX12_flatLine_69 : decode cX12_flatLine 69 = .ok (.iconst 2, 1) := by decide +kernel
theorem dX12_flatLine_70 : decode cX12_flatLine 70 = .ok (.aload_n 0, 1) := by decide +kernel
theorem dX12_flatLine_71 : decode cX12_flatLine 71 = .ok (.getfield 17, 3) := by decide +kernel
theorem dX12_flatLine_74 : decode cX12_flatLine 74 = .ok (.iconst 2, 1) := by decide +kernel
theorem dX12_flatLine_75 : decode cX12_flatLine 75 = .ok (.iaload, 1) := by decide +kernel
theorem dX12_flatLine_76 : decode cX12_flatLine 76 = .ok (.imul, 1) := by decide +kernel
theorem dX12_flatLine_77 : decode cX12_flatLine 77 = .ok (.iadd, 1) := by decide +kernel
theorem dX12_flatLine_78 : decode cX12_flatLine 78 = .ok (.iload 4, 2) := by decide +kernel
theorem dX12_flatLine_80 : decode cX12_flatLine 80 = .ok (.iastore, 1) := by decide +kernel
theorem dX12_flatLine_81 : decode cX12_flatLine 81 = .ok (.aload_n 0, 1) := by decide +kernel
theorem dX12_flatLine_82 : decode cX12_flatLine 82 = .ok (.getfield 17, 3) := by decide +kernel
theorem dX12_flatLine_85 : decode cX12_flatLine 85 = .ok (.iconst 2, 1) := by decide +kernel
theorem dX12_flatLine_86 : decode cX12_flatLine 86 = .ok (.dup2, 1) := by decide +kernel
theorem dX12_flatLine_87 : decode cX12_flatLine 87 = .ok (.iaload, 1) := by decide +kernel
theorem dX12_flatLine_88 : decode cX12_flatLine 88 = .ok (.iconst 1, 1) := by decide +kernel
theorem dX12_flatLine_89 : decode cX12_flatLine 89 = .ok (.iadd, 1) := by decide +kernel
theorem dX12_flatLine_90 : decode cX12_flatLine 90 = .ok (.iastore, 1) := by decide +kernel
theorem dX12_flatLine_91 : decode cX12_flatLine 91 = .ok (.return_, 1) := by decide +kernel
def w_X12_flatLine_27 (o : Nat) (a1 : Int32) (post : mI → Prop) (I : mI) (v2 : Int32) : Prop := w_X12_stepTold I o (fun r2 I3 => w_X12_numbered I3 o 0 9 (fun r4 I5 => (¬ v2 = 0 → vp_in (29 + (2 * (I5 (o + 3) (2 : Int32).toNatClampNeg))) 149 ∧ ∀ I6, I6 = up2 I5 (o + 3) ((29 + (2 * (I5 (o + 3) (2 : Int32).toNatClampNeg))).toNatClampNeg) r2 → vp_in (30 + (2 * (I6 (o + 3) (2 : Int32).toNatClampNeg))) 149 ∧ ∀ I7, I7 = up2 I6 (o + 3) ((30 + (2 * (I6 (o + 3) (2 : Int32).toNatClampNeg))).toNatClampNeg) r4 → ∀ I8, I8 = up2 I7 (o + 3) ((2 : Int32).toNatClampNeg) ((I7 (o + 3) (2 : Int32).toNatClampNeg) + 1) → post I8) ∧ (v2 = 0 → post I5)))
set_option maxRecDepth 100000 in
set_option maxHeartbeats 4000000 in
theorem s_X12_flatLine_27 {p : Program} {l : Launch} {e : Env} {s : State} {m : MethodId} {args : Array Value} {below : List Frame} {meth : Method} {c : Code} {D : va_G} {cA : Nat → ClassId} {Z : mZ} {bs : Ad} {n : Nat} {K : mK} {R : mR} {L : mL} (E : Ev p s m args c cX12_flatLine 5 RX12 D cA Z bs) (hr : meth.sig.returnType = none) (hlk : meth.locks = false) {o : Nat} {a1 : Int32} (ho : isX12 K R o) {post : mI → Prop} {I : mI} {v2 : Int32} {H : Heap} {locs : List Loc} {ls : Array Slot} (hw : w_X12_flatLine_27 o a1 post I v2) (hM : mm D cA bs (n, K, R, I, L) H) (hS : va_S (Ab bs) s.heap H locs) (hl : lv_has ls 5 [(0, .ref (ad bs o)), (2, .int v2)]) : W p l e ({ frames := 6, cells := 0, slots := 0, locals := 138 } : Room) s m args below meth c H locs 0 0 (MQ below (QV D cA bs (fun u => ∃ I', u = (n, K, R, I', L) ∧ post I')) args s 0 0 (Ab bs)) (F0 m 27 ls []) := by
  have hx := E.1.1
  have hb := E.1.2.1
  refine lv_aload_n hx hb dX12_flatLine_27 rfl (lv_at hl 0 rfl) ?_
  refine m_ci (m_runV E hM hS cs_X12_154 ho.1 (by decide) rfl rfl (c_X12_stepTold ho hw) rfl rfl ⟨Nat.le_of_ble_eq_true rfl, Nat.le_of_ble_eq_true rfl⟩ rfl hl.1 rfl (Nat.le_of_ble_eq_true rfl) dX12_flatLine_28 ⟨Nat.le_of_ble_eq_true rfl, Nat.le_of_ble_eq_true rfl⟩) hS (fun r2 u H locs hp hM hS => ?_)
  obtain ⟨I3, rfl, hw⟩ := hp
  refine lv_istore_n (lv' := [(3, .int r2), (0, .ref (ad bs o)), (2, .int v2)]) hx hb dX12_flatLine_31 rfl hl (by decide) rfl (fun ls hl => ?_)
  refine lv_aload_n hx hb dX12_flatLine_32 rfl (lv_at hl 1 rfl) ?_
  refine lv_iconst (v := 0) hx hb dX12_flatLine_33 (by decide) ?_
  refine lv_bipush (v := 9) hx hb dX12_flatLine_34 (by decide) ?_
  refine m_ci (m_runV E hM hS cs_X12_144 ho.1 (by decide) rfl rfl (c_X12_numbered ho hw) rfl rfl ⟨Nat.le_of_ble_eq_true rfl, Nat.le_of_ble_eq_true rfl⟩ rfl hl.1 rfl (Nat.le_of_ble_eq_true rfl) dX12_flatLine_36 ⟨Nat.le_of_ble_eq_true rfl, Nat.le_of_ble_eq_true rfl⟩) hS (fun r4 u H locs hp hM hS => ?_)
  obtain ⟨I5, rfl, hw⟩ := hp
  refine lv_istore (lv' := [(4, .int r4), (3, .int r2), (0, .ref (ad bs o)), (2, .int v2)]) hx hb dX12_flatLine_39 hl (by decide) rfl (fun ls hl => ?_)
  refine lv_iload_n hx hb dX12_flatLine_41 rfl (lv_at hl 3 rfl) ?_
  refine lv_if_ne (tgt := 46) hx hb dX12_flatLine_42 (by decide) (fun cq => ?_) (fun cq => ?_)
  · have hw := hw.1 cq
    refine lv_aload_n hx hb dX12_flatLine_46 rfl (lv_at hl 2 rfl) ?_
    refine m_getr E hM fs_X12_17 ho.1 (isO_at ho 2 rfl).1 dX12_flatLine_47 ?_
    refine lv_bipush (v := 29) hx hb dX12_flatLine_50 (by decide) ?_
    refine lv_iconst (v := 2) hx hb dX12_flatLine_52 (by decide) ?_
    refine lv_aload_n hx hb dX12_flatLine_53 rfl (lv_at hl 2 rfl) ?_
    refine m_getr E hM fs_X12_17 ho.1 (isO_at ho 2 rfl).1 dX12_flatLine_54 ?_
    refine lv_iconst (v := 2) hx hb dX12_flatLine_57 (by decide) ?_
    refine m_iald E hM (isO_at ho 2 rfl).2 (by unfold vp_in; decide) dX12_flatLine_58 ?_
    refine lv_imul hx hb dX12_flatLine_59 ?_
    refine lv_iadd hx hb dX12_flatLine_60 ?_
    refine lv_iload_n hx hb dX12_flatLine_61 rfl (lv_at hl 1 rfl) ?_
    obtain ⟨hv, hw⟩ := hw
    refine m_iast E hM hS (isO_at ho 2 rfl).2 hv dX12_flatLine_62 (fun I6 H locs eI6 hM hS => ?_)
    have hw := hw I6 eI6
    refine lv_aload_n hx hb dX12_flatLine_63 rfl (lv_at hl 2 rfl) ?_
    refine m_getr E hM fs_X12_17 ho.1 (isO_at ho 2 rfl).1 dX12_flatLine_64 ?_
    refine lv_bipush (v := 30) hx hb dX12_flatLine_67 (by decide) ?_
    refine lv_iconst (v := 2) hx hb dX12_flatLine_69 (by decide) ?_
    refine lv_aload_n hx hb dX12_flatLine_70 rfl (lv_at hl 2 rfl) ?_
    refine m_getr E hM fs_X12_17 ho.1 (isO_at ho 2 rfl).1 dX12_flatLine_71 ?_
    refine lv_iconst (v := 2) hx hb dX12_flatLine_74 (by decide) ?_
    refine m_iald E hM (isO_at ho 2 rfl).2 (by unfold vp_in; decide) dX12_flatLine_75 ?_
    refine lv_imul hx hb dX12_flatLine_76 ?_
    refine lv_iadd hx hb dX12_flatLine_77 ?_
    refine lv_iload hx hb dX12_flatLine_78 (lv_at hl 0 rfl) ?_
    obtain ⟨hv, hw⟩ := hw
    refine m_iast E hM hS (isO_at ho 2 rfl).2 hv dX12_flatLine_80 (fun I7 H locs eI7 hM hS => ?_)
    have hw := hw I7 eI7
    refine lv_aload_n hx hb dX12_flatLine_81 rfl (lv_at hl 2 rfl) ?_
    refine m_getr E hM fs_X12_17 ho.1 (isO_at ho 2 rfl).1 dX12_flatLine_82 ?_
    refine lv_iconst (v := 2) hx hb dX12_flatLine_85 (by decide) ?_
    refine lv_dup2_11 hx hb dX12_flatLine_86 rfl rfl ?_
    refine m_iald E hM (isO_at ho 2 rfl).2 (by unfold vp_in; decide) dX12_flatLine_87 ?_
    refine lv_iconst (v := 1) hx hb dX12_flatLine_88 (by decide) ?_
    refine lv_iadd hx hb dX12_flatLine_89 ?_
    refine m_iast E hM hS (isO_at ho 2 rfl).2 (by unfold vp_in; decide) dX12_flatLine_90 (fun I8 H locs eI8 hM hS => ?_)
    have hw := hw I8 eI8
    exact m_retv hx hb hr hlk hM hS ⟨_, rfl, hw⟩ dX12_flatLine_91
  · have hw := hw.2 cq
    exact m_retv hx hb hr hlk hM hS ⟨_, rfl, hw⟩ dX12_flatLine_45
def w_X12_flatLine_16 (o : Nat) (a1 : Int32) (post : mI → Prop) (I : mI) (s0 : Int32) : Prop := (¬ s0 = 0 → (w_X12_flatLine_27 o a1 post) I s0) ∧ (s0 = 0 → w_X12_also I o 3 a1 (fun I1 => (w_X12_flatLine_27 o a1 post) I1 s0))
set_option maxRecDepth 100000 in
set_option maxHeartbeats 4000000 in
theorem s_X12_flatLine_16 {p : Program} {l : Launch} {e : Env} {s : State} {m : MethodId} {args : Array Value} {below : List Frame} {meth : Method} {c : Code} {D : va_G} {cA : Nat → ClassId} {Z : mZ} {bs : Ad} {n : Nat} {K : mK} {R : mR} {L : mL} (E : Ev p s m args c cX12_flatLine 5 RX12 D cA Z bs) (hr : meth.sig.returnType = none) (hlk : meth.locks = false) {o : Nat} {a1 : Int32} (ho : isX12 K R o) {post : mI → Prop} {I : mI} {s0 : Int32} {H : Heap} {locs : List Loc} {ls : Array Slot} (hw : w_X12_flatLine_16 o a1 post I s0) (hM : mm D cA bs (n, K, R, I, L) H) (hS : va_S (Ab bs) s.heap H locs) (hl : lv_has ls 5 [(0, .ref (ad bs o)), (1, .int a1)]) : W p l e ({ frames := 6, cells := 0, slots := 0, locals := 138 } : Room) s m args below meth c H locs 0 0 (MQ below (QV D cA bs (fun u => ∃ I', u = (n, K, R, I', L) ∧ post I')) args s 0 0 (Ab bs)) (F0 m 16 ls [.int s0]) := by
  have hx := E.1.1
  have hb := E.1.2.1
  refine lv_istore_n (lv' := [(2, .int s0), (0, .ref (ad bs o)), (1, .int a1)]) hx hb dX12_flatLine_16 rfl hl (by decide) rfl (fun ls hl => ?_)
  refine lv_iload_n hx hb dX12_flatLine_17 rfl (lv_at hl 0 rfl) ?_
  refine lv_if_ne (tgt := 27) hx hb dX12_flatLine_18 (by decide) (fun cq => ?_) (fun cq => ?_)
  · have hw := hw.1 cq
    exact s_X12_flatLine_27 E hr hlk ho  hw hM hS (lv_sub hl [1, 0] rfl)
  · have hw := hw.2 cq
    refine lv_aload_n hx hb dX12_flatLine_21 rfl (lv_at hl 1 rfl) ?_
    refine lv_iconst (v := 3) hx hb dX12_flatLine_22 (by decide) ?_
    refine lv_iload_n hx hb dX12_flatLine_23 rfl (lv_at hl 2 rfl) ?_
    refine m_cv (m_runV E hM hS cs_X12_137 ho.1 (by decide) rfl rfl (c_X12_also ho hw) rfl rfl ⟨Nat.le_of_ble_eq_true rfl, Nat.le_of_ble_eq_true rfl⟩ rfl hl.1 rfl (Nat.le_of_ble_eq_true rfl) dX12_flatLine_24 ⟨Nat.le_of_ble_eq_true rfl, Nat.le_of_ble_eq_true rfl⟩) hS (fun u H locs hp hM hS => ?_)
    obtain ⟨I1, rfl, hw⟩ := hp
    exact s_X12_flatLine_27 E hr hlk ho  hw hM hS (lv_sub hl [1, 0] rfl)
def w_X12_flatLine (I : mI) (o : Nat) (a1 : Int32) (post : mI → Prop) : Prop := (6 ≤ (I (o + 3) (2 : Int32).toNatClampNeg) → (w_X12_flatLine_16 o a1 post) I 0) ∧ (¬ 6 ≤ (I (o + 3) (2 : Int32).toNatClampNeg) → (w_X12_flatLine_16 o a1 post) I 1)
set_option maxRecDepth 100000 in
set_option maxHeartbeats 4000000 in
theorem c_X12_flatLine {l : Launch} {D : va_G} {cA : Nat → ClassId} {Z : mZ} {bs : Ad} {n : Nat} {K : mK} {R : mR} {I : mI} {L : mL} {o : Nat} {a1 : Int32} {post : mI → Prop} (ho : isX12 K R o) (hw : w_X12_flatLine I o a1 post) : Met l yX12_flatLine (.code yX12_flatLine cX12_flatLine 5 none :: gw) ({ frames := 6, cells := 0, slots := 0, locals := 138 } : Room) (PreM D cA Z bs (n, K, R, I, L) [.ref (ad bs o), .int a1]) (QV D cA bs (fun u => ∃ I', u = (n, K, R, I', L) ∧ post I')) 0 0 (Ab bs) := by
  refine m_met (by decide) (Nat.le_of_ble_eq_true rfl) (fun p e s m below meth c ls E hr hlk hM hS hl => ?_)
  have E : Ev p s m _ c cX12_flatLine 5 RX12 D cA Z bs := E
  have hl : lv_has ls 5 [(0, .ref (ad bs o)), (1, .int a1)] := hl
  have hx := E.1.1
  have hb := E.1.2.1
  generalize hHe : s.heap = H at hM ⊢
  have hS : va_S (Ab bs) s.heap H [] := by rw [← hHe]; exact va_S.rf
  clear hHe
  refine lv_aload_n hx hb dX12_flatLine_0 rfl (lv_at hl 0 rfl) ?_
  refine m_getr E hM fs_X12_17 ho.1 (isO_at ho 2 rfl).1 dX12_flatLine_1 ?_
  refine lv_iconst (v := 2) hx hb dX12_flatLine_4 (by decide) ?_
  refine m_iald E hM (isO_at ho 2 rfl).2 (by unfold vp_in; decide) dX12_flatLine_5 ?_
  refine lv_bipush (v := 6) hx hb dX12_flatLine_6 (by decide) ?_
  refine lv_icmp_ge (tgt := 15) hx hb dX12_flatLine_8 (by decide) (fun cq => ?_) (fun cq => ?_)
  · have hw := hw.1 cq
    refine lv_iconst (v := 0) hx hb dX12_flatLine_15 (by decide) ?_
    exact s_X12_flatLine_16 E hr hlk ho  hw hM hS (lv_sub hl [0, 1] rfl)
  · have hw := hw.2 cq
    refine lv_iconst (v := 1) hx hb dX12_flatLine_11 (by decide) ?_
    refine lv_goto (tgt := 16) hx hb dX12_flatLine_12 (by decide) ?_
    exact s_X12_flatLine_16 E hr hlk ho  hw hM hS (lv_sub hl [0, 1] rfl)
theorem dX12_personLine_0 : decode cX12_personLine 0 = .ok (.aload_n 0, 1) := by decide +kernel
theorem dX12_personLine_1 : decode cX12_personLine 1 = .ok (.getfield 17, 3) := by decide +kernel
theorem dX12_personLine_4 : decode cX12_personLine 4 = .ok (.iconst 3, 1) := by decide +kernel
theorem dX12_personLine_5 : decode cX12_personLine 5 = .ok (.iaload, 1) := by decide +kernel
theorem dX12_personLine_6 : decode cX12_personLine 6 = .ok (.bipush 6, 2) := by decide +kernel
theorem dX12_personLine_8 : decode cX12_personLine 8 = .ok (.if_icmp .ge 7, 3) := by decide +kernel
theorem dX12_personLine_11 : decode cX12_personLine 11 = .ok (.iconst 1, 1) := by decide +kernel
theorem dX12_personLine_12 : decode cX12_personLine 12 = .ok (.goto 4, 3) := by decide +kernel
theorem dX12_personLine_15 : decode cX12_personLine 15 = .ok (.iconst 0, 1) := by decide +kernel
theorem dX12_personLine_16 : decode cX12_personLine 16 = .ok (.istore_n 2, 1) := by decide +kernel
theorem dX12_personLine_17 : decode cX12_personLine 17 = .ok (.iload_n 2, 1) := by decide +kernel
theorem dX12_personLine_18 : decode cX12_personLine 18 = .ok (.ifCond .ne 9, 3) := by decide +kernel
theorem dX12_personLine_21 : decode cX12_personLine 21 = .ok (.aload_n 0, 1) := by decide +kernel
theorem dX12_personLine_22 : decode cX12_personLine 22 = .ok (.iconst 3, 1) := by decide +kernel
theorem dX12_personLine_23 : decode cX12_personLine 23 = .ok (.iload_n 1, 1) := by decide +kernel
theorem dX12_personLine_24 : decode cX12_personLine 24 = .ok (.invokevirtual 137, 3) := by decide +kernel
theorem dX12_personLine_27 : decode cX12_personLine 27 = .ok (.aload_n 0, 1) := by decide +kernel
theorem dX12_personLine_28 : decode cX12_personLine 28 = .ok (.iconst 0, 1) := by decide +kernel
theorem dX12_personLine_29 : decode cX12_personLine 29 = .ok (.bipush 9, 2) := by decide +kernel
theorem dX12_personLine_31 : decode cX12_personLine 31 = .ok (.invokevirtual 144, 3) := by decide +kernel
theorem dX12_personLine_34 : decode cX12_personLine 34 = .ok (.istore_n 3, 1) := by decide +kernel
theorem dX12_personLine_35 : decode cX12_personLine 35 = .ok (.aload_n 0, 1) := by decide +kernel
theorem dX12_personLine_36 : decode cX12_personLine 36 = .ok (.iconst 1, 1) := by decide +kernel
theorem dX12_personLine_37 : decode cX12_personLine 37 = .ok (.bipush 9, 2) := by decide +kernel
theorem dX12_personLine_39 : decode cX12_personLine 39 = .ok (.invokevirtual 144, 3) := by decide +kernel
theorem dX12_personLine_42 : decode cX12_personLine 42 = .ok (.istore 4, 2) := by decide +kernel
theorem dX12_personLine_44 : decode cX12_personLine 44 = .ok (.aload_n 0, 1) := by decide +kernel
theorem dX12_personLine_45 : decode cX12_personLine 45 = .ok (.iconst 1, 1) := by decide +kernel
theorem dX12_personLine_46 : decode cX12_personLine 46 = .ok (.iconst 4, 1) := by decide +kernel
theorem dX12_personLine_47 : decode cX12_personLine 47 = .ok (.invokevirtual 144, 3) := by decide +kernel
theorem dX12_personLine_50 : decode cX12_personLine 50 = .ok (.istore 5, 2) := by decide +kernel
theorem dX12_personLine_52 : decode cX12_personLine 52 = .ok (.iload_n 2, 1) := by decide +kernel
theorem dX12_personLine_53 : decode cX12_personLine 53 = .ok (.ifCond .ne 4, 3) := by decide +kernel
theorem dX12_personLine_56 : decode cX12_personLine 56 = .ok (.return_, 1) := by decide +kernel
theorem dX12_personLine_57 : decode cX12_personLine 57 = .ok (.bipush 41, 2) := by decide +kernel
theorem dX12_personLine_59 : decode cX12_personLine 59 = .ok (.bipush 14, 2) := by decide +kernel
theorem dX12_personLine_61 : decode cX12_personLine 61 = .ok (.aload_n 0, 1) := by decide +kernel
theorem dX12_personLine_62 : decode cX12_personLine 62 = .ok (.getfield 17, 3) := by decide +kernel
theorem dX12_personLine_65 : decode cX12_personLine 65 = .ok (.iconst 3, 1) := by decide +kernel
theorem dX12_personLine_66 : decode cX12_personLine 66 = .ok (.iaload, 1) := by decide +kernel
theorem dX12_personLine_67 : decode cX12_personLine 67 = .ok (.imul, 1) := by decide +kernel
theorem dX12_personLine_68 : decode cX12_personLine 68 = .ok (.iadd, 1) := by decide +kernel
theorem dX12_personLine_69 : decode cX12_personLine 69 = .ok (.istore 6, 2) := by decide +kernel
theorem dX12_personLine_71 : decode cX12_personLine 71 = .ok (.aload_n 0, 1) := by decide +kernel
theorem dX12_personLine_72 : decode cX12_personLine 72 = .ok (.getfield 17, 3) := by decide +kernel
theorem dX12_personLine_75 : decode cX12_personLine 75 = .ok (.iload 6, 2) := by decide +kernel
theorem dX12_personLine_77 : decode cX12_personLine 77 = .ok (.iconst 0, 1) := by decide +kernel
theorem dX12_personLine_78 : decode cX12_personLine 78 = .ok (.iadd, 1) := by decide +kernel
theorem dX12_personLine_79 : decode cX12_personLine 79 = .ok (.iload_n 3, 1) := by decide +kernel
theorem dX12_personLine_80 : decode cX12_personLine 80 = .ok (.iastore, 1) := by decide +kernel
theorem dX12_personLine_81 : decode cX12_personLine 81 = .ok (.aload_n 0, 1) := by decide +kernel
theorem dX12_personLine_82 : decode cX12_personLine 82 = .ok (.getfield 17, 3) := by decide +kernel
theorem dX12_personLine_85 : decode cX12_personLine 85 = .ok (.iload 6, 2) := by decide +kernel
theorem dX12_personLine_87 : decode cX12_personLine 87 = .ok (.iconst 1, 1) := by decide +kernel
theorem dX12_personLine_88 : decode cX12_personLine 88 = .ok (.iadd, 1) := by decide +kernel
theorem dX12_personLine_89 : decode cX12_personLine 89 = .ok (.iload 4, 2) := by decide +kernel
theorem dX12_personLine_91 : decode cX12_personLine 91 = .ok (.iastore, 1) := by decide +kernel
theorem dX12_personLine_92 : decode cX12_personLine 92 = .ok (.aload_n 0, 1) := by decide +kernel
theorem dX12_personLine_93 : decode cX12_personLine 93 = .ok (.getfield 17, 3) := by decide +kernel
theorem dX12_personLine_96 : decode cX12_personLine 96 = .ok (.iload 6, 2) := by decide +kernel
theorem dX12_personLine_98 : decode cX12_personLine 98 = .ok (.iconst 2, 1) := by decide +kernel
theorem dX12_personLine_99 : decode cX12_personLine 99 = .ok (.iadd, 1) := by decide +kernel
theorem dX12_personLine_100 : decode cX12_personLine 100 = .ok (.iload 5, 2) := by decide +kernel
theorem dX12_personLine_102 : decode cX12_personLine 102 = .ok (.iastore, 1) := by decide +kernel
theorem dX12_personLine_103 : decode cX12_personLine 103 = .ok (.aload_n 0, 1) := by decide +kernel
theorem dX12_personLine_104 : decode cX12_personLine 104 = .ok (.getfield 17, 3) := by decide +kernel
theorem dX12_personLine_107 : decode cX12_personLine 107 = .ok (.iconst 3, 1) := by decide +kernel
theorem dX12_personLine_108 : decode cX12_personLine 108 = .ok (.dup2, 1) := by decide +kernel
theorem dX12_personLine_109 : decode cX12_personLine 109 = .ok (.iaload, 1) := by decide +kernel
theorem dX12_personLine_110 : decode cX12_personLine 110 = .ok (.iconst 1, 1) := by decide +kernel
theorem dX12_personLine_111 : decode cX12_personLine 111 = .ok (.iadd, 1) := by decide +kernel
theorem dX12_personLine_112 : decode cX12_personLine 112 = .ok (.iastore, 1) := by decide +kernel
theorem dX12_personLine_113 : decode cX12_personLine 113 = .ok (.return_, 1) := by decide +kernel
def w_X12_personLine_27 (o : Nat) (a1 : Int32) (post : mI → Prop) (I : mI) (v2 : Int32) : Prop := w_X12_numbered I o 0 9 (fun r2 I3 => w_X12_numbered I3 o 1 9 (fun r4 I5 => w_X12_numbered I5 o 1 4 (fun r6 I7 => (¬ v2 = 0 → ∀ x8, x8 = (41 + (14 * (I7 (o + 3) (3 : Int32).toNatClampNeg))) → vp_in (x8 + 0) 149 ∧ ∀ I9, I9 = up2 I7 (o + 3) ((x8 + 0).toNatClampNeg) r2 → vp_in (x8 + 1) 149 ∧ ∀ I10, I10 = up2 I9 (o + 3) ((x8 + 1).toNatClampNeg) r4 → vp_in (x8 + 2) 149 ∧ ∀ I11, I11 = up2 I10 (o + 3) ((x8 + 2).toNatClampNeg) r6 → ∀ I12, I12 = up2 I11 (o + 3) ((3 : Int32).toNatClampNeg) ((I11 (o + 3) (3 : Int32).toNatClampNeg) + 1) → post I12) ∧ (v2 = 0 → post I7))))
set_option maxRecDepth 100000 in
set_option maxHeartbeats 4000000 in
theorem s_X12_personLine_27 {p : Program} {l : Launch} {e : Env} {s : State} {m : MethodId} {args : Array Value} {below : List Frame} {meth : Method} {c : Code} {D : va_G} {cA : Nat → ClassId} {Z : mZ} {bs : Ad} {n : Nat} {K : mK} {R : mR} {L : mL} (E : Ev p s m args c cX12_personLine 7 RX12 D cA Z bs) (hr : meth.sig.returnType = none) (hlk : meth.locks = false) {o : Nat} {a1 : Int32} (ho : isX12 K R o) {post : mI → Prop} {I : mI} {v2 : Int32} {H : Heap} {locs : List Loc} {ls : Array Slot} (hw : w_X12_personLine_27 o a1 post I v2) (hM : mm D cA bs (n, K, R, I, L) H) (hS : va_S (Ab bs) s.heap H locs) (hl : lv_has ls 7 [(0, .ref (ad bs o)), (2, .int v2)]) : W p l e ({ frames := 5, cells := 0, slots := 0, locals := 117 } : Room) s m args below meth c H locs 0 0 (MQ below (QV D cA bs (fun u => ∃ I', u = (n, K, R, I', L) ∧ post I')) args s 0 0 (Ab bs)) (F0 m 27 ls []) := by
  have hx := E.1.1
  have hb := E.1.2.1
  refine lv_aload_n hx hb dX12_personLine_27 rfl (lv_at hl 0 rfl) ?_
  refine lv_iconst (v := 0) hx hb dX12_personLine_28 (by decide) ?_
  refine lv_bipush (v := 9) hx hb dX12_personLine_29 (by decide) ?_
  refine m_ci (m_runV E hM hS cs_X12_144 ho.1 (by decide) rfl rfl (c_X12_numbered ho hw) rfl rfl ⟨Nat.le_of_ble_eq_true rfl, Nat.le_of_ble_eq_true rfl⟩ rfl hl.1 rfl (Nat.le_of_ble_eq_true rfl) dX12_personLine_31 ⟨Nat.le_of_ble_eq_true rfl, Nat.le_of_ble_eq_true rfl⟩) hS (fun r2 u H locs hp hM hS => ?_)
  obtain ⟨I3, rfl, hw⟩ := hp
  refine lv_istore_n (lv' := [(3, .int r2), (0, .ref (ad bs o)), (2, .int v2)]) hx hb dX12_personLine_34 rfl hl (by decide) rfl (fun ls hl => ?_)
  refine lv_aload_n hx hb dX12_personLine_35 rfl (lv_at hl 1 rfl) ?_
  refine lv_iconst (v := 1) hx hb dX12_personLine_36 (by decide) ?_
  refine lv_bipush (v := 9) hx hb dX12_personLine_37 (by decide) ?_
  refine m_ci (m_runV E hM hS cs_X12_144 ho.1 (by decide) rfl rfl (c_X12_numbered ho hw) rfl rfl ⟨Nat.le_of_ble_eq_true rfl, Nat.le_of_ble_eq_true rfl⟩ rfl hl.1 rfl (Nat.le_of_ble_eq_true rfl) dX12_personLine_39 ⟨Nat.le_of_ble_eq_true rfl, Nat.le_of_ble_eq_true rfl⟩) hS (fun r4 u H locs hp hM hS => ?_)
  obtain ⟨I5, rfl, hw⟩ := hp
  refine lv_istore (lv' := [(4, .int r4), (3, .int r2), (0, .ref (ad bs o)), (2, .int v2)]) hx hb dX12_personLine_42 hl (by decide) rfl (fun ls hl => ?_)
  refine lv_aload_n hx hb dX12_personLine_44 rfl (lv_at hl 2 rfl) ?_
  refine lv_iconst (v := 1) hx hb dX12_personLine_45 (by decide) ?_
  refine lv_iconst (v := 4) hx hb dX12_personLine_46 (by decide) ?_
  refine m_ci (m_runV E hM hS cs_X12_144 ho.1 (by decide) rfl rfl (c_X12_numbered ho hw) rfl rfl ⟨Nat.le_of_ble_eq_true rfl, Nat.le_of_ble_eq_true rfl⟩ rfl hl.1 rfl (Nat.le_of_ble_eq_true rfl) dX12_personLine_47 ⟨Nat.le_of_ble_eq_true rfl, Nat.le_of_ble_eq_true rfl⟩) hS (fun r6 u H locs hp hM hS => ?_)
  obtain ⟨I7, rfl, hw⟩ := hp
  refine lv_istore (lv' := [(5, .int r6), (4, .int r4), (3, .int r2), (0, .ref (ad bs o)), (2, .int v2)]) hx hb dX12_personLine_50 hl (by decide) rfl (fun ls hl => ?_)
  refine lv_iload_n hx hb dX12_personLine_52 rfl (lv_at hl 4 rfl) ?_
  refine lv_if_ne (tgt := 57) hx hb dX12_personLine_53 (by decide) (fun cq => ?_) (fun cq => ?_)
  · have hw := hw.1 cq
    refine lv_bipush (v := 41) hx hb dX12_personLine_57 (by decide) ?_
    refine lv_bipush (v := 14) hx hb dX12_personLine_59 (by decide) ?_
    refine lv_aload_n hx hb dX12_personLine_61 rfl (lv_at hl 3 rfl) ?_
    refine m_getr E hM fs_X12_17 ho.1 (isO_at ho 2 rfl).1 dX12_personLine_62 ?_
    refine lv_iconst (v := 3) hx hb dX12_personLine_65 (by decide) ?_
    refine m_iald E hM (isO_at ho 2 rfl).2 (by unfold vp_in; decide) dX12_personLine_66 ?_
    refine lv_imul hx hb dX12_personLine_67 ?_
    refine lv_iadd hx hb dX12_personLine_68 ?_
    refine lv_topi (fun x8 ex8 => ?_)
    have hw := hw x8 ex8
    refine lv_istore (lv' := [(6, .int x8), (5, .int r6), (4, .int r4), (3, .int r2), (0, .ref (ad bs o)), (2, .int v2)]) hx hb dX12_personLine_69 hl (by decide) rfl (fun ls hl => ?_)
    refine lv_aload_n hx hb dX12_personLine_71 rfl (lv_at hl 4 rfl) ?_
    refine m_getr E hM fs_X12_17 ho.1 (isO_at ho 2 rfl).1 dX12_personLine_72 ?_
    refine lv_iload hx hb dX12_personLine_75 (lv_at hl 0 rfl) ?_
    refine lv_iconst (v := 0) hx hb dX12_personLine_77 (by decide) ?_
    refine lv_iadd hx hb dX12_personLine_78 ?_
    refine lv_iload_n hx hb dX12_personLine_79 rfl (lv_at hl 3 rfl) ?_
    obtain ⟨hv, hw⟩ := hw
    refine m_iast E hM hS (isO_at ho 2 rfl).2 hv dX12_personLine_80 (fun I9 H locs eI9 hM hS => ?_)
    have hw := hw I9 eI9
    refine lv_aload_n hx hb dX12_personLine_81 rfl (lv_at hl 4 rfl) ?_
    refine m_getr E hM fs_X12_17 ho.1 (isO_at ho 2 rfl).1 dX12_personLine_82 ?_
    refine lv_iload hx hb dX12_personLine_85 (lv_at hl 0 rfl) ?_
    refine lv_iconst (v := 1) hx hb dX12_personLine_87 (by decide) ?_
    refine lv_iadd hx hb dX12_personLine_88 ?_
    refine lv_iload hx hb dX12_personLine_89 (lv_at hl 2 rfl) ?_
    obtain ⟨hv, hw⟩ := hw
    refine m_iast E hM hS (isO_at ho 2 rfl).2 hv dX12_personLine_91 (fun I10 H locs eI10 hM hS => ?_)
    have hw := hw I10 eI10
    refine lv_aload_n hx hb dX12_personLine_92 rfl (lv_at hl 4 rfl) ?_
    refine m_getr E hM fs_X12_17 ho.1 (isO_at ho 2 rfl).1 dX12_personLine_93 ?_
    refine lv_iload hx hb dX12_personLine_96 (lv_at hl 0 rfl) ?_
    refine lv_iconst (v := 2) hx hb dX12_personLine_98 (by decide) ?_
    refine lv_iadd hx hb dX12_personLine_99 ?_
    refine lv_iload hx hb dX12_personLine_100 (lv_at hl 1 rfl) ?_
    obtain ⟨hv, hw⟩ := hw
    refine m_iast E hM hS (isO_at ho 2 rfl).2 hv dX12_personLine_102 (fun I11 H locs eI11 hM hS => ?_)
    have hw := hw I11 eI11
    refine lv_aload_n hx hb dX12_personLine_103 rfl (lv_at hl 4 rfl) ?_
    refine m_getr E hM fs_X12_17 ho.1 (isO_at ho 2 rfl).1 dX12_personLine_104 ?_
    refine lv_iconst (v := 3) hx hb dX12_personLine_107 (by decide) ?_
    refine lv_dup2_11 hx hb dX12_personLine_108 rfl rfl ?_
    refine m_iald E hM (isO_at ho 2 rfl).2 (by unfold vp_in; decide) dX12_personLine_109 ?_
    refine lv_iconst (v := 1) hx hb dX12_personLine_110 (by decide) ?_
    refine lv_iadd hx hb dX12_personLine_111 ?_
    refine m_iast E hM hS (isO_at ho 2 rfl).2 (by unfold vp_in; decide) dX12_personLine_112 (fun I12 H locs eI12 hM hS => ?_)
    have hw := hw I12 eI12
    exact m_retv hx hb hr hlk hM hS ⟨_, rfl, hw⟩ dX12_personLine_113
  · have hw := hw.2 cq
    exact m_retv hx hb hr hlk hM hS ⟨_, rfl, hw⟩ dX12_personLine_56
def w_X12_personLine_16 (o : Nat) (a1 : Int32) (post : mI → Prop) (I : mI) (s0 : Int32) : Prop := (¬ s0 = 0 → (w_X12_personLine_27 o a1 post) I s0) ∧ (s0 = 0 → w_X12_also I o 3 a1 (fun I1 => (w_X12_personLine_27 o a1 post) I1 s0))
set_option maxRecDepth 100000 in
set_option maxHeartbeats 4000000 in
theorem s_X12_personLine_16 {p : Program} {l : Launch} {e : Env} {s : State} {m : MethodId} {args : Array Value} {below : List Frame} {meth : Method} {c : Code} {D : va_G} {cA : Nat → ClassId} {Z : mZ} {bs : Ad} {n : Nat} {K : mK} {R : mR} {L : mL} (E : Ev p s m args c cX12_personLine 7 RX12 D cA Z bs) (hr : meth.sig.returnType = none) (hlk : meth.locks = false) {o : Nat} {a1 : Int32} (ho : isX12 K R o) {post : mI → Prop} {I : mI} {s0 : Int32} {H : Heap} {locs : List Loc} {ls : Array Slot} (hw : w_X12_personLine_16 o a1 post I s0) (hM : mm D cA bs (n, K, R, I, L) H) (hS : va_S (Ab bs) s.heap H locs) (hl : lv_has ls 7 [(0, .ref (ad bs o)), (1, .int a1)]) : W p l e ({ frames := 5, cells := 0, slots := 0, locals := 117 } : Room) s m args below meth c H locs 0 0 (MQ below (QV D cA bs (fun u => ∃ I', u = (n, K, R, I', L) ∧ post I')) args s 0 0 (Ab bs)) (F0 m 16 ls [.int s0]) := by
  have hx := E.1.1
  have hb := E.1.2.1
  refine lv_istore_n (lv' := [(2, .int s0), (0, .ref (ad bs o)), (1, .int a1)]) hx hb dX12_personLine_16 rfl hl (by decide) rfl (fun ls hl => ?_)
  refine lv_iload_n hx hb dX12_personLine_17 rfl (lv_at hl 0 rfl) ?_
  refine lv_if_ne (tgt := 27) hx hb dX12_personLine_18 (by decide) (fun cq => ?_) (fun cq => ?_)
  · have hw := hw.1 cq
    exact s_X12_personLine_27 E hr hlk ho  hw hM hS (lv_sub hl [1, 0] rfl)
  · have hw := hw.2 cq
    refine lv_aload_n hx hb dX12_personLine_21 rfl (lv_at hl 1 rfl) ?_
    refine lv_iconst (v := 3) hx hb dX12_personLine_22 (by decide) ?_
    refine lv_iload_n hx hb dX12_personLine_23 rfl (lv_at hl 2 rfl) ?_
    refine m_cv (m_runV E hM hS cs_X12_137 ho.1 (by decide) rfl rfl (c_X12_also ho hw) rfl rfl ⟨Nat.le_of_ble_eq_true rfl, Nat.le_of_ble_eq_true rfl⟩ rfl hl.1 rfl (Nat.le_of_ble_eq_true rfl) dX12_personLine_24 ⟨Nat.le_of_ble_eq_true rfl, Nat.le_of_ble_eq_true rfl⟩) hS (fun u H locs hp hM hS => ?_)
    obtain ⟨I1, rfl, hw⟩ := hp
    exact s_X12_personLine_27 E hr hlk ho  hw hM hS (lv_sub hl [1, 0] rfl)
def w_X12_personLine (I : mI) (o : Nat) (a1 : Int32) (post : mI → Prop) : Prop := (6 ≤ (I (o + 3) (3 : Int32).toNatClampNeg) → (w_X12_personLine_16 o a1 post) I 0) ∧ (¬ 6 ≤ (I (o + 3) (3 : Int32).toNatClampNeg) → (w_X12_personLine_16 o a1 post) I 1)
set_option maxRecDepth 100000 in
set_option maxHeartbeats 4000000 in
theorem c_X12_personLine {l : Launch} {D : va_G} {cA : Nat → ClassId} {Z : mZ} {bs : Ad} {n : Nat} {K : mK} {R : mR} {I : mI} {L : mL} {o : Nat} {a1 : Int32} {post : mI → Prop} (ho : isX12 K R o) (hw : w_X12_personLine I o a1 post) : Met l yX12_personLine (.code yX12_personLine cX12_personLine 7 none :: gw) ({ frames := 5, cells := 0, slots := 0, locals := 117 } : Room) (PreM D cA Z bs (n, K, R, I, L) [.ref (ad bs o), .int a1]) (QV D cA bs (fun u => ∃ I', u = (n, K, R, I', L) ∧ post I')) 0 0 (Ab bs) := by
  refine m_met (by decide) (Nat.le_of_ble_eq_true rfl) (fun p e s m below meth c ls E hr hlk hM hS hl => ?_)
  have E : Ev p s m _ c cX12_personLine 7 RX12 D cA Z bs := E
  have hl : lv_has ls 7 [(0, .ref (ad bs o)), (1, .int a1)] := hl
  have hx := E.1.1
  have hb := E.1.2.1
  generalize hHe : s.heap = H at hM ⊢
  have hS : va_S (Ab bs) s.heap H [] := by rw [← hHe]; exact va_S.rf
  clear hHe
  refine lv_aload_n hx hb dX12_personLine_0 rfl (lv_at hl 0 rfl) ?_
  refine m_getr E hM fs_X12_17 ho.1 (isO_at ho 2 rfl).1 dX12_personLine_1 ?_
  refine lv_iconst (v := 3) hx hb dX12_personLine_4 (by decide) ?_
  refine m_iald E hM (isO_at ho 2 rfl).2 (by unfold vp_in; decide) dX12_personLine_5 ?_
  refine lv_bipush (v := 6) hx hb dX12_personLine_6 (by decide) ?_
  refine lv_icmp_ge (tgt := 15) hx hb dX12_personLine_8 (by decide) (fun cq => ?_) (fun cq => ?_)
  · have hw := hw.1 cq
    refine lv_iconst (v := 0) hx hb dX12_personLine_15 (by decide) ?_
    exact s_X12_personLine_16 E hr hlk ho  hw hM hS (lv_sub hl [0, 1] rfl)
  · have hw := hw.2 cq
    refine lv_iconst (v := 1) hx hb dX12_personLine_11 (by decide) ?_
    refine lv_goto (tgt := 16) hx hb dX12_personLine_12 (by decide) ?_
    exact s_X12_personLine_16 E hr hlk ho  hw hM hS (lv_sub hl [0, 1] rfl)
theorem dX12_walkLine_0 : decode cX12_walkLine 0 = .ok (.bipush 41, 2) := by decide +kernel
theorem dX12_walkLine_2 : decode cX12_walkLine 2 = .ok (.bipush 14, 2) := by decide +kernel
theorem dX12_walkLine_4 : decode cX12_walkLine 4 = .ok (.aload_n 0, 1) := by decide +kernel
theorem dX12_walkLine_5 : decode cX12_walkLine 5 = .ok (.invokevirtual 158, 3) := by decide +kernel
theorem dX12_walkLine_8 : decode cX12_walkLine 8 = .ok (.imul, 1) := by decide +kernel
theorem dX12_walkLine_9 : decode cX12_walkLine 9 = .ok (.iadd, 1) := by decide +kernel
theorem dX12_walkLine_10 : decode cX12_walkLine 10 = .ok (.istore_n 1, 1) := by decide +kernel
theorem dX12_walkLine_11 : decode cX12_walkLine 11 = .ok (.aload_n 0, 1) := by decide +kernel
theorem dX12_walkLine_12 : decode cX12_walkLine 12 = .ok (.getfield 17, 3) := by decide +kernel
theorem dX12_walkLine_15 : decode cX12_walkLine 15 = .ok (.iload_n 1, 1) := by decide +kernel
theorem dX12_walkLine_16 : decode cX12_walkLine 16 = .ok (.iconst 3, 1) := by decide +kernel
theorem dX12_walkLine_17 : decode cX12_walkLine 17 = .ok (.iadd, 1) := by decide +kernel
theorem dX12_walkLine_18 : decode cX12_walkLine 18 = .ok (.aload_n 0, 1) := by decide +kernel
theorem dX12_walkLine_19 : decode cX12_walkLine 19 = .ok (.iconst 0, 1) := by decide +kernel
theorem dX12_walkLine_20 : decode cX12_walkLine 20 = .ok (.bipush 60, 2) := by decide +kernel
theorem dX12_walkLine_22 : decode cX12_walkLine 22 = .ok (.invokevirtual 144, 3) := by decide +kernel
theorem dX12_walkLine_25 : decode cX12_walkLine 25 = .ok (.iastore, 1) := by decide +kernel
theorem dX12_walkLine_26 : decode cX12_walkLine 26 = .ok (.aload_n 0, 1) := by decide +kernel
theorem dX12_walkLine_27 : decode cX12_walkLine 27 = .ok (.getfield 17, 3) := by decide +kernel
theorem dX12_walkLine_30 : decode cX12_walkLine 30 = .ok (.iload_n 1, 1) := by decide +kernel
theorem dX12_walkLine_31 : decode cX12_walkLine 31 = .ok (.iconst 4, 1) := by decide +kernel
theorem dX12_walkLine_32 : decode cX12_walkLine 32 = .ok (.iadd, 1) := by decide +kernel
theorem dX12_walkLine_33 : decode cX12_walkLine 33 = .ok (.aload_n 0, 1) := by decide +kernel
theorem dX12_walkLine_34 : decode cX12_walkLine 34 = .ok (.invokevirtual 154, 3) := by decide +kernel
theorem dX12_walkLine_37 : decode cX12_walkLine 37 = .ok (.iastore, 1) := by decide +kernel
theorem dX12_walkLine_38 : decode cX12_walkLine 38 = .ok (.iconst 0, 1) := by decide +kernel
theorem dX12_walkLine_39 : decode cX12_walkLine 39 = .ok (.istore_n 2, 1) := by decide +kernel
theorem dX12_walkLine_40 : decode cX12_walkLine 40 = .ok (.aload_n 0, 1) := by decide +kernel
theorem dX12_walkLine_41 : decode cX12_walkLine 41 = .ok (.getfield 126, 3) := by decide +kernel
theorem dX12_walkLine_44 : decode cX12_walkLine 44 = .ok (.ifCond .ne 60, 3) := by decide +kernel
theorem dX12_walkLine_47 : decode cX12_walkLine 47 = .ok (.iload_n 2, 1) := by decide +kernel
theorem dX12_walkLine_48 : decode cX12_walkLine 48 = .ok (.ifCond .eq 11, 3) := by decide +kernel
theorem dX12_walkLine_51 : decode cX12_walkLine 51 = .ok (.aload_n 0, 1) := by decide +kernel
theorem dX12_walkLine_52 : decode cX12_walkLine 52 = .ok (.getfield 102, 3) := by decide +kernel
theorem dX12_walkLine_55 : decode cX12_walkLine 55 = .ok (.iconst 1, 1) := by decide +kernel
theorem dX12_walkLine_56 : decode cX12_walkLine 56 = .ok (.if_icmp .ne 48, 3) := by decide +kernel
theorem dX12_walkLine_59 : decode cX12_walkLine 59 = .ok (.iload_n 2, 1) := by decide +kernel
theorem dX12_walkLine_60 : decode cX12_walkLine 60 = .ok (.bipush 8, 2) := by decide +kernel
theorem dX12_walkLine_62 : decode cX12_walkLine 62 = .ok (.if_icmp .lt 12, 3) := by decide +kernel
theorem dX12_walkLine_65 : decode cX12_walkLine 65 = .ok (.aload_n 0, 1) := by decide +kernel
theorem dX12_walkLine_66 : decode cX12_walkLine 66 = .ok (.iconst 3, 1) := by decide +kernel
theorem dX12_walkLine_67 : decode cX12_walkLine 67 = .ok (.aload_n 0, 1) := by decide +kernel
theorem dX12_walkLine_68 : decode cX12_walkLine 68 = .ok (.getfield 99, 3) := by decide +kernel
theorem dX12_walkLine_71 : decode cX12_walkLine 71 = .ok (.invokevirtual 137, 3) := by decide +kernel
theorem dX12_walkLine_74 : decode cX12_walkLine 74 = .ok (.aload_n 0, 1) := by decide +kernel
theorem dX12_walkLine_75 : decode cX12_walkLine 75 = .ok (.invokevirtual 154, 3) := by decide +kernel
theorem dX12_walkLine_78 : decode cX12_walkLine 78 = .ok (.istore_n 3, 1) := by decide +kernel
theorem dX12_walkLine_79 : decode cX12_walkLine 79 = .ok (.iload_n 2, 1) := by decide +kernel
theorem dX12_walkLine_80 : decode cX12_walkLine 80 = .ok (.bipush 8, 2) := by decide +kernel
theorem dX12_walkLine_82 : decode cX12_walkLine 82 = .ok (.if_icmp .ge 16, 3) := by decide +kernel
theorem dX12_walkLine_85 : decode cX12_walkLine 85 = .ok (.aload_n 0, 1) := by decide +kernel
theorem dX12_walkLine_86 : decode cX12_walkLine 86 = .ok (.getfield 17, 3) := by decide +kernel
theorem dX12_walkLine_89 : decode cX12_walkLine 89 = .ok (.iload_n 1, 1) := by decide +kernel
theorem dX12_walkLine_90 : decode cX12_walkLine 90 = .ok (.iconst 5, 1) := by decide +kernel
theorem dX12_walkLine_91 : decode cX12_walkLine 91 = .ok (.iadd, 1) := by decide +kernel
theorem dX12_walkLine_92 : decode cX12_walkLine 92 = .ok (.iconst 1, 1) := by decide +kernel
theorem dX12_walkLine_93 : decode cX12_walkLine 93 = .ok (.iadd, 1) := by decide +kernel
theorem dX12_walkLine_94 : decode cX12_walkLine 94 = .ok (.iload_n 2, 1) := by decide +kernel
theorem dX12_walkLine_95 : decode cX12_walkLine 95 = .ok (.iadd, 1) := by decide +kernel
theorem dX12_walkLine_96 : decode cX12_walkLine 96 = .ok (.iload_n 3, 1) := by decide +kernel
theorem dX12_walkLine_97 : decode cX12_walkLine 97 = .ok (.iastore, 1) := by decide +kernel
theorem dX12_walkLine_98 : decode cX12_walkLine 98 = .ok (.iinc 2 1, 3) := by decide +kernel
theorem dX12_walkLine_101 : decode cX12_walkLine 101 = .ok (.goto (-61), 3) := by decide +kernel
theorem dX12_walkLine_104 : decode cX12_walkLine 104 = .ok (.aload_n 0, 1) := by decide +kernel
theorem dX12_walkLine_105 : decode cX12_walkLine 105 = .ok (.getfield 17, 3) := by decide +kernel
theorem dX12_walkLine_108 : decode cX12_walkLine 108 = .ok (.iload_n 1, 1) := by decide +kernel
theorem dX12_walkLine_109 : decode cX12_walkLine 109 = .ok (.iconst 5, 1) := by decide +kernel
theorem dX12_walkLine_110 : decode cX12_walkLine 110 = .ok (.iadd, 1) := by decide +kernel
theorem dX12_walkLine_111 : decode cX12_walkLine 111 = .ok (.iload_n 2, 1) := by decide +kernel
theorem dX12_walkLine_112 : decode cX12_walkLine 112 = .ok (.bipush 8, 2) := by decide +kernel
theorem dX12_walkLine_114 : decode cX12_walkLine 114 = .ok (.if_icmp .le 8, 3) := by decide +kernel
theorem dX12_walkLine_117 : decode cX12_walkLine 117 = .ok (.bipush 8, 2) := by decide +kernel
theorem dX12_walkLine_119 : decode cX12_walkLine 119 = .ok (.goto 4, 3) := by decide +kernel
theorem dX12_walkLine_122 : decode cX12_walkLine 122 = .ok (.iload_n 2, 1) := by decide +kernel
theorem dX12_walkLine_123 : decode cX12_walkLine 123 = .ok (.iastore, 1) := by decide +kernel
theorem dX12_walkLine_124 : decode cX12_walkLine 124 = .ok (.return_, 1) := by decide +kernel
def w_X12_walkLine_74 (o : Nat) (post : mI → Prop) (k40 : mI → Int32 → Int32 → Prop) (I : mI) (v1 : Int32) (v2 : Int32) : Prop := w_X12_stepTold I o (fun r11 I12 => (8 ≤ v2 → ∀ x13, x13 = v2 + 1 → k40 I12 v1 x13) ∧ (¬ 8 ≤ v2 → vp_in (((v1 + 5) + 1) + v2) 149 ∧ ∀ I14, I14 = up2 I12 (o + 3) ((((v1 + 5) + 1) + v2).toNatClampNeg) r11 → ∀ x15, x15 = v2 + 1 → k40 I14 v1 x15))
set_option maxRecDepth 100000 in
set_option maxHeartbeats 4000000 in
theorem s_X12_walkLine_74 {p : Program} {l : Launch} {e : Env} {s : State} {m : MethodId} {args : Array Value} {below : List Frame} {meth : Method} {c : Code} {D : va_G} {cA : Nat → ClassId} {Z : mZ} {bs : Ad} {n : Nat} {K : mK} {R : mR} {L : mL} (E : Ev p s m args c cX12_walkLine 4 RX12 D cA Z bs) (hr : meth.sig.returnType = none) (hlk : meth.locks = false) {o : Nat} (ho : isX12 K R o) {post : mI → Prop} {k40 : mI → Int32 → Int32 → Prop} (hk40 : ∀ (I : mI) (v1 : Int32) (v2 : Int32) (H : Heap) (locs : List Loc) (ls : Array Slot), k40 I v1 v2 → mm D cA bs (n, K, R, I, L) H → va_S (Ab bs) s.heap H locs → lv_has ls 4 [(0, .ref (ad bs o)), (1, .int v1), (2, .int v2)] → W p l e ({ frames := 6, cells := 0, slots := 0, locals := 138 } : Room) s m args below meth c H locs 0 0 (MQ below (QV D cA bs (fun u => ∃ I', u = (n, K, R, I', L) ∧ post I')) args s 0 0 (Ab bs)) (F0 m 40 ls [])) {I : mI} {v1 : Int32} {v2 : Int32} {H : Heap} {locs : List Loc} {ls : Array Slot} (hw : w_X12_walkLine_74 o post k40 I v1 v2) (hM : mm D cA bs (n, K, R, I, L) H) (hS : va_S (Ab bs) s.heap H locs) (hl : lv_has ls 4 [(0, .ref (ad bs o)), (1, .int v1), (2, .int v2)]) : W p l e ({ frames := 6, cells := 0, slots := 0, locals := 138 } : Room) s m args below meth c H locs 0 0 (MQ below (QV D cA bs (fun u => ∃ I', u = (n, K, R, I', L) ∧ post I')) args s 0 0 (Ab bs)) (F0 m 74 ls []) := by
  have hx := E.1.1
  have hb := E.1.2.1
  refine lv_aload_n hx hb dX12_walkLine_74 rfl (lv_at hl 0 rfl) ?_
  refine m_ci (m_runV E hM hS cs_X12_154 ho.1 (by decide) rfl rfl (c_X12_stepTold ho hw) rfl rfl ⟨Nat.le_of_ble_eq_true rfl, Nat.le_of_ble_eq_true rfl⟩ rfl hl.1 rfl (Nat.le_of_ble_eq_true rfl) dX12_walkLine_75 ⟨Nat.le_of_ble_eq_true rfl, Nat.le_of_ble_eq_true rfl⟩) hS (fun r11 u H locs hp hM hS => ?_)
  obtain ⟨I12, rfl, hw⟩ := hp
  refine lv_istore_n (lv' := [(3, .int r11), (0, .ref (ad bs o)), (1, .int v1), (2, .int v2)]) hx hb dX12_walkLine_78 rfl hl (by decide) rfl (fun ls hl => ?_)
  refine lv_iload_n hx hb dX12_walkLine_79 rfl (lv_at hl 3 rfl) ?_
  refine lv_bipush (v := 8) hx hb dX12_walkLine_80 (by decide) ?_
  refine lv_icmp_ge (tgt := 98) hx hb dX12_walkLine_82 (by decide) (fun cq => ?_) (fun cq => ?_)
  · have hw := hw.1 cq
    obtain ⟨x13, ex13⟩ : ∃ y : Int32, y = v2 + 1 := ⟨_, rfl⟩
    have hw := hw x13 ex13
    refine lv_iinc (v := x13) (lv' := [(2, .int x13), (3, .int r11), (0, .ref (ad bs o)), (1, .int v1)]) hx hb dX12_walkLine_98 hl (k := 3) rfl (by rw [ex13]; rfl) (by decide) rfl (fun ls hl => ?_)
    refine lv_goto (tgt := 40) hx hb dX12_walkLine_101 (by decide) ?_
    exact hk40 _ _ _ H locs ls  hw hM hS (lv_sub hl [2, 3, 0] rfl)
  · have hw := hw.2 cq
    refine lv_aload_n hx hb dX12_walkLine_85 rfl (lv_at hl 1 rfl) ?_
    refine m_getr E hM fs_X12_17 ho.1 (isO_at ho 2 rfl).1 dX12_walkLine_86 ?_
    refine lv_iload_n hx hb dX12_walkLine_89 rfl (lv_at hl 2 rfl) ?_
    refine lv_iconst (v := 5) hx hb dX12_walkLine_90 (by decide) ?_
    refine lv_iadd hx hb dX12_walkLine_91 ?_
    refine lv_iconst (v := 1) hx hb dX12_walkLine_92 (by decide) ?_
    refine lv_iadd hx hb dX12_walkLine_93 ?_
    refine lv_iload_n hx hb dX12_walkLine_94 rfl (lv_at hl 3 rfl) ?_
    refine lv_iadd hx hb dX12_walkLine_95 ?_
    refine lv_iload_n hx hb dX12_walkLine_96 rfl (lv_at hl 0 rfl) ?_
    obtain ⟨hv, hw⟩ := hw
    refine m_iast E hM hS (isO_at ho 2 rfl).2 hv dX12_walkLine_97 (fun I14 H locs eI14 hM hS => ?_)
    have hw := hw I14 eI14
    obtain ⟨x15, ex15⟩ : ∃ y : Int32, y = v2 + 1 := ⟨_, rfl⟩
    have hw := hw x15 ex15
    refine lv_iinc (v := x15) (lv' := [(2, .int x15), (3, .int r11), (0, .ref (ad bs o)), (1, .int v1)]) hx hb dX12_walkLine_98 hl (k := 3) rfl (by rw [ex15]; rfl) (by decide) rfl (fun ls hl => ?_)
    refine lv_goto (tgt := 40) hx hb dX12_walkLine_101 (by decide) ?_
    exact hk40 _ _ _ H locs ls  hw hM hS (lv_sub hl [2, 3, 0] rfl)
def w_X12_walkLine_59 (o : Nat) (post : mI → Prop) (k40 : mI → Int32 → Int32 → Prop) (I : mI) (v1 : Int32) (v2 : Int32) : Prop := (v2 < 8 → (w_X12_walkLine_74 o post k40) I v1 v2) ∧ (¬ v2 < 8 → w_X12_also I o 3 (I o 4) (fun I10 => (w_X12_walkLine_74 o post k40) I10 v1 v2))
set_option maxRecDepth 100000 in
set_option maxHeartbeats 4000000 in
theorem s_X12_walkLine_59 {p : Program} {l : Launch} {e : Env} {s : State} {m : MethodId} {args : Array Value} {below : List Frame} {meth : Method} {c : Code} {D : va_G} {cA : Nat → ClassId} {Z : mZ} {bs : Ad} {n : Nat} {K : mK} {R : mR} {L : mL} (E : Ev p s m args c cX12_walkLine 4 RX12 D cA Z bs) (hr : meth.sig.returnType = none) (hlk : meth.locks = false) {o : Nat} (ho : isX12 K R o) {post : mI → Prop} {k40 : mI → Int32 → Int32 → Prop} (hk40 : ∀ (I : mI) (v1 : Int32) (v2 : Int32) (H : Heap) (locs : List Loc) (ls : Array Slot), k40 I v1 v2 → mm D cA bs (n, K, R, I, L) H → va_S (Ab bs) s.heap H locs → lv_has ls 4 [(0, .ref (ad bs o)), (1, .int v1), (2, .int v2)] → W p l e ({ frames := 6, cells := 0, slots := 0, locals := 138 } : Room) s m args below meth c H locs 0 0 (MQ below (QV D cA bs (fun u => ∃ I', u = (n, K, R, I', L) ∧ post I')) args s 0 0 (Ab bs)) (F0 m 40 ls [])) {I : mI} {v1 : Int32} {v2 : Int32} {H : Heap} {locs : List Loc} {ls : Array Slot} (hw : w_X12_walkLine_59 o post k40 I v1 v2) (hM : mm D cA bs (n, K, R, I, L) H) (hS : va_S (Ab bs) s.heap H locs) (hl : lv_has ls 4 [(0, .ref (ad bs o)), (1, .int v1), (2, .int v2)]) : W p l e ({ frames := 6, cells := 0, slots := 0, locals := 138 } : Room) s m args below meth c H locs 0 0 (MQ below (QV D cA bs (fun u => ∃ I', u = (n, K, R, I', L) ∧ post I')) args s 0 0 (Ab bs)) (F0 m 59 ls []) := by
  have hx := E.1.1
  have hb := E.1.2.1
  refine lv_iload_n hx hb dX12_walkLine_59 rfl (lv_at hl 2 rfl) ?_
  refine lv_bipush (v := 8) hx hb dX12_walkLine_60 (by decide) ?_
  refine lv_icmp_lt (tgt := 74) hx hb dX12_walkLine_62 (by decide) (fun cq => ?_) (fun cq => ?_)
  · have hw := hw.1 cq
    exact s_X12_walkLine_74 E hr hlk ho hk40  hw hM hS (lv_sub hl [0, 1, 2] rfl)
  · have hw := hw.2 cq
    refine lv_aload_n hx hb dX12_walkLine_65 rfl (lv_at hl 0 rfl) ?_
    refine lv_iconst (v := 3) hx hb dX12_walkLine_66 (by decide) ?_
    refine lv_aload_n hx hb dX12_walkLine_67 rfl (lv_at hl 0 rfl) ?_
    refine m_geti E hM fs_X12_99 ho.1 dX12_walkLine_68 ?_
    refine m_cv (m_runV E hM hS cs_X12_137 ho.1 (by decide) rfl rfl (c_X12_also ho hw) rfl rfl ⟨Nat.le_of_ble_eq_true rfl, Nat.le_of_ble_eq_true rfl⟩ rfl hl.1 rfl (Nat.le_of_ble_eq_true rfl) dX12_walkLine_71 ⟨Nat.le_of_ble_eq_true rfl, Nat.le_of_ble_eq_true rfl⟩) hS (fun u H locs hp hM hS => ?_)
    obtain ⟨I10, rfl, hw⟩ := hp
    exact s_X12_walkLine_74 E hr hlk ho hk40  hw hM hS (lv_sub hl [0, 1, 2] rfl)
def w_X12_walkLine_40 (o : Nat) (post : mI → Prop) (k104 : mI → Int32 → Int32 → Prop) (I : mI) (v1 : Int32) (v2 : Int32) : Prop := ∀ ZZ : (mI → Int32 → Int32 → Prop), (∀ (I : mI) (v1 : Int32) (v2 : Int32), ((¬ (I o 8) = 0 → k104 I v1 v2) ∧ ((I o 8) = 0 → (v2 = 0 → (w_X12_walkLine_59 o post ZZ) I v1 v2) ∧ (¬ v2 = 0 → (¬ (I o 5) = 1 → k104 I v1 v2) ∧ ((I o 5) = 1 → (w_X12_walkLine_59 o post ZZ) I v1 v2)))) → ZZ I v1 v2) → ZZ I v1 v2
set_option maxRecDepth 100000 in
set_option maxHeartbeats 4000000 in
theorem s_X12_walkLine_40 {p : Program} {l : Launch} {e : Env} {s : State} {m : MethodId} {args : Array Value} {below : List Frame} {meth : Method} {c : Code} {D : va_G} {cA : Nat → ClassId} {Z : mZ} {bs : Ad} {n : Nat} {K : mK} {R : mR} {L : mL} (E : Ev p s m args c cX12_walkLine 4 RX12 D cA Z bs) (hr : meth.sig.returnType = none) (hlk : meth.locks = false) {o : Nat} (ho : isX12 K R o) {post : mI → Prop} {k104 : mI → Int32 → Int32 → Prop} (hk104 : ∀ (I : mI) (v1 : Int32) (v2 : Int32) (H : Heap) (locs : List Loc) (ls : Array Slot), k104 I v1 v2 → mm D cA bs (n, K, R, I, L) H → va_S (Ab bs) s.heap H locs → lv_has ls 4 [(0, .ref (ad bs o)), (1, .int v1), (2, .int v2)] → W p l e ({ frames := 6, cells := 0, slots := 0, locals := 138 } : Room) s m args below meth c H locs 0 0 (MQ below (QV D cA bs (fun u => ∃ I', u = (n, K, R, I', L) ∧ post I')) args s 0 0 (Ab bs)) (F0 m 104 ls [])) {I : mI} {v1 : Int32} {v2 : Int32} {H : Heap} {locs : List Loc} {ls : Array Slot} (hw : w_X12_walkLine_40 o post k104 I v1 v2) (hM : mm D cA bs (n, K, R, I, L) H) (hS : va_S (Ab bs) s.heap H locs) (hl : lv_has ls 4 [(0, .ref (ad bs o)), (1, .int v1), (2, .int v2)]) : W p l e ({ frames := 6, cells := 0, slots := 0, locals := 138 } : Room) s m args below meth c H locs 0 0 (MQ below (QV D cA bs (fun u => ∃ I', u = (n, K, R, I', L) ∧ post I')) args s 0 0 (Ab bs)) (F0 m 40 ls []) := by
  have hx := E.1.1
  have hb := E.1.2.1
  refine hw (fun I v1 v2 => ∀ (H : Heap) (locs : List Loc) (ls : Array Slot), mm D cA bs (n, K, R, I, L) H → va_S (Ab bs) s.heap H locs → lv_has ls 4 [(0, .ref (ad bs o)), (1, .int v1), (2, .int v2)] → W p l e ({ frames := 6, cells := 0, slots := 0, locals := 138 } : Room) s m args below meth c H locs 0 0 (MQ below (QV D cA bs (fun u => ∃ I', u = (n, K, R, I', L) ∧ post I')) args s 0 0 (Ab bs)) (F0 m 40 ls [])) ?_ H locs ls hM hS hl
  clear hw hM hS hl
  intro I v1 v2 hw H locs ls hM hS hl
  refine lv_aload_n hx hb dX12_walkLine_40 rfl (lv_at hl 0 rfl) ?_
  refine m_geti E hM fs_X12_126 ho.1 dX12_walkLine_41 ?_
  refine lv_if_ne (tgt := 104) hx hb dX12_walkLine_44 (by decide) (fun cq => ?_) (fun cq => ?_)
  · have hw := hw.1 cq
    exact hk104 _ _ _ H locs ls  hw hM hS (lv_sub hl [0, 1, 2] rfl)
  · have hw := hw.2 cq
    refine lv_iload_n hx hb dX12_walkLine_47 rfl (lv_at hl 2 rfl) ?_
    refine lv_if_eq (tgt := 59) hx hb dX12_walkLine_48 (by decide) (fun cq => ?_) (fun cq => ?_)
    · have hw := hw.1 cq
      exact s_X12_walkLine_59 E hr hlk ho (fun I v1 v2 H locs ls  hw hM hS hl => hw H locs ls  hM hS hl)  hw hM hS (lv_sub hl [0, 1, 2] rfl)
    · have hw := hw.2 cq
      refine lv_aload_n hx hb dX12_walkLine_51 rfl (lv_at hl 0 rfl) ?_
      refine m_geti E hM fs_X12_102 ho.1 dX12_walkLine_52 ?_
      refine lv_iconst (v := 1) hx hb dX12_walkLine_55 (by decide) ?_
      refine lv_icmp_ne (tgt := 104) hx hb dX12_walkLine_56 (by decide) (fun cq => ?_) (fun cq => ?_)
      · have hw := hw.1 cq
        exact hk104 _ _ _ H locs ls  hw hM hS (lv_sub hl [0, 1, 2] rfl)
      · have hw := hw.2 cq
        exact s_X12_walkLine_59 E hr hlk ho (fun I v1 v2 H locs ls  hw hM hS hl => hw H locs ls  hM hS hl)  hw hM hS (lv_sub hl [0, 1, 2] rfl)
def w_X12_walkLine_123 (o : Nat) (post : mI → Prop) (I : mI) (s1 : Int32) (s2 : Int32) : Prop := vp_in s1 149 ∧ ∀ I16, I16 = up2 I (o + 3) s1.toNatClampNeg s2 → post I16
set_option maxRecDepth 100000 in
set_option maxHeartbeats 4000000 in
theorem s_X12_walkLine_123 {p : Program} {l : Launch} {e : Env} {s : State} {m : MethodId} {args : Array Value} {below : List Frame} {meth : Method} {c : Code} {D : va_G} {cA : Nat → ClassId} {Z : mZ} {bs : Ad} {n : Nat} {K : mK} {R : mR} {L : mL} (E : Ev p s m args c cX12_walkLine 4 RX12 D cA Z bs) (hr : meth.sig.returnType = none) (hlk : meth.locks = false) {o : Nat} (ho : isX12 K R o) {post : mI → Prop} {I : mI} {s1 : Int32} {s2 : Int32} {H : Heap} {locs : List Loc} {ls : Array Slot} (hw : w_X12_walkLine_123 o post I s1 s2) (hM : mm D cA bs (n, K, R, I, L) H) (hS : va_S (Ab bs) s.heap H locs) (hl : lv_has ls 4 []) : W p l e ({ frames := 6, cells := 0, slots := 0, locals := 138 } : Room) s m args below meth c H locs 0 0 (MQ below (QV D cA bs (fun u => ∃ I', u = (n, K, R, I', L) ∧ post I')) args s 0 0 (Ab bs)) (F0 m 123 ls [.int s2, .int s1, .ref (ad bs (o + 3))]) := by
  have hx := E.1.1
  have hb := E.1.2.1
  obtain ⟨hv, hw⟩ := hw
  refine m_iast E hM hS (isO_at ho 2 rfl).2 hv dX12_walkLine_123 (fun I16 H locs eI16 hM hS => ?_)
  have hw := hw I16 eI16
  exact m_retv hx hb hr hlk hM hS ⟨_, rfl, hw⟩ dX12_walkLine_124
def w_X12_walkLine_104 (o : Nat) (post : mI → Prop) (I : mI) (v1 : Int32) (v2 : Int32) : Prop := (v2 ≤ 8 → (w_X12_walkLine_123 o post) I (v1 + 5) v2) ∧ (¬ v2 ≤ 8 → (w_X12_walkLine_123 o post) I (v1 + 5) 8)
set_option maxRecDepth 100000 in
set_option maxHeartbeats 4000000 in
theorem s_X12_walkLine_104 {p : Program} {l : Launch} {e : Env} {s : State} {m : MethodId} {args : Array Value} {below : List Frame} {meth : Method} {c : Code} {D : va_G} {cA : Nat → ClassId} {Z : mZ} {bs : Ad} {n : Nat} {K : mK} {R : mR} {L : mL} (E : Ev p s m args c cX12_walkLine 4 RX12 D cA Z bs) (hr : meth.sig.returnType = none) (hlk : meth.locks = false) {o : Nat} (ho : isX12 K R o) {post : mI → Prop} {I : mI} {v1 : Int32} {v2 : Int32} {H : Heap} {locs : List Loc} {ls : Array Slot} (hw : w_X12_walkLine_104 o post I v1 v2) (hM : mm D cA bs (n, K, R, I, L) H) (hS : va_S (Ab bs) s.heap H locs) (hl : lv_has ls 4 [(0, .ref (ad bs o)), (1, .int v1), (2, .int v2)]) : W p l e ({ frames := 6, cells := 0, slots := 0, locals := 138 } : Room) s m args below meth c H locs 0 0 (MQ below (QV D cA bs (fun u => ∃ I', u = (n, K, R, I', L) ∧ post I')) args s 0 0 (Ab bs)) (F0 m 104 ls []) := by
  have hx := E.1.1
  have hb := E.1.2.1
  refine lv_aload_n hx hb dX12_walkLine_104 rfl (lv_at hl 0 rfl) ?_
  refine m_getr E hM fs_X12_17 ho.1 (isO_at ho 2 rfl).1 dX12_walkLine_105 ?_
  refine lv_iload_n hx hb dX12_walkLine_108 rfl (lv_at hl 1 rfl) ?_
  refine lv_iconst (v := 5) hx hb dX12_walkLine_109 (by decide) ?_
  refine lv_iadd hx hb dX12_walkLine_110 ?_
  refine lv_iload_n hx hb dX12_walkLine_111 rfl (lv_at hl 2 rfl) ?_
  refine lv_bipush (v := 8) hx hb dX12_walkLine_112 (by decide) ?_
  refine lv_icmp_le (tgt := 122) hx hb dX12_walkLine_114 (by decide) (fun cq => ?_) (fun cq => ?_)
  · have hw := hw.1 cq
    refine lv_iload_n hx hb dX12_walkLine_122 rfl (lv_at hl 2 rfl) ?_
    exact s_X12_walkLine_123 E hr hlk ho  hw hM hS (lv_sub hl [] rfl)
  · have hw := hw.2 cq
    refine lv_bipush (v := 8) hx hb dX12_walkLine_117 (by decide) ?_
    refine lv_goto (tgt := 123) hx hb dX12_walkLine_119 (by decide) ?_
    exact s_X12_walkLine_123 E hr hlk ho  hw hM hS (lv_sub hl [] rfl)
def w_X12_walkLine (I : mI) (o : Nat) (post : mI → Prop) : Prop := w_X12_who I o (fun r1 I2 => ∀ x3, x3 = (41 + (14 * r1)) → w_X12_numbered I2 o 0 60 (fun r4 I5 => vp_in (x3 + 3) 149 ∧ ∀ I6, I6 = up2 I5 (o + 3) ((x3 + 3).toNatClampNeg) r4 → w_X12_stepTold I6 o (fun r7 I8 => vp_in (x3 + 4) 149 ∧ ∀ I9, I9 = up2 I8 (o + 3) ((x3 + 4).toNatClampNeg) r7 → (w_X12_walkLine_40 o post (w_X12_walkLine_104 o post)) I9 x3 0)))
set_option maxRecDepth 100000 in
set_option maxHeartbeats 4000000 in
theorem c_X12_walkLine {l : Launch} {D : va_G} {cA : Nat → ClassId} {Z : mZ} {bs : Ad} {n : Nat} {K : mK} {R : mR} {I : mI} {L : mL} {o : Nat} {post : mI → Prop} (ho : isX12 K R o) (hw : w_X12_walkLine I o post) : Met l yX12_walkLine (.code yX12_walkLine cX12_walkLine 4 none :: gw) ({ frames := 6, cells := 0, slots := 0, locals := 138 } : Room) (PreM D cA Z bs (n, K, R, I, L) [.ref (ad bs o)]) (QV D cA bs (fun u => ∃ I', u = (n, K, R, I', L) ∧ post I')) 0 0 (Ab bs) := by
  refine m_met (by decide) (Nat.le_of_ble_eq_true rfl) (fun p e s m below meth c ls E hr hlk hM hS hl => ?_)
  have E : Ev p s m _ c cX12_walkLine 4 RX12 D cA Z bs := E
  have hl : lv_has ls 4 [(0, .ref (ad bs o))] := hl
  have hx := E.1.1
  have hb := E.1.2.1
  generalize hHe : s.heap = H at hM ⊢
  have hS : va_S (Ab bs) s.heap H [] := by rw [← hHe]; exact va_S.rf
  clear hHe
  refine lv_bipush (v := 41) hx hb dX12_walkLine_0 (by decide) ?_
  refine lv_bipush (v := 14) hx hb dX12_walkLine_2 (by decide) ?_
  refine lv_aload_n hx hb dX12_walkLine_4 rfl (lv_at hl 0 rfl) ?_
  refine m_ci (m_runV E hM hS cs_X12_158 ho.1 (by decide) rfl rfl (c_X12_who ho hw) rfl rfl ⟨Nat.le_of_ble_eq_true rfl, Nat.le_of_ble_eq_true rfl⟩ rfl hl.1 rfl (Nat.le_of_ble_eq_true rfl) dX12_walkLine_5 ⟨Nat.le_of_ble_eq_true rfl, Nat.le_of_ble_eq_true rfl⟩) hS (fun r1 u H locs hp hM hS => ?_)
  obtain ⟨I2, rfl, hw⟩ := hp
  refine lv_imul hx hb dX12_walkLine_8 ?_
  refine lv_iadd hx hb dX12_walkLine_9 ?_
  refine lv_topi (fun x3 ex3 => ?_)
  have hw := hw x3 ex3
  refine lv_istore_n (lv' := [(1, .int x3), (0, .ref (ad bs o))]) hx hb dX12_walkLine_10 rfl hl (by decide) rfl (fun ls hl => ?_)
  refine lv_aload_n hx hb dX12_walkLine_11 rfl (lv_at hl 1 rfl) ?_
  refine m_getr E hM fs_X12_17 ho.1 (isO_at ho 2 rfl).1 dX12_walkLine_12 ?_
  refine lv_iload_n hx hb dX12_walkLine_15 rfl (lv_at hl 0 rfl) ?_
  refine lv_iconst (v := 3) hx hb dX12_walkLine_16 (by decide) ?_
  refine lv_iadd hx hb dX12_walkLine_17 ?_
  refine lv_aload_n hx hb dX12_walkLine_18 rfl (lv_at hl 1 rfl) ?_
  refine lv_iconst (v := 0) hx hb dX12_walkLine_19 (by decide) ?_
  refine lv_bipush (v := 60) hx hb dX12_walkLine_20 (by decide) ?_
  refine m_ci (m_runV E hM hS cs_X12_144 ho.1 (by decide) rfl rfl (c_X12_numbered ho hw) rfl rfl ⟨Nat.le_of_ble_eq_true rfl, Nat.le_of_ble_eq_true rfl⟩ rfl hl.1 rfl (Nat.le_of_ble_eq_true rfl) dX12_walkLine_22 ⟨Nat.le_of_ble_eq_true rfl, Nat.le_of_ble_eq_true rfl⟩) hS (fun r4 u H locs hp hM hS => ?_)
  obtain ⟨I5, rfl, hw⟩ := hp
  obtain ⟨hv, hw⟩ := hw
  refine m_iast E hM hS (isO_at ho 2 rfl).2 hv dX12_walkLine_25 (fun I6 H locs eI6 hM hS => ?_)
  have hw := hw I6 eI6
  refine lv_aload_n hx hb dX12_walkLine_26 rfl (lv_at hl 1 rfl) ?_
  refine m_getr E hM fs_X12_17 ho.1 (isO_at ho 2 rfl).1 dX12_walkLine_27 ?_
  refine lv_iload_n hx hb dX12_walkLine_30 rfl (lv_at hl 0 rfl) ?_
  refine lv_iconst (v := 4) hx hb dX12_walkLine_31 (by decide) ?_
  refine lv_iadd hx hb dX12_walkLine_32 ?_
  refine lv_aload_n hx hb dX12_walkLine_33 rfl (lv_at hl 1 rfl) ?_
  refine m_ci (m_runV E hM hS cs_X12_154 ho.1 (by decide) rfl rfl (c_X12_stepTold ho hw) rfl rfl ⟨Nat.le_of_ble_eq_true rfl, Nat.le_of_ble_eq_true rfl⟩ rfl hl.1 rfl (Nat.le_of_ble_eq_true rfl) dX12_walkLine_34 ⟨Nat.le_of_ble_eq_true rfl, Nat.le_of_ble_eq_true rfl⟩) hS (fun r7 u H locs hp hM hS => ?_)
  obtain ⟨I8, rfl, hw⟩ := hp
  obtain ⟨hv, hw⟩ := hw
  refine m_iast E hM hS (isO_at ho 2 rfl).2 hv dX12_walkLine_37 (fun I9 H locs eI9 hM hS => ?_)
  have hw := hw I9 eI9
  refine lv_iconst (v := 0) hx hb dX12_walkLine_38 (by decide) ?_
  refine lv_istore_n (lv' := [(2, .int 0), (1, .int x3), (0, .ref (ad bs o))]) hx hb dX12_walkLine_39 rfl hl (by decide) rfl (fun ls hl => ?_)
  exact s_X12_walkLine_40 E hr hlk ho (fun I v1 v2 H locs ls  hw hM hS hl => s_X12_walkLine_104 E hr hlk ho  hw hM hS hl)  hw hM hS (lv_sub hl [2, 1, 0] rfl)
theorem dX12_changeLine_0 : decode cX12_changeLine 0 = .ok (.aload_n 0, 1) := by decide +kernel
theorem dX12_changeLine_1 : decode cX12_changeLine 1 = .ok (.getfield 17, 3) := by decide +kernel
theorem dX12_changeLine_4 : decode cX12_changeLine 4 = .ok (.iconst 4, 1) := by decide +kernel
theorem dX12_changeLine_5 : decode cX12_changeLine 5 = .ok (.iaload, 1) := by decide +kernel
theorem dX12_changeLine_6 : decode cX12_changeLine 6 = .ok (.bipush 8, 2) := by decide +kernel
theorem dX12_changeLine_8 : decode cX12_changeLine 8 = .ok (.if_icmp .ge 7, 3) := by decide +kernel
theorem dX12_changeLine_11 : decode cX12_changeLine 11 = .ok (.iconst 1, 1) := by decide +kernel
theorem dX12_changeLine_12 : decode cX12_changeLine 12 = .ok (.goto 4, 3) := by decide +kernel
theorem dX12_changeLine_15 : decode cX12_changeLine 15 = .ok (.iconst 0, 1) := by decide +kernel
theorem dX12_changeLine_16 : decode cX12_changeLine 16 = .ok (.istore_n 2, 1) := by decide +kernel
theorem dX12_changeLine_17 : decode cX12_changeLine 17 = .ok (.iload_n 2, 1) := by decide +kernel
theorem dX12_changeLine_18 : decode cX12_changeLine 18 = .ok (.ifCond .ne 9, 3) := by decide +kernel
theorem dX12_changeLine_21 : decode cX12_changeLine 21 = .ok (.aload_n 0, 1) := by decide +kernel
theorem dX12_changeLine_22 : decode cX12_changeLine 22 = .ok (.iconst 3, 1) := by decide +kernel
theorem dX12_changeLine_23 : decode cX12_changeLine 23 = .ok (.iload_n 1, 1) := by decide +kernel
theorem dX12_changeLine_24 : decode cX12_changeLine 24 = .ok (.invokevirtual 137, 3) := by decide +kernel
theorem dX12_changeLine_27 : decode cX12_changeLine 27 = .ok (.aload_n 0, 1) := by decide +kernel
theorem dX12_changeLine_28 : decode cX12_changeLine 28 = .ok (.invokevirtual 158, 3) := by decide +kernel
theorem dX12_changeLine_31 : decode cX12_changeLine 31 = .ok (.istore_n 3, 1) := by decide +kernel
theorem dX12_changeLine_32 : decode cX12_changeLine 32 = .ok (.aload_n 0, 1) := by decide +kernel
theorem dX12_changeLine_33 : decode cX12_changeLine 33 = .ok (.iconst 0, 1) := by decide +kernel
theorem dX12_changeLine_34 : decode cX12_changeLine 34 = .ok (.bipush 99, 2) := by decide +kernel
theorem dX12_changeLine_36 : decode cX12_changeLine 36 = .ok (.invokevirtual 144, 3) := by decide +kernel
theorem dX12_changeLine_39 : decode cX12_changeLine 39 = .ok (.istore 4, 2) := by decide +kernel
theorem dX12_changeLine_41 : decode cX12_changeLine 41 = .ok (.aload_n 0, 1) := by decide +kernel
theorem dX12_changeLine_42 : decode cX12_changeLine 42 = .ok (.iconst 0, 1) := by decide +kernel
theorem dX12_changeLine_43 : decode cX12_changeLine 43 = .ok (.bipush 9, 2) := by decide +kernel
theorem dX12_changeLine_45 : decode cX12_changeLine 45 = .ok (.invokevirtual 144, 3) := by decide +kernel
theorem dX12_changeLine_48 : decode cX12_changeLine 48 = .ok (.istore 5, 2) := by decide +kernel
theorem dX12_changeLine_50 : decode cX12_changeLine 50 = .ok (.iload_n 2, 1) := by decide +kernel
theorem dX12_changeLine_51 : decode cX12_changeLine 51 = .ok (.ifCond .ne 4, 3) := by decide +kernel
theorem dX12_changeLine_54 : decode cX12_changeLine 54 = .ok (.return_, 1) := by decide +kernel
theorem dX12_changeLine_55 : decode cX12_changeLine 55 = .ok (.bipush 125, 2) := by decide +kernel
theorem dX12_changeLine_57 : decode cX12_changeLine 57 = .ok (.iconst 3, 1) := by decide +kernel
theorem dX12_changeLine_58 : decode cX12_changeLine 58 = .ok (.aload_n 0, 1) := by decide +kernel
theorem dX12_changeLine_59 : decode cX12_changeLine 59 = .ok (.getfield 17, 3) := by decide +kernel
theorem dX12_changeLine_62 : decode cX12_changeLine 62 = .ok (.iconst 4, 1) := by decide +kernel
theorem dX12_changeLine_63 : decode cX12_changeLine 63 = .ok (.iaload, 1) := by decide +kernel
theorem dX12_changeLine_64 : decode cX12_changeLine 64 = .ok (.imul, 1) := by decide +kernel
theorem dX12_changeLine_65 : decode cX12_changeLine 65 = .ok (.iadd, 1) := by decide +kernel
theorem dX12_changeLine_66 : decode cX12_changeLine 66 = .ok (.istore 6, 2) := by decide +kernel
theorem dX12_changeLine_68 : decode cX12_changeLine 68 = .ok (.aload_n 0, 1) := by decide +kernel
theorem dX12_changeLine_69 : decode cX12_changeLine 69 = .ok (.getfield 17, 3) := by decide +kernel
theorem dX12_changeLine_72 : decode cX12_changeLine 72 = .ok (.iload 6, 2) := by decide +kernel
theorem dX12_changeLine_74 : decode cX12_changeLine 74 = .ok (.iload_n 3, 1) := by decide +kernel
theorem dX12_changeLine_75 : decode cX12_changeLine 75 = .ok (.iastore, 1) := by decide +kernel
theorem dX12_changeLine_76 : decode cX12_changeLine 76 = .ok (.aload_n 0, 1) := by decide +kernel
theorem dX12_changeLine_77 : decode cX12_changeLine 77 = .ok (.getfield 17, 3) := by decide +kernel
theorem dX12_changeLine_80 : decode cX12_changeLine 80 = .ok (.iload 6, 2) := by decide +kernel
theorem dX12_changeLine_82 : decode cX12_changeLine 82 = .ok (.iconst 1, 1) := by decide +kernel
theorem dX12_changeLine_83 : decode cX12_changeLine 83 = .ok (.iadd, 1) := by decide +kernel
theorem dX12_changeLine_84 : decode cX12_changeLine 84 = .ok (.iload 4, 2) := by decide +kernel
theorem dX12_changeLine_86 : decode cX12_changeLine 86 = .ok (.iastore, 1) := by decide +kernel
theorem dX12_changeLine_87 : decode cX12_changeLine 87 = .ok (.aload_n 0, 1) := by decide +kernel
theorem dX12_changeLine_88 : decode cX12_changeLine 88 = .ok (.getfield 17, 3) := by decide +kernel
theorem dX12_changeLine_91 : decode cX12_changeLine 91 = .ok (.iload 6, 2) := by decide +kernel
theorem dX12_changeLine_93 : decode cX12_changeLine 93 = .ok (.iconst 2, 1) := by decide +kernel
theorem dX12_changeLine_94 : decode cX12_changeLine 94 = .ok (.iadd, 1) := by decide +kernel
theorem dX12_changeLine_95 : decode cX12_changeLine 95 = .ok (.iload 5, 2) := by decide +kernel
theorem dX12_changeLine_97 : decode cX12_changeLine 97 = .ok (.iastore, 1) := by decide +kernel
theorem dX12_changeLine_98 : decode cX12_changeLine 98 = .ok (.aload_n 0, 1) := by decide +kernel
theorem dX12_changeLine_99 : decode cX12_changeLine 99 = .ok (.getfield 17, 3) := by decide +kernel
theorem dX12_changeLine_102 : decode cX12_changeLine 102 = .ok (.iconst 4, 1) := by decide +kernel
theorem dX12_changeLine_103 : decode cX12_changeLine 103 = .ok (.dup2, 1) := by decide +kernel
theorem dX12_changeLine_104 : decode cX12_changeLine 104 = .ok (.iaload, 1) := by decide +kernel
theorem dX12_changeLine_105 : decode cX12_changeLine 105 = .ok (.iconst 1, 1) := by decide +kernel
theorem dX12_changeLine_106 : decode cX12_changeLine 106 = .ok (.iadd, 1) := by decide +kernel
theorem dX12_changeLine_107 : decode cX12_changeLine 107 = .ok (.iastore, 1) := by decide +kernel
theorem dX12_changeLine_108 : decode cX12_changeLine 108 = .ok (.return_, 1) := by decide +kernel
def w_X12_changeLine_27 (o : Nat) (a1 : Int32) (post : mI → Prop) (I : mI) (v2 : Int32) : Prop := w_X12_who I o (fun r2 I3 => w_X12_numbered I3 o 0 99 (fun r4 I5 => w_X12_numbered I5 o 0 9 (fun r6 I7 => (¬ v2 = 0 → ∀ x8, x8 = (125 + (3 * (I7 (o + 3) (4 : Int32).toNatClampNeg))) → vp_in x8 149 ∧ ∀ I9, I9 = up2 I7 (o + 3) x8.toNatClampNeg r2 → vp_in (x8 + 1) 149 ∧ ∀ I10, I10 = up2 I9 (o + 3) ((x8 + 1).toNatClampNeg) r4 → vp_in (x8 + 2) 149 ∧ ∀ I11, I11 = up2 I10 (o + 3) ((x8 + 2).toNatClampNeg) r6 → ∀ I12, I12 = up2 I11 (o + 3) ((4 : Int32).toNatClampNeg) ((I11 (o + 3) (4 : Int32).toNatClampNeg) + 1) → post I12) ∧ (v2 = 0 → post I7))))
set_option maxRecDepth 100000 in
set_option maxHeartbeats 4000000 in
theorem s_X12_changeLine_27 {p : Program} {l : Launch} {e : Env} {s : State} {m : MethodId} {args : Array Value} {below : List Frame} {meth : Method} {c : Code} {D : va_G} {cA : Nat → ClassId} {Z : mZ} {bs : Ad} {n : Nat} {K : mK} {R : mR} {L : mL} (E : Ev p s m args c cX12_changeLine 7 RX12 D cA Z bs) (hr : meth.sig.returnType = none) (hlk : meth.locks = false) {o : Nat} {a1 : Int32} (ho : isX12 K R o) {post : mI → Prop} {I : mI} {v2 : Int32} {H : Heap} {locs : List Loc} {ls : Array Slot} (hw : w_X12_changeLine_27 o a1 post I v2) (hM : mm D cA bs (n, K, R, I, L) H) (hS : va_S (Ab bs) s.heap H locs) (hl : lv_has ls 7 [(0, .ref (ad bs o)), (2, .int v2)]) : W p l e ({ frames := 6, cells := 0, slots := 0, locals := 138 } : Room) s m args below meth c H locs 0 0 (MQ below (QV D cA bs (fun u => ∃ I', u = (n, K, R, I', L) ∧ post I')) args s 0 0 (Ab bs)) (F0 m 27 ls []) := by
  have hx := E.1.1
  have hb := E.1.2.1
  refine lv_aload_n hx hb dX12_changeLine_27 rfl (lv_at hl 0 rfl) ?_
  refine m_ci (m_runV E hM hS cs_X12_158 ho.1 (by decide) rfl rfl (c_X12_who ho hw) rfl rfl ⟨Nat.le_of_ble_eq_true rfl, Nat.le_of_ble_eq_true rfl⟩ rfl hl.1 rfl (Nat.le_of_ble_eq_true rfl) dX12_changeLine_28 ⟨Nat.le_of_ble_eq_true rfl, Nat.le_of_ble_eq_true rfl⟩) hS (fun r2 u H locs hp hM hS => ?_)
  obtain ⟨I3, rfl, hw⟩ := hp
  refine lv_istore_n (lv' := [(3, .int r2), (0, .ref (ad bs o)), (2, .int v2)]) hx hb dX12_changeLine_31 rfl hl (by decide) rfl (fun ls hl => ?_)
  refine lv_aload_n hx hb dX12_changeLine_32 rfl (lv_at hl 1 rfl) ?_
  refine lv_iconst (v := 0) hx hb dX12_changeLine_33 (by decide) ?_
  refine lv_bipush (v := 99) hx hb dX12_changeLine_34 (by decide) ?_
  refine m_ci (m_runV E hM hS cs_X12_144 ho.1 (by decide) rfl rfl (c_X12_numbered ho hw) rfl rfl ⟨Nat.le_of_ble_eq_true rfl, Nat.le_of_ble_eq_true rfl⟩ rfl hl.1 rfl (Nat.le_of_ble_eq_true rfl) dX12_changeLine_36 ⟨Nat.le_of_ble_eq_true rfl, Nat.le_of_ble_eq_true rfl⟩) hS (fun r4 u H locs hp hM hS => ?_)
  obtain ⟨I5, rfl, hw⟩ := hp
  refine lv_istore (lv' := [(4, .int r4), (3, .int r2), (0, .ref (ad bs o)), (2, .int v2)]) hx hb dX12_changeLine_39 hl (by decide) rfl (fun ls hl => ?_)
  refine lv_aload_n hx hb dX12_changeLine_41 rfl (lv_at hl 2 rfl) ?_
  refine lv_iconst (v := 0) hx hb dX12_changeLine_42 (by decide) ?_
  refine lv_bipush (v := 9) hx hb dX12_changeLine_43 (by decide) ?_
  refine m_ci (m_runV E hM hS cs_X12_144 ho.1 (by decide) rfl rfl (c_X12_numbered ho hw) rfl rfl ⟨Nat.le_of_ble_eq_true rfl, Nat.le_of_ble_eq_true rfl⟩ rfl hl.1 rfl (Nat.le_of_ble_eq_true rfl) dX12_changeLine_45 ⟨Nat.le_of_ble_eq_true rfl, Nat.le_of_ble_eq_true rfl⟩) hS (fun r6 u H locs hp hM hS => ?_)
  obtain ⟨I7, rfl, hw⟩ := hp
  refine lv_istore (lv' := [(5, .int r6), (4, .int r4), (3, .int r2), (0, .ref (ad bs o)), (2, .int v2)]) hx hb dX12_changeLine_48 hl (by decide) rfl (fun ls hl => ?_)
  refine lv_iload_n hx hb dX12_changeLine_50 rfl (lv_at hl 4 rfl) ?_
  refine lv_if_ne (tgt := 55) hx hb dX12_changeLine_51 (by decide) (fun cq => ?_) (fun cq => ?_)
  · have hw := hw.1 cq
    refine lv_bipush (v := 125) hx hb dX12_changeLine_55 (by decide) ?_
    refine lv_iconst (v := 3) hx hb dX12_changeLine_57 (by decide) ?_
    refine lv_aload_n hx hb dX12_changeLine_58 rfl (lv_at hl 3 rfl) ?_
    refine m_getr E hM fs_X12_17 ho.1 (isO_at ho 2 rfl).1 dX12_changeLine_59 ?_
    refine lv_iconst (v := 4) hx hb dX12_changeLine_62 (by decide) ?_
    refine m_iald E hM (isO_at ho 2 rfl).2 (by unfold vp_in; decide) dX12_changeLine_63 ?_
    refine lv_imul hx hb dX12_changeLine_64 ?_
    refine lv_iadd hx hb dX12_changeLine_65 ?_
    refine lv_topi (fun x8 ex8 => ?_)
    have hw := hw x8 ex8
    refine lv_istore (lv' := [(6, .int x8), (5, .int r6), (4, .int r4), (3, .int r2), (0, .ref (ad bs o)), (2, .int v2)]) hx hb dX12_changeLine_66 hl (by decide) rfl (fun ls hl => ?_)
    refine lv_aload_n hx hb dX12_changeLine_68 rfl (lv_at hl 4 rfl) ?_
    refine m_getr E hM fs_X12_17 ho.1 (isO_at ho 2 rfl).1 dX12_changeLine_69 ?_
    refine lv_iload hx hb dX12_changeLine_72 (lv_at hl 0 rfl) ?_
    refine lv_iload_n hx hb dX12_changeLine_74 rfl (lv_at hl 3 rfl) ?_
    obtain ⟨hv, hw⟩ := hw
    refine m_iast E hM hS (isO_at ho 2 rfl).2 hv dX12_changeLine_75 (fun I9 H locs eI9 hM hS => ?_)
    have hw := hw I9 eI9
    refine lv_aload_n hx hb dX12_changeLine_76 rfl (lv_at hl 4 rfl) ?_
    refine m_getr E hM fs_X12_17 ho.1 (isO_at ho 2 rfl).1 dX12_changeLine_77 ?_
    refine lv_iload hx hb dX12_changeLine_80 (lv_at hl 0 rfl) ?_
    refine lv_iconst (v := 1) hx hb dX12_changeLine_82 (by decide) ?_
    refine lv_iadd hx hb dX12_changeLine_83 ?_
    refine lv_iload hx hb dX12_changeLine_84 (lv_at hl 2 rfl) ?_
    obtain ⟨hv, hw⟩ := hw
    refine m_iast E hM hS (isO_at ho 2 rfl).2 hv dX12_changeLine_86 (fun I10 H locs eI10 hM hS => ?_)
    have hw := hw I10 eI10
    refine lv_aload_n hx hb dX12_changeLine_87 rfl (lv_at hl 4 rfl) ?_
    refine m_getr E hM fs_X12_17 ho.1 (isO_at ho 2 rfl).1 dX12_changeLine_88 ?_
    refine lv_iload hx hb dX12_changeLine_91 (lv_at hl 0 rfl) ?_
    refine lv_iconst (v := 2) hx hb dX12_changeLine_93 (by decide) ?_
    refine lv_iadd hx hb dX12_changeLine_94 ?_
    refine lv_iload hx hb dX12_changeLine_95 (lv_at hl 1 rfl) ?_
    obtain ⟨hv, hw⟩ := hw
    refine m_iast E hM hS (isO_at ho 2 rfl).2 hv dX12_changeLine_97 (fun I11 H locs eI11 hM hS => ?_)
    have hw := hw I11 eI11
    refine lv_aload_n hx hb dX12_changeLine_98 rfl (lv_at hl 4 rfl) ?_
    refine m_getr E hM fs_X12_17 ho.1 (isO_at ho 2 rfl).1 dX12_changeLine_99 ?_
    refine lv_iconst (v := 4) hx hb dX12_changeLine_102 (by decide) ?_
    refine lv_dup2_11 hx hb dX12_changeLine_103 rfl rfl ?_
    refine m_iald E hM (isO_at ho 2 rfl).2 (by unfold vp_in; decide) dX12_changeLine_104 ?_
    refine lv_iconst (v := 1) hx hb dX12_changeLine_105 (by decide) ?_
    refine lv_iadd hx hb dX12_changeLine_106 ?_
    refine m_iast E hM hS (isO_at ho 2 rfl).2 (by unfold vp_in; decide) dX12_changeLine_107 (fun I12 H locs eI12 hM hS => ?_)
    have hw := hw I12 eI12
    exact m_retv hx hb hr hlk hM hS ⟨_, rfl, hw⟩ dX12_changeLine_108
  · have hw := hw.2 cq
    exact m_retv hx hb hr hlk hM hS ⟨_, rfl, hw⟩ dX12_changeLine_54
def w_X12_changeLine_16 (o : Nat) (a1 : Int32) (post : mI → Prop) (I : mI) (s0 : Int32) : Prop := (¬ s0 = 0 → (w_X12_changeLine_27 o a1 post) I s0) ∧ (s0 = 0 → w_X12_also I o 3 a1 (fun I1 => (w_X12_changeLine_27 o a1 post) I1 s0))
set_option maxRecDepth 100000 in
set_option maxHeartbeats 4000000 in
theorem s_X12_changeLine_16 {p : Program} {l : Launch} {e : Env} {s : State} {m : MethodId} {args : Array Value} {below : List Frame} {meth : Method} {c : Code} {D : va_G} {cA : Nat → ClassId} {Z : mZ} {bs : Ad} {n : Nat} {K : mK} {R : mR} {L : mL} (E : Ev p s m args c cX12_changeLine 7 RX12 D cA Z bs) (hr : meth.sig.returnType = none) (hlk : meth.locks = false) {o : Nat} {a1 : Int32} (ho : isX12 K R o) {post : mI → Prop} {I : mI} {s0 : Int32} {H : Heap} {locs : List Loc} {ls : Array Slot} (hw : w_X12_changeLine_16 o a1 post I s0) (hM : mm D cA bs (n, K, R, I, L) H) (hS : va_S (Ab bs) s.heap H locs) (hl : lv_has ls 7 [(0, .ref (ad bs o)), (1, .int a1)]) : W p l e ({ frames := 6, cells := 0, slots := 0, locals := 138 } : Room) s m args below meth c H locs 0 0 (MQ below (QV D cA bs (fun u => ∃ I', u = (n, K, R, I', L) ∧ post I')) args s 0 0 (Ab bs)) (F0 m 16 ls [.int s0]) := by
  have hx := E.1.1
  have hb := E.1.2.1
  refine lv_istore_n (lv' := [(2, .int s0), (0, .ref (ad bs o)), (1, .int a1)]) hx hb dX12_changeLine_16 rfl hl (by decide) rfl (fun ls hl => ?_)
  refine lv_iload_n hx hb dX12_changeLine_17 rfl (lv_at hl 0 rfl) ?_
  refine lv_if_ne (tgt := 27) hx hb dX12_changeLine_18 (by decide) (fun cq => ?_) (fun cq => ?_)
  · have hw := hw.1 cq
    exact s_X12_changeLine_27 E hr hlk ho  hw hM hS (lv_sub hl [1, 0] rfl)
  · have hw := hw.2 cq
    refine lv_aload_n hx hb dX12_changeLine_21 rfl (lv_at hl 1 rfl) ?_
    refine lv_iconst (v := 3) hx hb dX12_changeLine_22 (by decide) ?_
    refine lv_iload_n hx hb dX12_changeLine_23 rfl (lv_at hl 2 rfl) ?_
    refine m_cv (m_runV E hM hS cs_X12_137 ho.1 (by decide) rfl rfl (c_X12_also ho hw) rfl rfl ⟨Nat.le_of_ble_eq_true rfl, Nat.le_of_ble_eq_true rfl⟩ rfl hl.1 rfl (Nat.le_of_ble_eq_true rfl) dX12_changeLine_24 ⟨Nat.le_of_ble_eq_true rfl, Nat.le_of_ble_eq_true rfl⟩) hS (fun u H locs hp hM hS => ?_)
    obtain ⟨I1, rfl, hw⟩ := hp
    exact s_X12_changeLine_27 E hr hlk ho  hw hM hS (lv_sub hl [1, 0] rfl)
def w_X12_changeLine (I : mI) (o : Nat) (a1 : Int32) (post : mI → Prop) : Prop := (8 ≤ (I (o + 3) (4 : Int32).toNatClampNeg) → (w_X12_changeLine_16 o a1 post) I 0) ∧ (¬ 8 ≤ (I (o + 3) (4 : Int32).toNatClampNeg) → (w_X12_changeLine_16 o a1 post) I 1)
set_option maxRecDepth 100000 in
set_option maxHeartbeats 4000000 in
theorem c_X12_changeLine {l : Launch} {D : va_G} {cA : Nat → ClassId} {Z : mZ} {bs : Ad} {n : Nat} {K : mK} {R : mR} {I : mI} {L : mL} {o : Nat} {a1 : Int32} {post : mI → Prop} (ho : isX12 K R o) (hw : w_X12_changeLine I o a1 post) : Met l yX12_changeLine (.code yX12_changeLine cX12_changeLine 7 none :: gw) ({ frames := 6, cells := 0, slots := 0, locals := 138 } : Room) (PreM D cA Z bs (n, K, R, I, L) [.ref (ad bs o), .int a1]) (QV D cA bs (fun u => ∃ I', u = (n, K, R, I', L) ∧ post I')) 0 0 (Ab bs) := by
  refine m_met (by decide) (Nat.le_of_ble_eq_true rfl) (fun p e s m below meth c ls E hr hlk hM hS hl => ?_)
  have E : Ev p s m _ c cX12_changeLine 7 RX12 D cA Z bs := E
  have hl : lv_has ls 7 [(0, .ref (ad bs o)), (1, .int a1)] := hl
  have hx := E.1.1
  have hb := E.1.2.1
  generalize hHe : s.heap = H at hM ⊢
  have hS : va_S (Ab bs) s.heap H [] := by rw [← hHe]; exact va_S.rf
  clear hHe
  refine lv_aload_n hx hb dX12_changeLine_0 rfl (lv_at hl 0 rfl) ?_
  refine m_getr E hM fs_X12_17 ho.1 (isO_at ho 2 rfl).1 dX12_changeLine_1 ?_
  refine lv_iconst (v := 4) hx hb dX12_changeLine_4 (by decide) ?_
  refine m_iald E hM (isO_at ho 2 rfl).2 (by unfold vp_in; decide) dX12_changeLine_5 ?_
  refine lv_bipush (v := 8) hx hb dX12_changeLine_6 (by decide) ?_
  refine lv_icmp_ge (tgt := 15) hx hb dX12_changeLine_8 (by decide) (fun cq => ?_) (fun cq => ?_)
  · have hw := hw.1 cq
    refine lv_iconst (v := 0) hx hb dX12_changeLine_15 (by decide) ?_
    exact s_X12_changeLine_16 E hr hlk ho  hw hM hS (lv_sub hl [0, 1] rfl)
  · have hw := hw.2 cq
    refine lv_iconst (v := 1) hx hb dX12_changeLine_11 (by decide) ?_
    refine lv_goto (tgt := 16) hx hb dX12_changeLine_12 (by decide) ?_
    exact s_X12_changeLine_16 E hr hlk ho  hw hM hS (lv_sub hl [0, 1] rfl)
