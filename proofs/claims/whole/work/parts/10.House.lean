theorem dX3_hasStep_0 : decode cX3_hasStep 0 = .ok (.iload_n 1, 1) := by decide +kernel
theorem dX3_hasStep_1 : decode cX3_hasStep 1 = .ok (.ifCond .lt 15, 3) := by decide +kernel
theorem dX3_hasStep_4 : decode cX3_hasStep 4 = .ok (.iload_n 1, 1) := by decide +kernel
theorem dX3_hasStep_5 : decode cX3_hasStep 5 = .ok (.aload_n 0, 1) := by decide +kernel
theorem dX3_hasStep_6 : decode cX3_hasStep 6 = .ok (.getfield 51, 3) := by decide +kernel
theorem dX3_hasStep_9 : decode cX3_hasStep 9 = .ok (.if_icmp .ge 7, 3) := by decide +kernel
theorem dX3_hasStep_12 : decode cX3_hasStep 12 = .ok (.iconst 1, 1) := by decide +kernel
theorem dX3_hasStep_13 : decode cX3_hasStep 13 = .ok (.goto 4, 3) := by decide +kernel
theorem dX3_hasStep_16 : decode cX3_hasStep 16 = .ok (.iconst 0, 1) := by decide +kernel
theorem dX3_hasStep_17 : decode cX3_hasStep 17 = .ok (.ireturn, 1) := by decide +kernel
def w_X3_hasStep (I : mI) (o : Nat) (a1 : Int32) (post : Bool → Prop) : Prop := (a1 < 0 → post false) ∧ (¬ a1 < 0 → ((I o 0) ≤ a1 → post false) ∧ (¬ (I o 0) ≤ a1 → post true))
set_option maxRecDepth 100000 in
set_option maxHeartbeats 4000000 in
theorem c_X3_hasStep {l : Launch} {D : va_G} {cA : Nat → ClassId} {Z : mZ} {bs n : Nat} {K : mK} {R : mR} {I : mI} {L : mL} {o : Nat} {a1 : Int32} {post : Bool → Prop} (ho : isX3 K R o) (hw : w_X3_hasStep I o a1 post) : Met l yX3_hasStep (.code yX3_hasStep cX3_hasStep 2 (some .boolean) :: gw) ({ frames := 0, cells := 0, slots := 0, locals := 0 } : Room) (PreM D cA Z bs (n, K, R, I, L) [.ref (bs + o), .int a1]) (QI D cA bs (fun r u => ∃ b, r = bI b ∧ u = (n, K, R, I, L) ∧ post b)) 0 0 (Ab bs) := by
  refine m_met (by decide) (Nat.le_of_ble_eq_true rfl) (fun p e s m below meth c ls E hr hlk hM hS hl => ?_)
  have E : Ev p s m _ c cX3_hasStep 2 RX3 D cA Z bs := E
  have hl : lv_has ls 2 [(0, .ref (bs + o)), (1, .int a1)] := hl
  have hx := E.1.1
  have hb := E.1.2.1
  generalize hHe : s.heap = H at hM ⊢
  have hS : va_S (Ab bs) s.heap H [] := by rw [← hHe]; exact va_S.rf
  clear hHe
  refine lv_iload_n hx hb dX3_hasStep_0 rfl (lv_at hl 1 rfl) ?_
  refine lv_if_lt (tgt := 16) hx hb dX3_hasStep_1 (by decide) (fun cq => ?_) (fun cq => ?_)
  · have hw := hw.1 cq
    refine lv_iconst (v := 0) hx hb dX3_hasStep_16 (by decide) ?_
    exact m_retz hx hb hr hlk (Or.inl rfl) hM hS ⟨false, rfl, rfl, hw⟩ dX3_hasStep_17
  · have hw := hw.2 cq
    refine lv_iload_n hx hb dX3_hasStep_4 rfl (lv_at hl 1 rfl) ?_
    refine lv_aload_n hx hb dX3_hasStep_5 rfl (lv_at hl 0 rfl) ?_
    refine m_geti E hM fs_X3_51 ho.1 dX3_hasStep_6 ?_
    refine lv_icmp_ge (tgt := 16) hx hb dX3_hasStep_9 (by decide) (fun cq => ?_) (fun cq => ?_)
    · have hw := hw.1 cq
      refine lv_iconst (v := 0) hx hb dX3_hasStep_16 (by decide) ?_
      exact m_retz hx hb hr hlk (Or.inl rfl) hM hS ⟨false, rfl, rfl, hw⟩ dX3_hasStep_17
    · have hw := hw.2 cq
      refine lv_iconst (v := 1) hx hb dX3_hasStep_12 (by decide) ?_
      refine lv_goto (tgt := 17) hx hb dX3_hasStep_13 (by decide) ?_
      exact m_retz hx hb hr hlk (Or.inr rfl) hM hS ⟨true, rfl, rfl, hw⟩ dX3_hasStep_17
theorem dX3_hasFlat_0 : decode cX3_hasFlat 0 = .ok (.iload_n 1, 1) := by decide +kernel
theorem dX3_hasFlat_1 : decode cX3_hasFlat 1 = .ok (.ifCond .lt 15, 3) := by decide +kernel
theorem dX3_hasFlat_4 : decode cX3_hasFlat 4 = .ok (.iload_n 1, 1) := by decide +kernel
theorem dX3_hasFlat_5 : decode cX3_hasFlat 5 = .ok (.aload_n 0, 1) := by decide +kernel
theorem dX3_hasFlat_6 : decode cX3_hasFlat 6 = .ok (.getfield 58, 3) := by decide +kernel
theorem dX3_hasFlat_9 : decode cX3_hasFlat 9 = .ok (.if_icmp .ge 7, 3) := by decide +kernel
theorem dX3_hasFlat_12 : decode cX3_hasFlat 12 = .ok (.iconst 1, 1) := by decide +kernel
theorem dX3_hasFlat_13 : decode cX3_hasFlat 13 = .ok (.goto 4, 3) := by decide +kernel
theorem dX3_hasFlat_16 : decode cX3_hasFlat 16 = .ok (.iconst 0, 1) := by decide +kernel
theorem dX3_hasFlat_17 : decode cX3_hasFlat 17 = .ok (.ireturn, 1) := by decide +kernel
def w_X3_hasFlat (I : mI) (o : Nat) (a1 : Int32) (post : Bool → Prop) : Prop := (a1 < 0 → post false) ∧ (¬ a1 < 0 → ((I o 2) ≤ a1 → post false) ∧ (¬ (I o 2) ≤ a1 → post true))
set_option maxRecDepth 100000 in
set_option maxHeartbeats 4000000 in
theorem c_X3_hasFlat {l : Launch} {D : va_G} {cA : Nat → ClassId} {Z : mZ} {bs n : Nat} {K : mK} {R : mR} {I : mI} {L : mL} {o : Nat} {a1 : Int32} {post : Bool → Prop} (ho : isX3 K R o) (hw : w_X3_hasFlat I o a1 post) : Met l yX3_hasFlat (.code yX3_hasFlat cX3_hasFlat 2 (some .boolean) :: gw) ({ frames := 0, cells := 0, slots := 0, locals := 0 } : Room) (PreM D cA Z bs (n, K, R, I, L) [.ref (bs + o), .int a1]) (QI D cA bs (fun r u => ∃ b, r = bI b ∧ u = (n, K, R, I, L) ∧ post b)) 0 0 (Ab bs) := by
  refine m_met (by decide) (Nat.le_of_ble_eq_true rfl) (fun p e s m below meth c ls E hr hlk hM hS hl => ?_)
  have E : Ev p s m _ c cX3_hasFlat 2 RX3 D cA Z bs := E
  have hl : lv_has ls 2 [(0, .ref (bs + o)), (1, .int a1)] := hl
  have hx := E.1.1
  have hb := E.1.2.1
  generalize hHe : s.heap = H at hM ⊢
  have hS : va_S (Ab bs) s.heap H [] := by rw [← hHe]; exact va_S.rf
  clear hHe
  refine lv_iload_n hx hb dX3_hasFlat_0 rfl (lv_at hl 1 rfl) ?_
  refine lv_if_lt (tgt := 16) hx hb dX3_hasFlat_1 (by decide) (fun cq => ?_) (fun cq => ?_)
  · have hw := hw.1 cq
    refine lv_iconst (v := 0) hx hb dX3_hasFlat_16 (by decide) ?_
    exact m_retz hx hb hr hlk (Or.inl rfl) hM hS ⟨false, rfl, rfl, hw⟩ dX3_hasFlat_17
  · have hw := hw.2 cq
    refine lv_iload_n hx hb dX3_hasFlat_4 rfl (lv_at hl 1 rfl) ?_
    refine lv_aload_n hx hb dX3_hasFlat_5 rfl (lv_at hl 0 rfl) ?_
    refine m_geti E hM fs_X3_58 ho.1 dX3_hasFlat_6 ?_
    refine lv_icmp_ge (tgt := 16) hx hb dX3_hasFlat_9 (by decide) (fun cq => ?_) (fun cq => ?_)
    · have hw := hw.1 cq
      refine lv_iconst (v := 0) hx hb dX3_hasFlat_16 (by decide) ?_
      exact m_retz hx hb hr hlk (Or.inl rfl) hM hS ⟨false, rfl, rfl, hw⟩ dX3_hasFlat_17
    · have hw := hw.2 cq
      refine lv_iconst (v := 1) hx hb dX3_hasFlat_12 (by decide) ?_
      refine lv_goto (tgt := 17) hx hb dX3_hasFlat_13 (by decide) ?_
      exact m_retz hx hb hr hlk (Or.inr rfl) hM hS ⟨true, rfl, rfl, hw⟩ dX3_hasFlat_17
theorem dX3_hasPerson_0 : decode cX3_hasPerson 0 = .ok (.iload_n 1, 1) := by decide +kernel
theorem dX3_hasPerson_1 : decode cX3_hasPerson 1 = .ok (.ifCond .lt 15, 3) := by decide +kernel
theorem dX3_hasPerson_4 : decode cX3_hasPerson 4 = .ok (.iload_n 1, 1) := by decide +kernel
theorem dX3_hasPerson_5 : decode cX3_hasPerson 5 = .ok (.aload_n 0, 1) := by decide +kernel
theorem dX3_hasPerson_6 : decode cX3_hasPerson 6 = .ok (.getfield 61, 3) := by decide +kernel
theorem dX3_hasPerson_9 : decode cX3_hasPerson 9 = .ok (.if_icmp .ge 7, 3) := by decide +kernel
theorem dX3_hasPerson_12 : decode cX3_hasPerson 12 = .ok (.iconst 1, 1) := by decide +kernel
theorem dX3_hasPerson_13 : decode cX3_hasPerson 13 = .ok (.goto 4, 3) := by decide +kernel
theorem dX3_hasPerson_16 : decode cX3_hasPerson 16 = .ok (.iconst 0, 1) := by decide +kernel
theorem dX3_hasPerson_17 : decode cX3_hasPerson 17 = .ok (.ireturn, 1) := by decide +kernel
def w_X3_hasPerson (I : mI) (o : Nat) (a1 : Int32) (post : Bool → Prop) : Prop := (a1 < 0 → post false) ∧ (¬ a1 < 0 → ((I o 3) ≤ a1 → post false) ∧ (¬ (I o 3) ≤ a1 → post true))
set_option maxRecDepth 100000 in
set_option maxHeartbeats 4000000 in
theorem c_X3_hasPerson {l : Launch} {D : va_G} {cA : Nat → ClassId} {Z : mZ} {bs n : Nat} {K : mK} {R : mR} {I : mI} {L : mL} {o : Nat} {a1 : Int32} {post : Bool → Prop} (ho : isX3 K R o) (hw : w_X3_hasPerson I o a1 post) : Met l yX3_hasPerson (.code yX3_hasPerson cX3_hasPerson 2 (some .boolean) :: gw) ({ frames := 0, cells := 0, slots := 0, locals := 0 } : Room) (PreM D cA Z bs (n, K, R, I, L) [.ref (bs + o), .int a1]) (QI D cA bs (fun r u => ∃ b, r = bI b ∧ u = (n, K, R, I, L) ∧ post b)) 0 0 (Ab bs) := by
  refine m_met (by decide) (Nat.le_of_ble_eq_true rfl) (fun p e s m below meth c ls E hr hlk hM hS hl => ?_)
  have E : Ev p s m _ c cX3_hasPerson 2 RX3 D cA Z bs := E
  have hl : lv_has ls 2 [(0, .ref (bs + o)), (1, .int a1)] := hl
  have hx := E.1.1
  have hb := E.1.2.1
  generalize hHe : s.heap = H at hM ⊢
  have hS : va_S (Ab bs) s.heap H [] := by rw [← hHe]; exact va_S.rf
  clear hHe
  refine lv_iload_n hx hb dX3_hasPerson_0 rfl (lv_at hl 1 rfl) ?_
  refine lv_if_lt (tgt := 16) hx hb dX3_hasPerson_1 (by decide) (fun cq => ?_) (fun cq => ?_)
  · have hw := hw.1 cq
    refine lv_iconst (v := 0) hx hb dX3_hasPerson_16 (by decide) ?_
    exact m_retz hx hb hr hlk (Or.inl rfl) hM hS ⟨false, rfl, rfl, hw⟩ dX3_hasPerson_17
  · have hw := hw.2 cq
    refine lv_iload_n hx hb dX3_hasPerson_4 rfl (lv_at hl 1 rfl) ?_
    refine lv_aload_n hx hb dX3_hasPerson_5 rfl (lv_at hl 0 rfl) ?_
    refine m_geti E hM fs_X3_61 ho.1 dX3_hasPerson_6 ?_
    refine lv_icmp_ge (tgt := 16) hx hb dX3_hasPerson_9 (by decide) (fun cq => ?_) (fun cq => ?_)
    · have hw := hw.1 cq
      refine lv_iconst (v := 0) hx hb dX3_hasPerson_16 (by decide) ?_
      exact m_retz hx hb hr hlk (Or.inl rfl) hM hS ⟨false, rfl, rfl, hw⟩ dX3_hasPerson_17
    · have hw := hw.2 cq
      refine lv_iconst (v := 1) hx hb dX3_hasPerson_12 (by decide) ?_
      refine lv_goto (tgt := 17) hx hb dX3_hasPerson_13 (by decide) ?_
      exact m_retz hx hb hr hlk (Or.inr rfl) hM hS ⟨true, rfl, rfl, hw⟩ dX3_hasPerson_17
theorem dX3_walks_0 : decode cX3_walks 0 = .ok (.aload_n 0, 1) := by decide +kernel
theorem dX3_walks_1 : decode cX3_walks 1 = .ok (.getfield 36, 3) := by decide +kernel
theorem dX3_walks_4 : decode cX3_walks 4 = .ok (.iload_n 1, 1) := by decide +kernel
theorem dX3_walks_5 : decode cX3_walks 5 = .ok (.iaload, 1) := by decide +kernel
theorem dX3_walks_6 : decode cX3_walks 6 = .ok (.ifCond .le 7, 3) := by decide +kernel
theorem dX3_walks_9 : decode cX3_walks 9 = .ok (.iconst 1, 1) := by decide +kernel
theorem dX3_walks_10 : decode cX3_walks 10 = .ok (.goto 4, 3) := by decide +kernel
theorem dX3_walks_13 : decode cX3_walks 13 = .ok (.iconst 0, 1) := by decide +kernel
theorem dX3_walks_14 : decode cX3_walks 14 = .ok (.ireturn, 1) := by decide +kernel
def w_X3_walks (I : mI) (o : Nat) (a1 : Int32) (post : Bool → Prop) : Prop := vp_in a1 6 ∧ ((I (o + 9) a1.toNatClampNeg) ≤ 0 → post false) ∧ (¬ (I (o + 9) a1.toNatClampNeg) ≤ 0 → post true)
set_option maxRecDepth 100000 in
set_option maxHeartbeats 4000000 in
theorem c_X3_walks {l : Launch} {D : va_G} {cA : Nat → ClassId} {Z : mZ} {bs n : Nat} {K : mK} {R : mR} {I : mI} {L : mL} {o : Nat} {a1 : Int32} {post : Bool → Prop} (ho : isX3 K R o) (hw : w_X3_walks I o a1 post) : Met l yX3_walks (.code yX3_walks cX3_walks 2 (some .boolean) :: gw) ({ frames := 0, cells := 0, slots := 0, locals := 0 } : Room) (PreM D cA Z bs (n, K, R, I, L) [.ref (bs + o), .int a1]) (QI D cA bs (fun r u => ∃ b, r = bI b ∧ u = (n, K, R, I, L) ∧ post b)) 0 0 (Ab bs) := by
  refine m_met (by decide) (Nat.le_of_ble_eq_true rfl) (fun p e s m below meth c ls E hr hlk hM hS hl => ?_)
  have E : Ev p s m _ c cX3_walks 2 RX3 D cA Z bs := E
  have hl : lv_has ls 2 [(0, .ref (bs + o)), (1, .int a1)] := hl
  have hx := E.1.1
  have hb := E.1.2.1
  generalize hHe : s.heap = H at hM ⊢
  have hS : va_S (Ab bs) s.heap H [] := by rw [← hHe]; exact va_S.rf
  clear hHe
  refine lv_aload_n hx hb dX3_walks_0 rfl (lv_at hl 0 rfl) ?_
  refine m_getr E hM fs_X3_36 ho.1 (isO_at ho 8 rfl).1 dX3_walks_1 ?_
  refine lv_iload_n hx hb dX3_walks_4 rfl (lv_at hl 1 rfl) ?_
  obtain ⟨hv, hw⟩ := hw
  refine m_iald E hM (isO_at ho 8 rfl).2 hv dX3_walks_5 ?_
  refine lv_if_le (tgt := 13) hx hb dX3_walks_6 (by decide) (fun cq => ?_) (fun cq => ?_)
  · have hw := hw.1 cq
    refine lv_iconst (v := 0) hx hb dX3_walks_13 (by decide) ?_
    exact m_retz hx hb hr hlk (Or.inl rfl) hM hS ⟨false, rfl, rfl, hw⟩ dX3_walks_14
  · have hw := hw.2 cq
    refine lv_iconst (v := 1) hx hb dX3_walks_9 (by decide) ?_
    refine lv_goto (tgt := 14) hx hb dX3_walks_10 (by decide) ?_
    exact m_retz hx hb hr hlk (Or.inr rfl) hM hS ⟨true, rfl, rfl, hw⟩ dX3_walks_14
theorem dX3_allFlats_0 : decode cX3_allFlats 0 = .ok (.iconst 1, 1) := by decide +kernel
theorem dX3_allFlats_1 : decode cX3_allFlats 1 = .ok (.aload_n 0, 1) := by decide +kernel
theorem dX3_allFlats_2 : decode cX3_allFlats 2 = .ok (.getfield 58, 3) := by decide +kernel
theorem dX3_allFlats_5 : decode cX3_allFlats 5 = .ok (.ishl, 1) := by decide +kernel
theorem dX3_allFlats_6 : decode cX3_allFlats 6 = .ok (.iconst 1, 1) := by decide +kernel
theorem dX3_allFlats_7 : decode cX3_allFlats 7 = .ok (.isub, 1) := by decide +kernel
theorem dX3_allFlats_8 : decode cX3_allFlats 8 = .ok (.ireturn, 1) := by decide +kernel
def w_X3_allFlats (I : mI) (o : Nat) (post : Int32 → Prop) : Prop := post ((1 <<< ((I o 2) &&& 31)) - 1)
set_option maxRecDepth 100000 in
set_option maxHeartbeats 4000000 in
theorem c_X3_allFlats {l : Launch} {D : va_G} {cA : Nat → ClassId} {Z : mZ} {bs n : Nat} {K : mK} {R : mR} {I : mI} {L : mL} {o : Nat} {post : Int32 → Prop} (ho : isX3 K R o) (hw : w_X3_allFlats I o post) : Met l yX3_allFlats (.code yX3_allFlats cX3_allFlats 1 (some .int) :: gw) ({ frames := 0, cells := 0, slots := 0, locals := 0 } : Room) (PreM D cA Z bs (n, K, R, I, L) [.ref (bs + o)]) (QI D cA bs (fun r u => u = (n, K, R, I, L) ∧ post r)) 0 0 (Ab bs) := by
  refine m_met (by decide) (Nat.le_of_ble_eq_true rfl) (fun p e s m below meth c ls E hr hlk hM hS hl => ?_)
  have E : Ev p s m _ c cX3_allFlats 1 RX3 D cA Z bs := E
  have hl : lv_has ls 1 [(0, .ref (bs + o))] := hl
  have hx := E.1.1
  have hb := E.1.2.1
  generalize hHe : s.heap = H at hM ⊢
  have hS : va_S (Ab bs) s.heap H [] := by rw [← hHe]; exact va_S.rf
  clear hHe
  refine lv_iconst (v := 1) hx hb dX3_allFlats_0 (by decide) ?_
  refine lv_aload_n hx hb dX3_allFlats_1 rfl (lv_at hl 0 rfl) ?_
  refine m_geti E hM fs_X3_58 ho.1 dX3_allFlats_2 ?_
  refine lv_ishl hx hb dX3_allFlats_5 ?_
  refine lv_iconst (v := 1) hx hb dX3_allFlats_6 (by decide) ?_
  refine lv_isub hx hb dX3_allFlats_7 ?_
  exact m_reti hx hb hr hlk hM hS ⟨rfl, hw⟩ dX3_allFlats_8
theorem dX3_goalOf_0 : decode cX3_goalOf 0 = .ok (.aload_n 0, 1) := by decide +kernel
theorem dX3_goalOf_1 : decode cX3_goalOf 1 = .ok (.getfield 39, 3) := by decide +kernel
theorem dX3_goalOf_4 : decode cX3_goalOf 4 = .ok (.iload_n 1, 1) := by decide +kernel
theorem dX3_goalOf_5 : decode cX3_goalOf 5 = .ok (.bipush 8, 2) := by decide +kernel
theorem dX3_goalOf_7 : decode cX3_goalOf 7 = .ok (.imul, 1) := by decide +kernel
theorem dX3_goalOf_8 : decode cX3_goalOf 8 = .ok (.iload_n 2, 1) := by decide +kernel
theorem dX3_goalOf_9 : decode cX3_goalOf 9 = .ok (.iadd, 1) := by decide +kernel
theorem dX3_goalOf_10 : decode cX3_goalOf 10 = .ok (.iaload, 1) := by decide +kernel
theorem dX3_goalOf_11 : decode cX3_goalOf 11 = .ok (.ireturn, 1) := by decide +kernel
def w_X3_goalOf (I : mI) (o : Nat) (a1 : Int32) (a2 : Int32) (post : Int32 → Prop) : Prop := vp_in ((a1 * 8) + a2) 48 ∧ post (I (o + 10) ((a1 * 8) + a2).toNatClampNeg)
set_option maxRecDepth 100000 in
set_option maxHeartbeats 4000000 in
theorem c_X3_goalOf {l : Launch} {D : va_G} {cA : Nat → ClassId} {Z : mZ} {bs n : Nat} {K : mK} {R : mR} {I : mI} {L : mL} {o : Nat} {a1 : Int32} {a2 : Int32} {post : Int32 → Prop} (ho : isX3 K R o) (hw : w_X3_goalOf I o a1 a2 post) : Met l yX3_goalOf (.code yX3_goalOf cX3_goalOf 3 (some .int) :: gw) ({ frames := 0, cells := 0, slots := 0, locals := 0 } : Room) (PreM D cA Z bs (n, K, R, I, L) [.ref (bs + o), .int a1, .int a2]) (QI D cA bs (fun r u => u = (n, K, R, I, L) ∧ post r)) 0 0 (Ab bs) := by
  refine m_met (by decide) (Nat.le_of_ble_eq_true rfl) (fun p e s m below meth c ls E hr hlk hM hS hl => ?_)
  have E : Ev p s m _ c cX3_goalOf 3 RX3 D cA Z bs := E
  have hl : lv_has ls 3 [(0, .ref (bs + o)), (1, .int a1), (2, .int a2)] := hl
  have hx := E.1.1
  have hb := E.1.2.1
  generalize hHe : s.heap = H at hM ⊢
  have hS : va_S (Ab bs) s.heap H [] := by rw [← hHe]; exact va_S.rf
  clear hHe
  refine lv_aload_n hx hb dX3_goalOf_0 rfl (lv_at hl 0 rfl) ?_
  refine m_getr E hM fs_X3_39 ho.1 (isO_at ho 9 rfl).1 dX3_goalOf_1 ?_
  refine lv_iload_n hx hb dX3_goalOf_4 rfl (lv_at hl 1 rfl) ?_
  refine lv_bipush (v := 8) hx hb dX3_goalOf_5 (by decide) ?_
  refine lv_imul hx hb dX3_goalOf_7 ?_
  refine lv_iload_n hx hb dX3_goalOf_8 rfl (lv_at hl 2 rfl) ?_
  refine lv_iadd hx hb dX3_goalOf_9 ?_
  obtain ⟨hv, hw⟩ := hw
  refine m_iald E hM (isO_at ho 9 rfl).2 hv dX3_goalOf_10 ?_
  exact m_reti hx hb hr hlk hM hS ⟨rfl, hw⟩ dX3_goalOf_11
theorem dX3_shoeAt_0 : decode cX3_shoeAt 0 = .ok (.iconst (-1), 1) := by decide +kernel
theorem dX3_shoeAt_1 : decode cX3_shoeAt 1 = .ok (.istore_n 3, 1) := by decide +kernel
theorem dX3_shoeAt_2 : decode cX3_shoeAt 2 = .ok (.aload_n 0, 1) := by decide +kernel
theorem dX3_shoeAt_3 : decode cX3_shoeAt 3 = .ok (.getfield 21, 3) := by decide +kernel
theorem dX3_shoeAt_6 : decode cX3_shoeAt 6 = .ok (.iload_n 1, 1) := by decide +kernel
theorem dX3_shoeAt_7 : decode cX3_shoeAt 7 = .ok (.iaload, 1) := by decide +kernel
theorem dX3_shoeAt_8 : decode cX3_shoeAt 8 = .ok (.istore 4, 2) := by decide +kernel
theorem dX3_shoeAt_10 : decode cX3_shoeAt 10 = .ok (.iconst 0, 1) := by decide +kernel
theorem dX3_shoeAt_11 : decode cX3_shoeAt 11 = .ok (.istore 5, 2) := by decide +kernel
theorem dX3_shoeAt_13 : decode cX3_shoeAt 13 = .ok (.iload 5, 2) := by decide +kernel
theorem dX3_shoeAt_15 : decode cX3_shoeAt 15 = .ok (.aload_n 0, 1) := by decide +kernel
theorem dX3_shoeAt_16 : decode cX3_shoeAt 16 = .ok (.getfield 64, 3) := by decide +kernel
theorem dX3_shoeAt_19 : decode cX3_shoeAt 19 = .ok (.if_icmp .ge 59, 3) := by decide +kernel
theorem dX3_shoeAt_22 : decode cX3_shoeAt 22 = .ok (.aload_n 0, 1) := by decide +kernel
theorem dX3_shoeAt_23 : decode cX3_shoeAt 23 = .ok (.getfield 42, 3) := by decide +kernel
theorem dX3_shoeAt_26 : decode cX3_shoeAt 26 = .ok (.iload 5, 2) := by decide +kernel
theorem dX3_shoeAt_28 : decode cX3_shoeAt 28 = .ok (.iaload, 1) := by decide +kernel
theorem dX3_shoeAt_29 : decode cX3_shoeAt 29 = .ok (.iload_n 1, 1) := by decide +kernel
theorem dX3_shoeAt_30 : decode cX3_shoeAt 30 = .ok (.if_icmp .ne 42, 3) := by decide +kernel
theorem dX3_shoeAt_33 : decode cX3_shoeAt 33 = .ok (.aload_n 0, 1) := by decide +kernel
theorem dX3_shoeAt_34 : decode cX3_shoeAt 34 = .ok (.getfield 45, 3) := by decide +kernel
theorem dX3_shoeAt_37 : decode cX3_shoeAt 37 = .ok (.iload 5, 2) := by decide +kernel
theorem dX3_shoeAt_39 : decode cX3_shoeAt 39 = .ok (.iaload, 1) := by decide +kernel
theorem dX3_shoeAt_40 : decode cX3_shoeAt 40 = .ok (.iload_n 2, 1) := by decide +kernel
theorem dX3_shoeAt_41 : decode cX3_shoeAt 41 = .ok (.if_icmp .gt 31, 3) := by decide +kernel
theorem dX3_shoeAt_44 : decode cX3_shoeAt 44 = .ok (.aload_n 0, 1) := by decide +kernel
theorem dX3_shoeAt_45 : decode cX3_shoeAt 45 = .ok (.getfield 45, 3) := by decide +kernel
theorem dX3_shoeAt_48 : decode cX3_shoeAt 48 = .ok (.iload 5, 2) := by decide +kernel
theorem dX3_shoeAt_50 : decode cX3_shoeAt 50 = .ok (.iaload, 1) := by decide +kernel
theorem dX3_shoeAt_51 : decode cX3_shoeAt 51 = .ok (.iload_n 3, 1) := by decide +kernel
theorem dX3_shoeAt_52 : decode cX3_shoeAt 52 = .ok (.if_icmp .lt 20, 3) := by decide +kernel
theorem dX3_shoeAt_55 : decode cX3_shoeAt 55 = .ok (.aload_n 0, 1) := by decide +kernel
theorem dX3_shoeAt_56 : decode cX3_shoeAt 56 = .ok (.getfield 45, 3) := by decide +kernel
theorem dX3_shoeAt_59 : decode cX3_shoeAt 59 = .ok (.iload 5, 2) := by decide +kernel
theorem dX3_shoeAt_61 : decode cX3_shoeAt 61 = .ok (.iaload, 1) := by decide +kernel
theorem dX3_shoeAt_62 : decode cX3_shoeAt 62 = .ok (.istore_n 3, 1) := by decide +kernel
theorem dX3_shoeAt_63 : decode cX3_shoeAt 63 = .ok (.aload_n 0, 1) := by decide +kernel
theorem dX3_shoeAt_64 : decode cX3_shoeAt 64 = .ok (.getfield 48, 3) := by decide +kernel
theorem dX3_shoeAt_67 : decode cX3_shoeAt 67 = .ok (.iload 5, 2) := by decide +kernel
theorem dX3_shoeAt_69 : decode cX3_shoeAt 69 = .ok (.iaload, 1) := by decide +kernel
theorem dX3_shoeAt_70 : decode cX3_shoeAt 70 = .ok (.istore 4, 2) := by decide +kernel
theorem dX3_shoeAt_72 : decode cX3_shoeAt 72 = .ok (.iinc 5 1, 3) := by decide +kernel
theorem dX3_shoeAt_75 : decode cX3_shoeAt 75 = .ok (.goto (-62), 3) := by decide +kernel
theorem dX3_shoeAt_78 : decode cX3_shoeAt 78 = .ok (.iload 4, 2) := by decide +kernel
theorem dX3_shoeAt_80 : decode cX3_shoeAt 80 = .ok (.ireturn, 1) := by decide +kernel
def w_X3_shoeAt_13 (I : mI) (o : Nat) (a1 : Int32) (a2 : Int32) (post : Int32 → Prop) (v3 : Int32) (v4 : Int32) (v5 : Int32) : Prop := ∀ ZZ : (Int32 → Int32 → Int32 → Prop), (∀ (v3 : Int32) (v4 : Int32) (v5 : Int32), (((I o 4) ≤ v5 → post v4) ∧ (¬ (I o 4) ≤ v5 → vp_in v5 8 ∧ (¬ (I (o + 11) v5.toNatClampNeg) = a1 → ∀ x2, x2 = v5 + 1 → ZZ v3 v4 x2) ∧ ((I (o + 11) v5.toNatClampNeg) = a1 → vp_in v5 8 ∧ (a2 < (I (o + 12) v5.toNatClampNeg) → ∀ x3, x3 = v5 + 1 → ZZ v3 v4 x3) ∧ (¬ a2 < (I (o + 12) v5.toNatClampNeg) → vp_in v5 8 ∧ ((I (o + 12) v5.toNatClampNeg) < v3 → ∀ x4, x4 = v5 + 1 → ZZ v3 v4 x4) ∧ (¬ (I (o + 12) v5.toNatClampNeg) < v3 → vp_in v5 8 ∧ ∀ x5, x5 = (I (o + 12) v5.toNatClampNeg) → vp_in v5 8 ∧ ∀ x6, x6 = (I (o + 13) v5.toNatClampNeg) → ∀ x7, x7 = v5 + 1 → ZZ x5 x6 x7))))) → ZZ v3 v4 v5) → ZZ v3 v4 v5
set_option maxRecDepth 100000 in
set_option maxHeartbeats 4000000 in
theorem s_X3_shoeAt_13 {p : Program} {l : Launch} {e : Env} {s : State} {m : MethodId} {args : Array Value} {below : List Frame} {meth : Method} {c : Code} {D : va_G} {cA : Nat → ClassId} {Z : mZ} {bs n : Nat} {K : mK} {R : mR} {I : mI} {L : mL} (E : Ev p s m args c cX3_shoeAt 6 RX3 D cA Z bs) (hr : meth.sig.returnType = (some .int)) (hlk : meth.locks = false) {o : Nat} {a1 : Int32} {a2 : Int32} (ho : isX3 K R o) {post : Int32 → Prop} {v3 : Int32} {v4 : Int32} {v5 : Int32} {H : Heap} {locs : List Loc} {ls : Array Slot} (hw : w_X3_shoeAt_13 I o a1 a2 post v3 v4 v5) (hM : mm D cA bs (n, K, R, I, L) H) (hS : va_S (Ab bs) s.heap H locs) (hl : lv_has ls 6 [(0, .ref (bs + o)), (1, .int a1), (2, .int a2), (3, .int v3), (4, .int v4), (5, .int v5)]) : W p l e ({ frames := 0, cells := 0, slots := 0, locals := 0 } : Room) s m args below meth c H locs 0 0 (MQ below (QI D cA bs (fun r u => u = (n, K, R, I, L) ∧ post r)) args s 0 0 (Ab bs)) (F0 m 13 ls []) := by
  have hx := E.1.1
  have hb := E.1.2.1
  refine hw (fun v3 v4 v5 => ∀ (H : Heap) (locs : List Loc) (ls : Array Slot), mm D cA bs (n, K, R, I, L) H → va_S (Ab bs) s.heap H locs → lv_has ls 6 [(0, .ref (bs + o)), (1, .int a1), (2, .int a2), (3, .int v3), (4, .int v4), (5, .int v5)] → W p l e ({ frames := 0, cells := 0, slots := 0, locals := 0 } : Room) s m args below meth c H locs 0 0 (MQ below (QI D cA bs (fun r u => u = (n, K, R, I, L) ∧ post r)) args s 0 0 (Ab bs)) (F0 m 13 ls [])) ?_ H locs ls hM hS hl
  clear hw hM hS hl
  intro v3 v4 v5 hw H locs ls hM hS hl
  refine lv_iload hx hb dX3_shoeAt_13 (lv_at hl 5 rfl) ?_
  refine lv_aload_n hx hb dX3_shoeAt_15 rfl (lv_at hl 0 rfl) ?_
  refine m_geti E hM fs_X3_64 ho.1 dX3_shoeAt_16 ?_
  refine lv_icmp_ge (tgt := 78) hx hb dX3_shoeAt_19 (by decide) (fun cq => ?_) (fun cq => ?_)
  · have hw := hw.1 cq
    refine lv_iload hx hb dX3_shoeAt_78 (lv_at hl 4 rfl) ?_
    exact m_reti hx hb hr hlk hM hS ⟨rfl, hw⟩ dX3_shoeAt_80
  · have hw := hw.2 cq
    refine lv_aload_n hx hb dX3_shoeAt_22 rfl (lv_at hl 0 rfl) ?_
    refine m_getr E hM fs_X3_42 ho.1 (isO_at ho 10 rfl).1 dX3_shoeAt_23 ?_
    refine lv_iload hx hb dX3_shoeAt_26 (lv_at hl 5 rfl) ?_
    obtain ⟨hv, hw⟩ := hw
    refine m_iald E hM (isO_at ho 10 rfl).2 hv dX3_shoeAt_28 ?_
    refine lv_iload_n hx hb dX3_shoeAt_29 rfl (lv_at hl 1 rfl) ?_
    refine lv_icmp_ne (tgt := 72) hx hb dX3_shoeAt_30 (by decide) (fun cq => ?_) (fun cq => ?_)
    · have hw := hw.1 cq
      obtain ⟨x2, ex2⟩ : ∃ y : Int32, y = v5 + 1 := ⟨_, rfl⟩
      have hw := hw x2 ex2
      refine lv_iinc (v := x2) (lv' := [(5, .int x2), (0, .ref (bs + o)), (1, .int a1), (2, .int a2), (3, .int v3), (4, .int v4)]) hx hb dX3_shoeAt_72 hl (k := 5) rfl (by rw [ex2]; rfl) (by decide) rfl (fun ls hl => ?_)
      refine lv_goto (tgt := 13) hx hb dX3_shoeAt_75 (by decide) ?_
      exact hw H locs ls  hM hS (lv_sub hl [1, 2, 3, 4, 5, 0] rfl)
    · have hw := hw.2 cq
      refine lv_aload_n hx hb dX3_shoeAt_33 rfl (lv_at hl 0 rfl) ?_
      refine m_getr E hM fs_X3_45 ho.1 (isO_at ho 11 rfl).1 dX3_shoeAt_34 ?_
      refine lv_iload hx hb dX3_shoeAt_37 (lv_at hl 5 rfl) ?_
      obtain ⟨hv, hw⟩ := hw
      refine m_iald E hM (isO_at ho 11 rfl).2 hv dX3_shoeAt_39 ?_
      refine lv_iload_n hx hb dX3_shoeAt_40 rfl (lv_at hl 2 rfl) ?_
      refine lv_icmp_gt (tgt := 72) hx hb dX3_shoeAt_41 (by decide) (fun cq => ?_) (fun cq => ?_)
      · have hw := hw.1 cq
        obtain ⟨x3, ex3⟩ : ∃ y : Int32, y = v5 + 1 := ⟨_, rfl⟩
        have hw := hw x3 ex3
        refine lv_iinc (v := x3) (lv' := [(5, .int x3), (0, .ref (bs + o)), (1, .int a1), (2, .int a2), (3, .int v3), (4, .int v4)]) hx hb dX3_shoeAt_72 hl (k := 5) rfl (by rw [ex3]; rfl) (by decide) rfl (fun ls hl => ?_)
        refine lv_goto (tgt := 13) hx hb dX3_shoeAt_75 (by decide) ?_
        exact hw H locs ls  hM hS (lv_sub hl [1, 2, 3, 4, 5, 0] rfl)
      · have hw := hw.2 cq
        refine lv_aload_n hx hb dX3_shoeAt_44 rfl (lv_at hl 0 rfl) ?_
        refine m_getr E hM fs_X3_45 ho.1 (isO_at ho 11 rfl).1 dX3_shoeAt_45 ?_
        refine lv_iload hx hb dX3_shoeAt_48 (lv_at hl 5 rfl) ?_
        obtain ⟨hv, hw⟩ := hw
        refine m_iald E hM (isO_at ho 11 rfl).2 hv dX3_shoeAt_50 ?_
        refine lv_iload_n hx hb dX3_shoeAt_51 rfl (lv_at hl 3 rfl) ?_
        refine lv_icmp_lt (tgt := 72) hx hb dX3_shoeAt_52 (by decide) (fun cq => ?_) (fun cq => ?_)
        · have hw := hw.1 cq
          obtain ⟨x4, ex4⟩ : ∃ y : Int32, y = v5 + 1 := ⟨_, rfl⟩
          have hw := hw x4 ex4
          refine lv_iinc (v := x4) (lv' := [(5, .int x4), (0, .ref (bs + o)), (1, .int a1), (2, .int a2), (3, .int v3), (4, .int v4)]) hx hb dX3_shoeAt_72 hl (k := 5) rfl (by rw [ex4]; rfl) (by decide) rfl (fun ls hl => ?_)
          refine lv_goto (tgt := 13) hx hb dX3_shoeAt_75 (by decide) ?_
          exact hw H locs ls  hM hS (lv_sub hl [1, 2, 3, 4, 5, 0] rfl)
        · have hw := hw.2 cq
          refine lv_aload_n hx hb dX3_shoeAt_55 rfl (lv_at hl 0 rfl) ?_
          refine m_getr E hM fs_X3_45 ho.1 (isO_at ho 11 rfl).1 dX3_shoeAt_56 ?_
          refine lv_iload hx hb dX3_shoeAt_59 (lv_at hl 5 rfl) ?_
          obtain ⟨hv, hw⟩ := hw
          refine m_iald E hM (isO_at ho 11 rfl).2 hv dX3_shoeAt_61 ?_
          refine lv_topi (fun x5 ex5 => ?_)
          have hw := hw x5 ex5
          refine lv_istore_n (lv' := [(3, .int x5), (0, .ref (bs + o)), (1, .int a1), (2, .int a2), (4, .int v4), (5, .int v5)]) hx hb dX3_shoeAt_62 rfl hl (by decide) rfl (fun ls hl => ?_)
          refine lv_aload_n hx hb dX3_shoeAt_63 rfl (lv_at hl 1 rfl) ?_
          refine m_getr E hM fs_X3_48 ho.1 (isO_at ho 12 rfl).1 dX3_shoeAt_64 ?_
          refine lv_iload hx hb dX3_shoeAt_67 (lv_at hl 5 rfl) ?_
          obtain ⟨hv, hw⟩ := hw
          refine m_iald E hM (isO_at ho 12 rfl).2 hv dX3_shoeAt_69 ?_
          refine lv_topi (fun x6 ex6 => ?_)
          have hw := hw x6 ex6
          refine lv_istore (lv' := [(4, .int x6), (3, .int x5), (0, .ref (bs + o)), (1, .int a1), (2, .int a2), (5, .int v5)]) hx hb dX3_shoeAt_70 hl (by decide) rfl (fun ls hl => ?_)
          obtain ⟨x7, ex7⟩ : ∃ y : Int32, y = v5 + 1 := ⟨_, rfl⟩
          have hw := hw x7 ex7
          refine lv_iinc (v := x7) (lv' := [(5, .int x7), (4, .int x6), (3, .int x5), (0, .ref (bs + o)), (1, .int a1), (2, .int a2)]) hx hb dX3_shoeAt_72 hl (k := 5) rfl (by rw [ex7]; rfl) (by decide) rfl (fun ls hl => ?_)
          refine lv_goto (tgt := 13) hx hb dX3_shoeAt_75 (by decide) ?_
          exact hw H locs ls  hM hS (lv_sub hl [3, 4, 5, 2, 1, 0] rfl)
def w_X3_shoeAt (I : mI) (o : Nat) (a1 : Int32) (a2 : Int32) (post : Int32 → Prop) : Prop := vp_in a1 6 ∧ ∀ x1, x1 = (I (o + 4) a1.toNatClampNeg) → (w_X3_shoeAt_13 I o a1 a2 post) (-1) x1 0
set_option maxRecDepth 100000 in
set_option maxHeartbeats 4000000 in
theorem c_X3_shoeAt {l : Launch} {D : va_G} {cA : Nat → ClassId} {Z : mZ} {bs n : Nat} {K : mK} {R : mR} {I : mI} {L : mL} {o : Nat} {a1 : Int32} {a2 : Int32} {post : Int32 → Prop} (ho : isX3 K R o) (hw : w_X3_shoeAt I o a1 a2 post) : Met l yX3_shoeAt (.code yX3_shoeAt cX3_shoeAt 6 (some .int) :: gw) ({ frames := 0, cells := 0, slots := 0, locals := 0 } : Room) (PreM D cA Z bs (n, K, R, I, L) [.ref (bs + o), .int a1, .int a2]) (QI D cA bs (fun r u => u = (n, K, R, I, L) ∧ post r)) 0 0 (Ab bs) := by
  refine m_met (by decide) (Nat.le_of_ble_eq_true rfl) (fun p e s m below meth c ls E hr hlk hM hS hl => ?_)
  have E : Ev p s m _ c cX3_shoeAt 6 RX3 D cA Z bs := E
  have hl : lv_has ls 6 [(0, .ref (bs + o)), (1, .int a1), (2, .int a2)] := hl
  have hx := E.1.1
  have hb := E.1.2.1
  generalize hHe : s.heap = H at hM ⊢
  have hS : va_S (Ab bs) s.heap H [] := by rw [← hHe]; exact va_S.rf
  clear hHe
  refine lv_iconst (v := (-1)) hx hb dX3_shoeAt_0 (by decide) ?_
  refine lv_istore_n (lv' := [(3, .int (-1)), (0, .ref (bs + o)), (1, .int a1), (2, .int a2)]) hx hb dX3_shoeAt_1 rfl hl (by decide) rfl (fun ls hl => ?_)
  refine lv_aload_n hx hb dX3_shoeAt_2 rfl (lv_at hl 1 rfl) ?_
  refine m_getr E hM fs_X3_21 ho.1 (isO_at ho 3 rfl).1 dX3_shoeAt_3 ?_
  refine lv_iload_n hx hb dX3_shoeAt_6 rfl (lv_at hl 2 rfl) ?_
  obtain ⟨hv, hw⟩ := hw
  refine m_iald E hM (isO_at ho 3 rfl).2 hv dX3_shoeAt_7 ?_
  refine lv_topi (fun x1 ex1 => ?_)
  have hw := hw x1 ex1
  refine lv_istore (lv' := [(4, .int x1), (3, .int (-1)), (0, .ref (bs + o)), (1, .int a1), (2, .int a2)]) hx hb dX3_shoeAt_8 hl (by decide) rfl (fun ls hl => ?_)
  refine lv_iconst (v := 0) hx hb dX3_shoeAt_10 (by decide) ?_
  refine lv_istore (lv' := [(5, .int 0), (4, .int x1), (3, .int (-1)), (0, .ref (bs + o)), (1, .int a1), (2, .int a2)]) hx hb dX3_shoeAt_11 hl (by decide) rfl (fun ls hl => ?_)
  exact s_X3_shoeAt_13 E hr hlk ho  hw hM hS (lv_sub hl [3, 4, 5, 2, 1, 0] rfl)
theorem dX3_loudOf_0 : decode cX3_loudOf 0 = .ok (.iconst 0, 1) := by decide +kernel
theorem dX3_loudOf_1 : decode cX3_loudOf 1 = .ok (.aload_n 0, 1) := by decide +kernel
theorem dX3_loudOf_2 : decode cX3_loudOf 2 = .ok (.getfield 24, 3) := by decide +kernel
theorem dX3_loudOf_5 : decode cX3_loudOf 5 = .ok (.iload_n 1, 1) := by decide +kernel
theorem dX3_loudOf_6 : decode cX3_loudOf 6 = .ok (.iaload, 1) := by decide +kernel
theorem dX3_loudOf_7 : decode cX3_loudOf 7 = .ok (.iload_n 3, 1) := by decide +kernel
theorem dX3_loudOf_8 : decode cX3_loudOf 8 = .ok (.iadd, 1) := by decide +kernel
theorem dX3_loudOf_9 : decode cX3_loudOf 9 = .ok (.aload_n 0, 1) := by decide +kernel
theorem dX3_loudOf_10 : decode cX3_loudOf 10 = .ok (.getfield 9, 3) := by decide +kernel
theorem dX3_loudOf_13 : decode cX3_loudOf 13 = .ok (.iload_n 2, 1) := by decide +kernel
theorem dX3_loudOf_14 : decode cX3_loudOf 14 = .ok (.iaload, 1) := by decide +kernel
theorem dX3_loudOf_15 : decode cX3_loudOf 15 = .ok (.isub, 1) := by decide +kernel
theorem dX3_loudOf_16 : decode cX3_loudOf 16 = .ok (.invokestatic 79, 3) := by decide +kernel
theorem dX3_loudOf_19 : decode cX3_loudOf 19 = .ok (.ireturn, 1) := by decide +kernel
def w_X3_loudOf (I : mI) (o : Nat) (a1 : Int32) (a2 : Int32) (a3 : Int32) (post : Int32 → Prop) : Prop := vp_in a1 6 ∧ vp_in a2 24 ∧ post (imax 0 (((I (o + 5) a1.toNatClampNeg) + a3) - (I (o + 1) a2.toNatClampNeg)))
set_option maxRecDepth 100000 in
set_option maxHeartbeats 4000000 in
theorem c_X3_loudOf {l : Launch} {D : va_G} {cA : Nat → ClassId} {Z : mZ} {bs n : Nat} {K : mK} {R : mR} {I : mI} {L : mL} {o : Nat} {a1 : Int32} {a2 : Int32} {a3 : Int32} {post : Int32 → Prop} (ho : isX3 K R o) (hw : w_X3_loudOf I o a1 a2 a3 post) : Met l yX3_loudOf (.code yX3_loudOf cX3_loudOf 4 (some .int) :: gw) ({ frames := 1, cells := 0, slots := 0, locals := 40 } : Room) (PreM D cA Z bs (n, K, R, I, L) [.ref (bs + o), .int a1, .int a2, .int a3]) (QI D cA bs (fun r u => u = (n, K, R, I, L) ∧ post r)) 0 0 (Ab bs) := by
  refine m_met (by decide) (Nat.le_of_ble_eq_true rfl) (fun p e s m below meth c ls E hr hlk hM hS hl => ?_)
  have E : Ev p s m _ c cX3_loudOf 4 RX3 D cA Z bs := E
  have hl : lv_has ls 4 [(0, .ref (bs + o)), (1, .int a1), (2, .int a2), (3, .int a3)] := hl
  have hx := E.1.1
  have hb := E.1.2.1
  generalize hHe : s.heap = H at hM ⊢
  have hS : va_S (Ab bs) s.heap H [] := by rw [← hHe]; exact va_S.rf
  clear hHe
  refine lv_iconst (v := 0) hx hb dX3_loudOf_0 (by decide) ?_
  refine lv_aload_n hx hb dX3_loudOf_1 rfl (lv_at hl 0 rfl) ?_
  refine m_getr E hM fs_X3_24 ho.1 (isO_at ho 4 rfl).1 dX3_loudOf_2 ?_
  refine lv_iload_n hx hb dX3_loudOf_5 rfl (lv_at hl 1 rfl) ?_
  obtain ⟨hv, hw⟩ := hw
  refine m_iald E hM (isO_at ho 4 rfl).2 hv dX3_loudOf_6 ?_
  refine lv_iload_n hx hb dX3_loudOf_7 rfl (lv_at hl 3 rfl) ?_
  refine lv_iadd hx hb dX3_loudOf_8 ?_
  refine lv_aload_n hx hb dX3_loudOf_9 rfl (lv_at hl 0 rfl) ?_
  refine m_getr E hM fs_X3_9 ho.1 (isO_at ho 0 rfl).1 dX3_loudOf_10 ?_
  refine lv_iload_n hx hb dX3_loudOf_13 rfl (lv_at hl 2 rfl) ?_
  obtain ⟨hv, hw⟩ := hw
  refine m_iald E hM (isO_at ho 0 rfl).2 hv dX3_loudOf_14 ?_
  refine lv_isub hx hb dX3_loudOf_15 ?_
  refine m_max E ml_X3_79 hl.1 (Nat.le_of_ble_eq_true rfl) (Nat.le_of_ble_eq_true rfl) (Nat.le_of_ble_eq_true rfl) (Nat.le_of_ble_eq_true rfl) dX3_loudOf_16 ?_
  exact m_reti hx hb hr hlk hM hS ⟨rfl, hw⟩ dX3_loudOf_19
theorem dX3_hears_0 : decode cX3_hears 0 = .ok (.iload_n 3, 1) := by decide +kernel
theorem dX3_hears_1 : decode cX3_hears 1 = .ok (.ifCond .le 29, 3) := by decide +kernel
theorem dX3_hears_4 : decode cX3_hears 4 = .ok (.aload_n 0, 1) := by decide +kernel
theorem dX3_hears_5 : decode cX3_hears 5 = .ok (.getfield 15, 3) := by decide +kernel
theorem dX3_hears_8 : decode cX3_hears 8 = .ok (.iload_n 1, 1) := by decide +kernel
theorem dX3_hears_9 : decode cX3_hears 9 = .ok (.iaload, 1) := by decide +kernel
theorem dX3_hears_10 : decode cX3_hears 10 = .ok (.iload_n 2, 1) := by decide +kernel
theorem dX3_hears_11 : decode cX3_hears 11 = .ok (.isub, 1) := by decide +kernel
theorem dX3_hears_12 : decode cX3_hears 12 = .ok (.invokestatic 85, 3) := by decide +kernel
theorem dX3_hears_15 : decode cX3_hears 15 = .ok (.aload_n 0, 1) := by decide +kernel
theorem dX3_hears_16 : decode cX3_hears 16 = .ok (.getfield 18, 3) := by decide +kernel
theorem dX3_hears_19 : decode cX3_hears 19 = .ok (.iload_n 1, 1) := by decide +kernel
theorem dX3_hears_20 : decode cX3_hears 20 = .ok (.iaload, 1) := by decide +kernel
theorem dX3_hears_21 : decode cX3_hears 21 = .ok (.iload_n 3, 1) := by decide +kernel
theorem dX3_hears_22 : decode cX3_hears 22 = .ok (.iadd, 1) := by decide +kernel
theorem dX3_hears_23 : decode cX3_hears 23 = .ok (.if_icmp .gt 7, 3) := by decide +kernel
theorem dX3_hears_26 : decode cX3_hears 26 = .ok (.iconst 1, 1) := by decide +kernel
theorem dX3_hears_27 : decode cX3_hears 27 = .ok (.goto 4, 3) := by decide +kernel
theorem dX3_hears_30 : decode cX3_hears 30 = .ok (.iconst 0, 1) := by decide +kernel
theorem dX3_hears_31 : decode cX3_hears 31 = .ok (.ireturn, 1) := by decide +kernel
def w_X3_hears (I : mI) (o : Nat) (a1 : Int32) (a2 : Int32) (a3 : Int32) (post : Bool → Prop) : Prop := (a3 ≤ 0 → post false) ∧ (¬ a3 ≤ 0 → vp_in a1 6 ∧ vp_in a1 6 ∧ (((I (o + 3) a1.toNatClampNeg) + a3) < (iabs ((I (o + 2) a1.toNatClampNeg) - a2)) → post false) ∧ (¬ ((I (o + 3) a1.toNatClampNeg) + a3) < (iabs ((I (o + 2) a1.toNatClampNeg) - a2)) → post true))
set_option maxRecDepth 100000 in
set_option maxHeartbeats 4000000 in
theorem c_X3_hears {l : Launch} {D : va_G} {cA : Nat → ClassId} {Z : mZ} {bs n : Nat} {K : mK} {R : mR} {I : mI} {L : mL} {o : Nat} {a1 : Int32} {a2 : Int32} {a3 : Int32} {post : Bool → Prop} (ho : isX3 K R o) (hw : w_X3_hears I o a1 a2 a3 post) : Met l yX3_hears (.code yX3_hears cX3_hears 4 (some .boolean) :: gw) ({ frames := 1, cells := 0, slots := 0, locals := 40 } : Room) (PreM D cA Z bs (n, K, R, I, L) [.ref (bs + o), .int a1, .int a2, .int a3]) (QI D cA bs (fun r u => ∃ b, r = bI b ∧ u = (n, K, R, I, L) ∧ post b)) 0 0 (Ab bs) := by
  refine m_met (by decide) (Nat.le_of_ble_eq_true rfl) (fun p e s m below meth c ls E hr hlk hM hS hl => ?_)
  have E : Ev p s m _ c cX3_hears 4 RX3 D cA Z bs := E
  have hl : lv_has ls 4 [(0, .ref (bs + o)), (1, .int a1), (2, .int a2), (3, .int a3)] := hl
  have hx := E.1.1
  have hb := E.1.2.1
  generalize hHe : s.heap = H at hM ⊢
  have hS : va_S (Ab bs) s.heap H [] := by rw [← hHe]; exact va_S.rf
  clear hHe
  refine lv_iload_n hx hb dX3_hears_0 rfl (lv_at hl 3 rfl) ?_
  refine lv_if_le (tgt := 30) hx hb dX3_hears_1 (by decide) (fun cq => ?_) (fun cq => ?_)
  · have hw := hw.1 cq
    refine lv_iconst (v := 0) hx hb dX3_hears_30 (by decide) ?_
    exact m_retz hx hb hr hlk (Or.inl rfl) hM hS ⟨false, rfl, rfl, hw⟩ dX3_hears_31
  · have hw := hw.2 cq
    refine lv_aload_n hx hb dX3_hears_4 rfl (lv_at hl 0 rfl) ?_
    refine m_getr E hM fs_X3_15 ho.1 (isO_at ho 1 rfl).1 dX3_hears_5 ?_
    refine lv_iload_n hx hb dX3_hears_8 rfl (lv_at hl 1 rfl) ?_
    obtain ⟨hv, hw⟩ := hw
    refine m_iald E hM (isO_at ho 1 rfl).2 hv dX3_hears_9 ?_
    refine lv_iload_n hx hb dX3_hears_10 rfl (lv_at hl 2 rfl) ?_
    refine lv_isub hx hb dX3_hears_11 ?_
    refine m_abs E ml_X3_85 hl.1 (Nat.le_of_ble_eq_true rfl) (Nat.le_of_ble_eq_true rfl) (Nat.le_of_ble_eq_true rfl) (Nat.le_of_ble_eq_true rfl) dX3_hears_12 ?_
    refine lv_aload_n hx hb dX3_hears_15 rfl (lv_at hl 0 rfl) ?_
    refine m_getr E hM fs_X3_18 ho.1 (isO_at ho 2 rfl).1 dX3_hears_16 ?_
    refine lv_iload_n hx hb dX3_hears_19 rfl (lv_at hl 1 rfl) ?_
    obtain ⟨hv, hw⟩ := hw
    refine m_iald E hM (isO_at ho 2 rfl).2 hv dX3_hears_20 ?_
    refine lv_iload_n hx hb dX3_hears_21 rfl (lv_at hl 3 rfl) ?_
    refine lv_iadd hx hb dX3_hears_22 ?_
    refine lv_icmp_gt (tgt := 30) hx hb dX3_hears_23 (by decide) (fun cq => ?_) (fun cq => ?_)
    · have hw := hw.1 cq
      refine lv_iconst (v := 0) hx hb dX3_hears_30 (by decide) ?_
      exact m_retz hx hb hr hlk (Or.inl rfl) hM hS ⟨false, rfl, rfl, hw⟩ dX3_hears_31
    · have hw := hw.2 cq
      refine lv_iconst (v := 1) hx hb dX3_hears_26 (by decide) ?_
      refine lv_goto (tgt := 31) hx hb dX3_hears_27 (by decide) ?_
      exact m_retz hx hb hr hlk (Or.inr rfl) hM hS ⟨true, rfl, rfl, hw⟩ dX3_hears_31
theorem dX3_openGoal_0 : decode cX3_openGoal 0 = .ok (.iload_n 2, 1) := by decide +kernel
theorem dX3_openGoal_1 : decode cX3_openGoal 1 = .ok (.istore 4, 2) := by decide +kernel
theorem dX3_openGoal_3 : decode cX3_openGoal 3 = .ok (.iload 4, 2) := by decide +kernel
theorem dX3_openGoal_5 : decode cX3_openGoal 5 = .ok (.aload_n 0, 1) := by decide +kernel
theorem dX3_openGoal_6 : decode cX3_openGoal 6 = .ok (.getfield 36, 3) := by decide +kernel
theorem dX3_openGoal_9 : decode cX3_openGoal 9 = .ok (.iload_n 1, 1) := by decide +kernel
theorem dX3_openGoal_10 : decode cX3_openGoal 10 = .ok (.iaload, 1) := by decide +kernel
theorem dX3_openGoal_11 : decode cX3_openGoal 11 = .ok (.if_icmp .ge 20, 3) := by decide +kernel
theorem dX3_openGoal_14 : decode cX3_openGoal 14 = .ok (.aload_n 0, 1) := by decide +kernel
theorem dX3_openGoal_15 : decode cX3_openGoal 15 = .ok (.iload_n 1, 1) := by decide +kernel
theorem dX3_openGoal_16 : decode cX3_openGoal 16 = .ok (.iload 4, 2) := by decide +kernel
theorem dX3_openGoal_18 : decode cX3_openGoal 18 = .ok (.invokevirtual 89, 3) := by decide +kernel
theorem dX3_openGoal_21 : decode cX3_openGoal 21 = .ok (.iload_n 3, 1) := by decide +kernel
theorem dX3_openGoal_22 : decode cX3_openGoal 22 = .ok (.if_icmp .ne 9, 3) := by decide +kernel
theorem dX3_openGoal_25 : decode cX3_openGoal 25 = .ok (.iinc 4 1, 3) := by decide +kernel
theorem dX3_openGoal_28 : decode cX3_openGoal 28 = .ok (.goto (-25), 3) := by decide +kernel
theorem dX3_openGoal_31 : decode cX3_openGoal 31 = .ok (.iload 4, 2) := by decide +kernel
theorem dX3_openGoal_33 : decode cX3_openGoal 33 = .ok (.ireturn, 1) := by decide +kernel
def w_X3_openGoal_3 (I : mI) (o : Nat) (a1 : Int32) (a2 : Int32) (a3 : Int32) (post : Int32 → Prop) (v4 : Int32) : Prop := ∀ ZZ : (Int32 → Prop), (∀ (v4 : Int32), (vp_in a1 6 ∧ ((I (o + 9) a1.toNatClampNeg) ≤ v4 → post v4) ∧ (¬ (I (o + 9) a1.toNatClampNeg) ≤ v4 → w_X3_goalOf I o a1 v4 (fun r1 => (¬ r1 = a3 → post v4) ∧ (r1 = a3 → ∀ x2, x2 = v4 + 1 → ZZ x2)))) → ZZ v4) → ZZ v4
set_option maxRecDepth 100000 in
set_option maxHeartbeats 4000000 in
theorem s_X3_openGoal_3 {p : Program} {l : Launch} {e : Env} {s : State} {m : MethodId} {args : Array Value} {below : List Frame} {meth : Method} {c : Code} {D : va_G} {cA : Nat → ClassId} {Z : mZ} {bs n : Nat} {K : mK} {R : mR} {I : mI} {L : mL} (E : Ev p s m args c cX3_openGoal 5 RX3 D cA Z bs) (hr : meth.sig.returnType = (some .int)) (hlk : meth.locks = false) {o : Nat} {a1 : Int32} {a2 : Int32} {a3 : Int32} (ho : isX3 K R o) {post : Int32 → Prop} {v4 : Int32} {H : Heap} {locs : List Loc} {ls : Array Slot} (hw : w_X3_openGoal_3 I o a1 a2 a3 post v4) (hM : mm D cA bs (n, K, R, I, L) H) (hS : va_S (Ab bs) s.heap H locs) (hl : lv_has ls 5 [(0, .ref (bs + o)), (1, .int a1), (3, .int a3), (4, .int v4)]) : W p l e ({ frames := 1, cells := 0, slots := 0, locals := 22 } : Room) s m args below meth c H locs 0 0 (MQ below (QI D cA bs (fun r u => u = (n, K, R, I, L) ∧ post r)) args s 0 0 (Ab bs)) (F0 m 3 ls []) := by
  have hx := E.1.1
  have hb := E.1.2.1
  refine hw (fun v4 => ∀ (H : Heap) (locs : List Loc) (ls : Array Slot), mm D cA bs (n, K, R, I, L) H → va_S (Ab bs) s.heap H locs → lv_has ls 5 [(0, .ref (bs + o)), (1, .int a1), (3, .int a3), (4, .int v4)] → W p l e ({ frames := 1, cells := 0, slots := 0, locals := 22 } : Room) s m args below meth c H locs 0 0 (MQ below (QI D cA bs (fun r u => u = (n, K, R, I, L) ∧ post r)) args s 0 0 (Ab bs)) (F0 m 3 ls [])) ?_ H locs ls hM hS hl
  clear hw hM hS hl
  intro v4 hw H locs ls hM hS hl
  refine lv_iload hx hb dX3_openGoal_3 (lv_at hl 3 rfl) ?_
  refine lv_aload_n hx hb dX3_openGoal_5 rfl (lv_at hl 0 rfl) ?_
  refine m_getr E hM fs_X3_36 ho.1 (isO_at ho 8 rfl).1 dX3_openGoal_6 ?_
  refine lv_iload_n hx hb dX3_openGoal_9 rfl (lv_at hl 1 rfl) ?_
  obtain ⟨hv, hw⟩ := hw
  refine m_iald E hM (isO_at ho 8 rfl).2 hv dX3_openGoal_10 ?_
  refine lv_icmp_ge (tgt := 31) hx hb dX3_openGoal_11 (by decide) (fun cq => ?_) (fun cq => ?_)
  · have hw := hw.1 cq
    refine lv_iload hx hb dX3_openGoal_31 (lv_at hl 3 rfl) ?_
    exact m_reti hx hb hr hlk hM hS ⟨rfl, hw⟩ dX3_openGoal_33
  · have hw := hw.2 cq
    refine lv_aload_n hx hb dX3_openGoal_14 rfl (lv_at hl 0 rfl) ?_
    refine lv_iload_n hx hb dX3_openGoal_15 rfl (lv_at hl 1 rfl) ?_
    refine lv_iload hx hb dX3_openGoal_16 (lv_at hl 3 rfl) ?_
    refine m_ci (m_runV E hM hS cs_X3_89 ho.1 (by decide) rfl rfl (c_X3_goalOf ho hw) rfl rfl ⟨Nat.le_of_ble_eq_true rfl, Nat.le_of_ble_eq_true rfl⟩ rfl hl.1 rfl (Nat.le_of_ble_eq_true rfl) dX3_openGoal_18 ⟨Nat.le_of_ble_eq_true rfl, Nat.le_of_ble_eq_true rfl⟩) hS (fun r1 u H locs hp hM hS => ?_)
    obtain ⟨rfl, hw⟩ := hp
    refine lv_iload_n hx hb dX3_openGoal_21 rfl (lv_at hl 2 rfl) ?_
    refine lv_icmp_ne (tgt := 31) hx hb dX3_openGoal_22 (by decide) (fun cq => ?_) (fun cq => ?_)
    · have hw := hw.1 cq
      refine lv_iload hx hb dX3_openGoal_31 (lv_at hl 3 rfl) ?_
      exact m_reti hx hb hr hlk hM hS ⟨rfl, hw⟩ dX3_openGoal_33
    · have hw := hw.2 cq
      obtain ⟨x2, ex2⟩ : ∃ y : Int32, y = v4 + 1 := ⟨_, rfl⟩
      have hw := hw x2 ex2
      refine lv_iinc (v := x2) (lv' := [(4, .int x2), (0, .ref (bs + o)), (1, .int a1), (3, .int a3)]) hx hb dX3_openGoal_25 hl (k := 3) rfl (by rw [ex2]; rfl) (by decide) rfl (fun ls hl => ?_)
      refine lv_goto (tgt := 3) hx hb dX3_openGoal_28 (by decide) ?_
      exact hw H locs ls  hM hS (lv_sub hl [1, 2, 3, 0] rfl)
def w_X3_openGoal (I : mI) (o : Nat) (a1 : Int32) (a2 : Int32) (a3 : Int32) (post : Int32 → Prop) : Prop := (w_X3_openGoal_3 I o a1 a2 a3 post) a2
set_option maxRecDepth 100000 in
set_option maxHeartbeats 4000000 in
theorem c_X3_openGoal {l : Launch} {D : va_G} {cA : Nat → ClassId} {Z : mZ} {bs n : Nat} {K : mK} {R : mR} {I : mI} {L : mL} {o : Nat} {a1 : Int32} {a2 : Int32} {a3 : Int32} {post : Int32 → Prop} (ho : isX3 K R o) (hw : w_X3_openGoal I o a1 a2 a3 post) : Met l yX3_openGoal (.code yX3_openGoal cX3_openGoal 5 (some .int) :: gw) ({ frames := 1, cells := 0, slots := 0, locals := 22 } : Room) (PreM D cA Z bs (n, K, R, I, L) [.ref (bs + o), .int a1, .int a2, .int a3]) (QI D cA bs (fun r u => u = (n, K, R, I, L) ∧ post r)) 0 0 (Ab bs) := by
  refine m_met (by decide) (Nat.le_of_ble_eq_true rfl) (fun p e s m below meth c ls E hr hlk hM hS hl => ?_)
  have E : Ev p s m _ c cX3_openGoal 5 RX3 D cA Z bs := E
  have hl : lv_has ls 5 [(0, .ref (bs + o)), (1, .int a1), (2, .int a2), (3, .int a3)] := hl
  have hx := E.1.1
  have hb := E.1.2.1
  generalize hHe : s.heap = H at hM ⊢
  have hS : va_S (Ab bs) s.heap H [] := by rw [← hHe]; exact va_S.rf
  clear hHe
  refine lv_iload_n hx hb dX3_openGoal_0 rfl (lv_at hl 2 rfl) ?_
  refine lv_istore (lv' := [(4, .int a2), (0, .ref (bs + o)), (1, .int a1), (2, .int a2), (3, .int a3)]) hx hb dX3_openGoal_1 hl (by decide) rfl (fun ls hl => ?_)
  exact s_X3_openGoal_3 E hr hlk ho  hw hM hS (lv_sub hl [1, 2, 4, 0] rfl)
theorem dX3_nextStep_0 : decode cX3_nextStep 0 = .ok (.aload_n 0, 1) := by decide +kernel
theorem dX3_nextStep_1 : decode cX3_nextStep 1 = .ok (.iload_n 1, 1) := by decide +kernel
theorem dX3_nextStep_2 : decode cX3_nextStep 2 = .ok (.iload_n 3, 1) := by decide +kernel
theorem dX3_nextStep_3 : decode cX3_nextStep 3 = .ok (.invokevirtual 89, 3) := by decide +kernel
theorem dX3_nextStep_6 : decode cX3_nextStep 6 = .ok (.istore 4, 2) := by decide +kernel
theorem dX3_nextStep_8 : decode cX3_nextStep 8 = .ok (.iload 4, 2) := by decide +kernel
theorem dX3_nextStep_10 : decode cX3_nextStep 10 = .ok (.iload_n 2, 1) := by decide +kernel
theorem dX3_nextStep_11 : decode cX3_nextStep 11 = .ok (.if_icmp .le 19, 3) := by decide +kernel
theorem dX3_nextStep_14 : decode cX3_nextStep 14 = .ok (.iload 4, 2) := by decide +kernel
theorem dX3_nextStep_16 : decode cX3_nextStep 16 = .ok (.iload_n 2, 1) := by decide +kernel
theorem dX3_nextStep_17 : decode cX3_nextStep 17 = .ok (.aload_n 0, 1) := by decide +kernel
theorem dX3_nextStep_18 : decode cX3_nextStep 18 = .ok (.getfield 27, 3) := by decide +kernel
theorem dX3_nextStep_21 : decode cX3_nextStep 21 = .ok (.iload_n 1, 1) := by decide +kernel
theorem dX3_nextStep_22 : decode cX3_nextStep 22 = .ok (.iaload, 1) := by decide +kernel
theorem dX3_nextStep_23 : decode cX3_nextStep 23 = .ok (.iadd, 1) := by decide +kernel
theorem dX3_nextStep_24 : decode cX3_nextStep 24 = .ok (.invokestatic 92, 3) := by decide +kernel
theorem dX3_nextStep_27 : decode cX3_nextStep 27 = .ok (.goto 16, 3) := by decide +kernel
theorem dX3_nextStep_30 : decode cX3_nextStep 30 = .ok (.iload 4, 2) := by decide +kernel
theorem dX3_nextStep_32 : decode cX3_nextStep 32 = .ok (.iload_n 2, 1) := by decide +kernel
theorem dX3_nextStep_33 : decode cX3_nextStep 33 = .ok (.aload_n 0, 1) := by decide +kernel
theorem dX3_nextStep_34 : decode cX3_nextStep 34 = .ok (.getfield 27, 3) := by decide +kernel
theorem dX3_nextStep_37 : decode cX3_nextStep 37 = .ok (.iload_n 1, 1) := by decide +kernel
theorem dX3_nextStep_38 : decode cX3_nextStep 38 = .ok (.iaload, 1) := by decide +kernel
theorem dX3_nextStep_39 : decode cX3_nextStep 39 = .ok (.isub, 1) := by decide +kernel
theorem dX3_nextStep_40 : decode cX3_nextStep 40 = .ok (.invokestatic 79, 3) := by decide +kernel
theorem dX3_nextStep_43 : decode cX3_nextStep 43 = .ok (.ireturn, 1) := by decide +kernel
def w_X3_nextStep (I : mI) (o : Nat) (a1 : Int32) (a2 : Int32) (a3 : Int32) (post : Int32 → Prop) : Prop := w_X3_goalOf I o a1 a3 (fun r1 => (r1 ≤ a2 → vp_in a1 6 ∧ post (imax r1 (a2 - (I (o + 6) a1.toNatClampNeg)))) ∧ (¬ r1 ≤ a2 → vp_in a1 6 ∧ post (imin r1 (a2 + (I (o + 6) a1.toNatClampNeg)))))
set_option maxRecDepth 100000 in
set_option maxHeartbeats 4000000 in
theorem c_X3_nextStep {l : Launch} {D : va_G} {cA : Nat → ClassId} {Z : mZ} {bs n : Nat} {K : mK} {R : mR} {I : mI} {L : mL} {o : Nat} {a1 : Int32} {a2 : Int32} {a3 : Int32} {post : Int32 → Prop} (ho : isX3 K R o) (hw : w_X3_nextStep I o a1 a2 a3 post) : Met l yX3_nextStep (.code yX3_nextStep cX3_nextStep 5 (some .int) :: gw) ({ frames := 1, cells := 0, slots := 0, locals := 40 } : Room) (PreM D cA Z bs (n, K, R, I, L) [.ref (bs + o), .int a1, .int a2, .int a3]) (QI D cA bs (fun r u => u = (n, K, R, I, L) ∧ post r)) 0 0 (Ab bs) := by
  refine m_met (by decide) (Nat.le_of_ble_eq_true rfl) (fun p e s m below meth c ls E hr hlk hM hS hl => ?_)
  have E : Ev p s m _ c cX3_nextStep 5 RX3 D cA Z bs := E
  have hl : lv_has ls 5 [(0, .ref (bs + o)), (1, .int a1), (2, .int a2), (3, .int a3)] := hl
  have hx := E.1.1
  have hb := E.1.2.1
  generalize hHe : s.heap = H at hM ⊢
  have hS : va_S (Ab bs) s.heap H [] := by rw [← hHe]; exact va_S.rf
  clear hHe
  refine lv_aload_n hx hb dX3_nextStep_0 rfl (lv_at hl 0 rfl) ?_
  refine lv_iload_n hx hb dX3_nextStep_1 rfl (lv_at hl 1 rfl) ?_
  refine lv_iload_n hx hb dX3_nextStep_2 rfl (lv_at hl 3 rfl) ?_
  refine m_ci (m_runV E hM hS cs_X3_89 ho.1 (by decide) rfl rfl (c_X3_goalOf ho hw) rfl rfl ⟨Nat.le_of_ble_eq_true rfl, Nat.le_of_ble_eq_true rfl⟩ rfl hl.1 rfl (Nat.le_of_ble_eq_true rfl) dX3_nextStep_3 ⟨Nat.le_of_ble_eq_true rfl, Nat.le_of_ble_eq_true rfl⟩) hS (fun r1 u H locs hp hM hS => ?_)
  obtain ⟨rfl, hw⟩ := hp
  refine lv_istore (lv' := [(4, .int r1), (0, .ref (bs + o)), (1, .int a1), (2, .int a2), (3, .int a3)]) hx hb dX3_nextStep_6 hl (by decide) rfl (fun ls hl => ?_)
  refine lv_iload hx hb dX3_nextStep_8 (lv_at hl 0 rfl) ?_
  refine lv_iload_n hx hb dX3_nextStep_10 rfl (lv_at hl 3 rfl) ?_
  refine lv_icmp_le (tgt := 30) hx hb dX3_nextStep_11 (by decide) (fun cq => ?_) (fun cq => ?_)
  · have hw := hw.1 cq
    refine lv_iload hx hb dX3_nextStep_30 (lv_at hl 0 rfl) ?_
    refine lv_iload_n hx hb dX3_nextStep_32 rfl (lv_at hl 3 rfl) ?_
    refine lv_aload_n hx hb dX3_nextStep_33 rfl (lv_at hl 1 rfl) ?_
    refine m_getr E hM fs_X3_27 ho.1 (isO_at ho 5 rfl).1 dX3_nextStep_34 ?_
    refine lv_iload_n hx hb dX3_nextStep_37 rfl (lv_at hl 2 rfl) ?_
    obtain ⟨hv, hw⟩ := hw
    refine m_iald E hM (isO_at ho 5 rfl).2 hv dX3_nextStep_38 ?_
    refine lv_isub hx hb dX3_nextStep_39 ?_
    refine m_max E ml_X3_79 hl.1 (Nat.le_of_ble_eq_true rfl) (Nat.le_of_ble_eq_true rfl) (Nat.le_of_ble_eq_true rfl) (Nat.le_of_ble_eq_true rfl) dX3_nextStep_40 ?_
    exact m_reti hx hb hr hlk hM hS ⟨rfl, hw⟩ dX3_nextStep_43
  · have hw := hw.2 cq
    refine lv_iload hx hb dX3_nextStep_14 (lv_at hl 0 rfl) ?_
    refine lv_iload_n hx hb dX3_nextStep_16 rfl (lv_at hl 3 rfl) ?_
    refine lv_aload_n hx hb dX3_nextStep_17 rfl (lv_at hl 1 rfl) ?_
    refine m_getr E hM fs_X3_27 ho.1 (isO_at ho 5 rfl).1 dX3_nextStep_18 ?_
    refine lv_iload_n hx hb dX3_nextStep_21 rfl (lv_at hl 2 rfl) ?_
    obtain ⟨hv, hw⟩ := hw
    refine m_iald E hM (isO_at ho 5 rfl).2 hv dX3_nextStep_22 ?_
    refine lv_iadd hx hb dX3_nextStep_23 ?_
    refine m_min E ml_X3_92 hl.1 (Nat.le_of_ble_eq_true rfl) (Nat.le_of_ble_eq_true rfl) (Nat.le_of_ble_eq_true rfl) (Nat.le_of_ble_eq_true rfl) dX3_nextStep_24 ?_
    refine lv_goto (tgt := 43) hx hb dX3_nextStep_27 (by decide) ?_
    exact m_reti hx hb hr hlk hM hS ⟨rfl, hw⟩ dX3_nextStep_43
