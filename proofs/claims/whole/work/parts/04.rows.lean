/-! rows over the memory: a row an instruction that reads or writes it -/
def Ev (p : Program) (s : State) (m : MethodId) (args : Array Value) (c : Code) (cc : ByteArray) (nL : Nat) (own : String) (D : va_G) (cA : Nat → ClassId) (Z : mZ) (bs : Ad) : Prop :=
  CallFix p m c cc nL s args gw own ∧ Cx D cA Z bs s
/-- field k of class ci, read through own's link idx; b: an int -/
def FS (own : String) (idx ci k : Nat) (b : Bool) : Prop := ∃ (C : String) (T : u_T) (N : Nat), cls13[ci]? = some (C, T, N) ∧ k < N ∧ (∀ w ∈ u_ws C T N, w ∈ gw) ∧ Cond.fieldLink own idx C (T k).2.1 (T k).2.2.1 ∈ gw ∧ (T k).1 = C ∧ (mty ci)[k]? = some b ∧ ci < 13
/-- the same, to be written: its type t, fin: final -/
def FP (own : String) (idx ci k : Nat) (b fin : Bool) (t : FieldType) : Prop := ∃ (C : String) (T : u_T) (N : Nat) (ty0 : Nat → FieldType), cls13[ci]? = some (C, T, N) ∧ k < N ∧ (∀ w ∈ u_ws C T N, w ∈ gw) ∧ Cond.fieldLink own idx C (T k).2.1 (T k).2.2.1 ∈ gw ∧ (T k).1 = C ∧ (mty ci)[k]? = some b ∧ ci < 13 ∧
  (∀ k, k < N → parseFieldDescriptor (T k).2.2.1 = some (ty0 k)) ∧ (∀ a, a < N → ∀ b, b < N → a ≠ b → (T a).2.1 ≠ (T b).2.1) ∧ (T k).2.2.2 = fin ∧ parseFieldDescriptor (T k).2.2.1 = some t
section MR
variable {p : Program} {l : Launch} {e : Env} {RM : Room} {s : State} {m : MethodId} {args : Array Value} {below : List Frame} {meth : Method} {c : Code} {H H0 : Heap} {locs : List Loc} {cells slots : Nat} {Q : State → Prop} {cc : ByteArray} {pc : Nat} {ls : Array Slot} {rest : List Value} {D : va_G} {cA : Nat → ClassId} {Z : mZ} {bs : Ad} {nL : Nat} {own : String} {n : Nat} {K : mK} {R : mR} {I : mI} {L : mL}
theorem m_geti (E : Ev p s m args c cc nL own D cA Z bs) (hM : mm D cA bs (n, K, R, I, L) H) {idx ci k o : Nat} (hF : FS own idx ci k true) (ho : (K o).1 = ci) (hdg : decode cc pc = .ok (.getfield idx, 3))
    (kk : W p l e RM s m args below meth c H locs cells slots Q (F0 m (pc + 3) ls (.int (I o k) :: rest))) : W p l e RM s m args below meth c H locs cells slots Q (F0 m pc ls (.ref (ad bs o) :: rest)) := by
  obtain ⟨C, T, N, hc, hk, hin, hlk, hdc, hty, hci⟩ := hF
  obtain ⟨⟨hx, hb, hml, hown, hts⟩, hK, -⟩ := E
  have hlt : (K o).1 ≠ 99 := by rw [ho]; omega
  refine va_get (v := .int (I o k)) hx hb hts hin hown hK (mm_P hM hlt (mcell_o _ _ _ _ _ _ ho hci)) 0 rfl hc k hk (hts _ hlk) (fun x hx => by rw [hdc] at hx; exact hx) ?_ hdg kk
  rw [mfl_get, hty]; simp
theorem m_getr (E : Ev p s m args c cc nL own D cA Z bs) (hM : mm D cA bs (n, K, R, I, L) H) {idx ci k o : Nat} (hF : FS own idx ci k false) (ho : (K o).1 = ci) {a : Nat} (hR : R o k = some a) (hdg : decode cc pc = .ok (.getfield idx, 3))
    (kk : W p l e RM s m args below meth c H locs cells slots Q (F0 m (pc + 3) ls (.ref (ad bs a) :: rest))) : W p l e RM s m args below meth c H locs cells slots Q (F0 m pc ls (.ref (ad bs o) :: rest)) := by
  obtain ⟨C, T, N, hc, hk, hin, hlk, hdc, hty, hci⟩ := hF
  obtain ⟨⟨hx, hb, hml, hown, hts⟩, hK, -⟩ := E
  have hlt : (K o).1 ≠ 99 := by rw [ho]; omega
  refine va_get (v := .ref (ad bs a)) hx hb hts hin hown hK (mm_P hM hlt (mcell_o _ _ _ _ _ _ ho hci)) 0 rfl hc k hk (hts _ hlk) (fun x hx => by rw [hdc] at hx; exact hx) ?_ hdg kk
  rw [mfl_get, hty]; simp [mrf, va_rf, hR]
theorem mm_set {D : va_G} {cA : Nat → ClassId} {bs : Ad} {n : Nat} {K : mK} {R R' : mR} {I I' : mI} {L L' : mL} {H H1 : Heap} {o : Nat} {x : va_E} (hM : mm D cA bs (n, K, R, I, L) H) (hk : (K o).1 ≠ 99) (hz : H1.size = H.size) (oq : ∀ q : Nat, q ≠ ad bs o → H1[q]? = H[q]?) (hA : va_at D cls13 (ad bs o, x) H1) (hx : mcell cA bs K R' I' L' o = x) (hn : ∀ d, d ≠ o → mcell cA bs K R' I' L' d = mcell cA bs K R I L d) (hI : ∀ d, d ≠ o → I' d = I d) (hL : ∀ d, d ≠ o → L' d = L d) (hR : ∀ c k a, lve K c → rk (K c).1 k → R' c k = some a → lve K a ∨ hid bs c k a) : mm D cA bs (n, K, R', I', L') H1 := by
  obtain ⟨⟨h1, h2⟩, h3, h4, h5, h6, h7, h8⟩ := hM
  refine ⟨⟨by rw [hz]; exact h1, fun c hc => by rw [hz]; exact h2 c hc⟩, h3, fun c hc => ⟨(h4 c hc).1, ?_⟩, h5, hR, fun a ha => ?_, h8⟩
  · by_cases hco : c = o
    · subst hco; show va_at D cls13 (ad bs c, mcell cA bs K R' I' L' c) H1; rw [hx]; exact hA
    · show va_at D cls13 (ad bs c, mcell cA bs K R' I' L' c) H1
      rw [hn c hco]
      exact (h4 c hc).2.kept (oq _ (fun e => hco (h5 c o hc hk e)))
  · have hao : a ≠ o := fun e => (h7 a ha).2.1 (by rw [e]; exact hk)
    obtain ⟨q1, q2, q3, q4⟩ := h7 a ha
    exact ⟨q1, q2, (hI a hao).trans q3, (hL a hao).trans q4⟩
theorem up2_d {α : Type} {f : Nat → Nat → α} {o k : Nat} {v : α} (d : Nat) (h : d ≠ o) : up2 f o k v d = f d := up2_n _ _ _ h
theorem mcell_ni {cA : Nat → ClassId} {bs : Ad} {K : mK} {R : mR} {I : mI} {L : mL} {o k : Nat} {v : Int32} (d : Nat) (h : d ≠ o) : mcell cA bs K R (up2 I o k v) L d = mcell cA bs K R I L d := by simp [mcell, up2, h]
theorem mcell_nl {cA : Nat → ClassId} {bs : Ad} {K : mK} {R : mR} {I : mI} {L : mL} {o k : Nat} {v : Int64} (d : Nat) (h : d ≠ o) : mcell cA bs K R I (up2 L o k v) d = mcell cA bs K R I L d := by simp [mcell, up2, h]
theorem mcell_nr {cA : Nat → ClassId} {bs : Ad} {K : mK} {R : mR} {I : mI} {L : mL} {o k : Nat} {v : Option Nat} (d : Nat) (h : d ≠ o) : mcell cA bs K (up2 R o k v) I L d = mcell cA bs K R I L d := by simp [mcell, up2, h]
theorem upd_up1 (f : Nat → Int32) (k : Nat) (v : Int32) : upd f k v = up1 f k v := by funext j; simp [upd, up1]
theorem updL_up1 (f : Nat → Int64) (k : Nat) (v : Int64) : vp_updL f k v = up1 f k v := by funext j; simp [vp_updL, up1]
theorem m_puti (E : Ev p s m args c cc nL own D cA Z bs) (hM : mm D cA bs (n, K, R, I, L) H) (hS : va_S (Ab bs) H0 H locs) {idx ci k o : Nat} {t : FieldType} {v : Int32} (hF : FP own idx ci k true false t) (ho : (K o).1 = ci) (hn : narrow t (.int v) = .int v) (hf : fits t (.int v) = true) (hdg : decode cc pc = .ok (.putfield idx, 3))
    (kk : ∀ (I1 : mI) (H1 : Heap) (locs1 : List Loc), I1 = up2 I o k v → mm D cA bs (n, K, R, I1, L) H1 → va_S (Ab bs) H0 H1 locs1 → W p l e RM s m args below meth c H1 locs1 cells slots Q (F0 m (pc + 3) ls rest)) : W p l e RM s m args below meth c H locs cells slots Q (F0 m pc ls (.int v :: .ref (ad bs o) :: rest)) := by
  obtain ⟨C, T, N, ty0, hc, hk, hin, hlk, hdc, hty, hci, hpt, hnm, hfin, ht⟩ := hF
  obtain ⟨⟨hx, hb, hml, hown, hts⟩, hK, -⟩ := E
  have hlt : (K o).1 ≠ 99 := by rw [ho]; omega
  have he : va_P D cls13 [(ad bs o, .inr (ci, mfl bs (R o) (I o) 0 (mty ci)))] H := mm_P hM hlt (mcell_o _ _ _ _ _ _ ho hci)
  have hap := va_apart (own := own) hts hin ty0 hpt hnm hK hc
  obtain ⟨r, h1, cell, q1, q2, q3, q4⟩ := he 0 _ rfl
  have hr : r = (C, T, N) := Option.some.inj (h1.symm.trans hc)
  subst hr
  obtain ⟨hSl, hfc, kC, hkC, hkind⟩ := hK.1 ci _ hc
  obtain ⟨cf, kf, fi, f, hi, hsl⟩ := hSl k hk
  have hlay := hts _ (hin _ (u_in_lay hk))
  unfold u_lay at hlay
  rw [if_neg (by rw [hfin]; decide)] at hlay
  have hst := (u_facts hfc hkC (u_lays hts hin hk) hi).1
  have h6 := u_store hfc hkC hkind hlay hi ht hn hf
  have hdc' : s.fieldFound? C (T k).2.1 (T k).2.2.1 = some (cf, kf, fi, f) := by rw [hdc] at hi; exact hi
  refine W.putK hx hb (f := f) ⟨hown, hts _ hlk, ⟨_, _, _, hdc'⟩, hst⟩ (by rw [q2]; exact h6) q1 q3 (by rw [hsl]; exact k2_hasslot (q4 k hk)) rfl rfl hdg fun H' e1 e2 e3 => ?_
  rw [hsl] at e1 ⊢
  have hl : k < (mfl bs (R o) (I o) 0 (mty ci)).length := by rw [mfl_len]; exact (List.getElem?_eq_some_iff.mp hty).1
  have hP1 : va_at D cls13 (ad bs o, (.inr (ci, (mfl bs (R o) (I o) 0 (mty ci)).set k (.int v)) : va_E)) H' := ⟨_, hc, t_OB.to (V := updV (vp_V (mfl bs (R o) (I o) 0 (mty ci))) k (.int v)) ⟨_, e1, q2, q3, t_set q4 hap hk (.int v)⟩ (fun j _ => vp_updV_set hl (.int v) j)⟩
  refine kk _ H' _ rfl (mm_set hM hlt e2 e3 hP1 ?_ mcell_ni up2_d (fun _ _ => rfl) hM.2.2.2.2.1) (hS.put e2 e3 (mm_ab hM hlt))
  rw [mcell_o _ _ _ _ _ _ ho hci, up2_s, mfl_set_i _ _ _ _ _ _ hty]
theorem m_iald (E : Ev p s m args c cc nL own D cA Z bs) (hM : mm D cA bs (n, K, R, I, L) H) {a N : Nat} {i : Int32} (ha : K a = (14, N)) (hin : vp_in i N) (hdg : decode cc pc = .ok (.iaload, 1))
    (kk : W p l e RM s m args below meth c H locs cells slots Q (F0 m (pc + 1) ls (.int (I a i.toNatClampNeg) :: rest))) : W p l e RM s m args below meth c H locs cells slots Q (F0 m pc ls (.int i :: .ref (ad bs a) :: rest)) := by
  obtain ⟨⟨hx, hb, hml, hown, hts⟩, hK, -⟩ := E
  have hlt : (K a).1 ≠ 99 := by rw [ha]; simp
  exact va_iald hx hb hK (mm_P hM hlt (mcell_i _ _ _ _ _ _ ha (by simp))) 0 1 rfl rfl hin hdg kk
theorem m_bald (E : Ev p s m args c cc nL own D cA Z bs) (hM : mm D cA bs (n, K, R, I, L) H) {a N : Nat} {i : Int32} (ha : K a = (13, N)) (hin : vp_in i N) (hdg : decode cc pc = .ok (.baload, 1))
    (kk : W p l e RM s m args below meth c H locs cells slots Q (F0 m (pc + 1) ls (.int (I a i.toNatClampNeg) :: rest))) : W p l e RM s m args below meth c H locs cells slots Q (F0 m pc ls (.int i :: .ref (ad bs a) :: rest)) := by
  obtain ⟨⟨hx, hb, hml, hown, hts⟩, hK, -⟩ := E
  have hlt : (K a).1 ≠ 99 := by rw [ha]; simp
  exact va_bald hx hb hK (mm_P hM hlt (mcell_i _ _ _ _ _ _ ha (by simp))) 0 0 rfl rfl hin hdg kk
theorem m_zald (E : Ev p s m args c cc nL own D cA Z bs) (hM : mm D cA bs (n, K, R, I, L) H) {a N : Nat} {i : Int32} (ha : K a = (16, N)) (hin : vp_in i N) (hdg : decode cc pc = .ok (.baload, 1))
    (kk : W p l e RM s m args below meth c H locs cells slots Q (F0 m (pc + 1) ls (.int (I a i.toNatClampNeg) :: rest))) : W p l e RM s m args below meth c H locs cells slots Q (F0 m pc ls (.int i :: .ref (ad bs a) :: rest)) := by
  obtain ⟨⟨hx, hb, hml, hown, hts⟩, hK, -⟩ := E
  have hlt : (K a).1 ≠ 99 := by rw [ha]; simp
  exact va_zald hx hb hK (mm_P hM hlt (mcell_i _ _ _ _ _ _ ha (by simp))) 0 3 rfl rfl hin hdg kk
theorem m_lald (E : Ev p s m args c cc nL own D cA Z bs) (hM : mm D cA bs (n, K, R, I, L) H) {a N : Nat} {i : Int32} (ha : K a = (15, N)) (hin : vp_in i N) (hdg : decode cc pc = .ok (.laload, 1))
    (kk : W p l e RM s m args below meth c H locs cells slots Q (F0 m (pc + 1) ls (.long (L a i.toNatClampNeg) :: rest))) : W p l e RM s m args below meth c H locs cells slots Q (F0 m pc ls (.int i :: .ref (ad bs a) :: rest)) := by
  obtain ⟨⟨hx, hb, hml, hown, hts⟩, hK, -⟩ := E
  have hlt : (K a).1 ≠ 99 := by rw [ha]; simp
  exact va_lald hx hb hK (mm_P hM hlt (mcell_l _ _ _ _ _ _ ha)) 0 2 rfl rfl hin hdg kk
theorem m_alen (E : Ev p s m args c cc nL own D cA Z bs) (hM : mm D cA bs (n, K, R, I, L) H) {a N k : Nat} (ha : K a = (k, N)) (hk : k = 13 ∨ k = 14 ∨ k = 16) (hdg : decode cc pc = .ok (.arraylength, 1))
    (kk : W p l e RM s m args below meth c H locs cells slots Q (F0 m (pc + 1) ls (.int (Int32.ofNat N) :: rest))) : W p l e RM s m args below meth c H locs cells slots Q (F0 m pc ls (.ref (ad bs a) :: rest)) := by
  obtain ⟨⟨hx, hb, hml, hown, hts⟩, hK, -⟩ := E
  have hlt : (K a).1 ≠ 99 := by rw [ha]; show k ≠ 99; omega
  have he : va_P D cls13 [(ad bs a, .inl (cA k, N, .inl (I a)))] H := mm_P hM hlt (mcell_i _ _ _ _ _ _ ha hk)
  rcases hk with rfl | rfl | rfl
  · exact va_alen hx hb hK he 0 0 rfl rfl rfl hdg kk
  · exact va_alen hx hb hK he 0 1 rfl rfl rfl hdg kk
  · exact va_alen hx hb hK he 0 3 rfl rfl rfl hdg kk
theorem m_iast (E : Ev p s m args c cc nL own D cA Z bs) (hM : mm D cA bs (n, K, R, I, L) H) (hS : va_S (Ab bs) H0 H locs) {a N : Nat} {i x : Int32} (ha : K a = (14, N)) (hin : vp_in i N) (hdg : decode cc pc = .ok (.iastore, 1))
    (kk : ∀ (I1 : mI) (H1 : Heap) (locs1 : List Loc), I1 = up2 I a i.toNatClampNeg x → mm D cA bs (n, K, R, I1, L) H1 → va_S (Ab bs) H0 H1 locs1 → W p l e RM s m args below meth c H1 locs1 cells slots Q (F0 m (pc + 1) ls rest)) : W p l e RM s m args below meth c H locs cells slots Q (F0 m pc ls (.int x :: .int i :: .ref (ad bs a) :: rest)) := by
  obtain ⟨⟨hx, hb, hml, hown, hts⟩, hK, -⟩ := E
  have hlt : (K a).1 ≠ 99 := by rw [ha]; simp
  have he : va_P D cls13 [(ad bs a, .inl (cA 14, N, .inl (I a)))] H := mm_P hM hlt (mcell_i _ _ _ _ _ _ ha (by simp))
  refine W.iast hx hb (he 0 _ rfl) ((hK.2 1 _ rfl).1 N (fun j => .int (I a j))) (fun q => by cases q) (by show ¬ (i < 0 ∨ (arrV _ _ _).slots.size ≤ _); rw [arrV_size]; exact hin) rfl rfl hdg fun H1 e z oq => ?_
  have hP1 : va_at D cls13 (ad bs a, (.inl (cA 14, N, .inl (up1 (I a) i.toNatClampNeg x)) : va_E)) H1 := (by
    show H1[ad bs a]? = some (vp_cell _ _)
    rw [e, vp_cell_i, vp_cell_i, arrV_store]
    congr 2
    funext q
    by_cases hq : q = i.toNatClampNeg
    · subst hq; simp [updV, up1]
    · simp [updV, up1, hq])
  exact kk _ H1 _ rfl (mm_set hM hlt z oq hP1 (by rw [mcell_i _ _ _ _ _ _ ha (by simp), up2_s]) mcell_ni up2_d (fun _ _ => rfl) hM.2.2.2.2.1) (hS.put z oq (mm_ab hM hlt))
theorem m_bast (E : Ev p s m args c cc nL own D cA Z bs) (hM : mm D cA bs (n, K, R, I, L) H) (hS : va_S (Ab bs) H0 H locs) {a N : Nat} {i x : Int32} (ha : K a = (13, N)) (hin : vp_in i N) (hdg : decode cc pc = .ok (.bastore, 1))
    (kk : ∀ (I1 : mI) (H1 : Heap) (locs1 : List Loc), I1 = up2 I a i.toNatClampNeg (x.toInt8.toInt32) → mm D cA bs (n, K, R, I1, L) H1 → va_S (Ab bs) H0 H1 locs1 → W p l e RM s m args below meth c H1 locs1 cells slots Q (F0 m (pc + 1) ls rest)) : W p l e RM s m args below meth c H locs cells slots Q (F0 m pc ls (.int x :: .int i :: .ref (ad bs a) :: rest)) := by
  obtain ⟨⟨hx, hb, hml, hown, hts⟩, hK, -⟩ := E
  have hlt : (K a).1 ≠ 99 := by rw [ha]; simp
  have he : va_P D cls13 [(ad bs a, .inl (cA 13, N, .inl (I a)))] H := mm_P hM hlt (mcell_i _ _ _ _ _ _ ha (by simp))
  refine W.bast hx hb (he 0 _ rfl) ((hK.2 0 _ rfl).1 N (fun j => .int (I a j))) (fun q => by cases q) (by show ¬ (i < 0 ∨ (arrV _ _ _).slots.size ≤ _); rw [arrV_size]; exact hin) rfl rfl hdg fun H1 e z oq => ?_
  have hP1 : va_at D cls13 (ad bs a, (.inl (cA 13, N, .inl (up1 (I a) i.toNatClampNeg (x.toInt8.toInt32))) : va_E)) H1 := (by
    show H1[ad bs a]? = some (vp_cell _ _)
    rw [e, vp_cell_i, vp_cell_i, arrV_store]
    congr 2
    funext q
    by_cases hq : q = i.toNatClampNeg
    · subst hq; simp [updV, up1, narrow]
    · simp [updV, up1, hq])
  exact kk _ H1 _ rfl (mm_set hM hlt z oq hP1 (by rw [mcell_i _ _ _ _ _ _ ha (by simp), up2_s]) mcell_ni up2_d (fun _ _ => rfl) hM.2.2.2.2.1) (hS.put z oq (mm_ab hM hlt))
theorem m_zast (E : Ev p s m args c cc nL own D cA Z bs) (hM : mm D cA bs (n, K, R, I, L) H) (hS : va_S (Ab bs) H0 H locs) {a N : Nat} {i : Int32} (ha : K a = (16, N)) (hin : vp_in i N) (hdg : decode cc pc = .ok (.bastore, 1))
    (kk : ∀ (I1 : mI) (H1 : Heap) (locs1 : List Loc), I1 = up2 I a i.toNatClampNeg 1 → mm D cA bs (n, K, R, I1, L) H1 → va_S (Ab bs) H0 H1 locs1 → W p l e RM s m args below meth c H1 locs1 cells slots Q (F0 m (pc + 1) ls rest)) : W p l e RM s m args below meth c H locs cells slots Q (F0 m pc ls (.int 1 :: .int i :: .ref (ad bs a) :: rest)) := by
  obtain ⟨⟨hx, hb, hml, hown, hts⟩, hK, -⟩ := E
  have hlt : (K a).1 ≠ 99 := by rw [ha]; simp
  have he : va_P D cls13 [(ad bs a, .inl (cA 16, N, .inl (I a)))] H := mm_P hM hlt (mcell_i _ _ _ _ _ _ ha (by simp))
  refine W.zast hx hb (he 0 _ rfl) ((hK.2 3 _ rfl).1 N (fun j => .int (I a j))) (fun q => by cases q) (by show ¬ (i < 0 ∨ (arrV _ _ _).slots.size ≤ _); rw [arrV_size]; exact hin) rfl rfl hdg fun H1 e z oq => ?_
  have hP1 : va_at D cls13 (ad bs a, (.inl (cA 16, N, .inl (up1 (I a) i.toNatClampNeg 1)) : va_E)) H1 := (by
    show H1[ad bs a]? = some (vp_cell _ _)
    rw [e, vp_cell_i, vp_cell_i, arrV_store]
    congr 2
    funext q
    by_cases hq : q = i.toNatClampNeg
    · subst hq; simp [updV, up1, narrow]; try rfl
    · simp [updV, up1, hq])
  exact kk _ H1 _ rfl (mm_set hM hlt z oq hP1 (by rw [mcell_i _ _ _ _ _ _ ha (by simp), up2_s]) mcell_ni up2_d (fun _ _ => rfl) hM.2.2.2.2.1) (hS.put z oq (mm_ab hM hlt))
theorem m_last (E : Ev p s m args c cc nL own D cA Z bs) (hM : mm D cA bs (n, K, R, I, L) H) (hS : va_S (Ab bs) H0 H locs) {a N : Nat} {i : Int32} {x : Int64} (ha : K a = (15, N)) (hin : vp_in i N) (hdg : decode cc pc = .ok (.lastore, 1))
    (kk : ∀ (L1 : mL) (H1 : Heap) (locs1 : List Loc), L1 = up2 L a i.toNatClampNeg x → mm D cA bs (n, K, R, I, L1) H1 → va_S (Ab bs) H0 H1 locs1 → W p l e RM s m args below meth c H1 locs1 cells slots Q (F0 m (pc + 1) ls rest)) : W p l e RM s m args below meth c H locs cells slots Q (F0 m pc ls (.long x :: .int i :: .ref (ad bs a) :: rest)) := by
  obtain ⟨⟨hx, hb, hml, hown, hts⟩, hK, -⟩ := E
  have hlt : (K a).1 ≠ 99 := by rw [ha]; simp
  have he : va_P D cls13 [(ad bs a, .inl (cA 15, N, .inr (.inl (L a))))] H := mm_P hM hlt (mcell_l _ _ _ _ _ _ ha)
  refine W.last hx hb (he 0 _ rfl) ((hK.2 2 _ rfl).1 N (fun j => .long (L a j))) (fun q => by cases q) (by show ¬ (i < 0 ∨ (arrV _ _ _).slots.size ≤ _); rw [arrV_size]; exact hin) rfl rfl hdg fun H1 e z oq => ?_
  have hP1 : va_at D cls13 (ad bs a, (.inl (cA 15, N, .inr (.inl (up1 (L a) i.toNatClampNeg x))) : va_E)) H1 := (by
    show H1[ad bs a]? = some (vp_cell _ _)
    rw [e, vp_cell_l, vp_cell_l, arrV_store]
    congr 2
    funext q
    by_cases hq : q = i.toNatClampNeg
    · subst hq; simp [updV, up1]
    · simp [updV, up1, hq])
  exact kk _ H1 _ rfl (mm_set hM hlt z oq hP1 (by rw [mcell_l _ _ _ _ _ _ ha, up2_s]) mcell_nl (fun _ _ => rfl) up2_d hM.2.2.2.2.1) (hS.put z oq (mm_ab hM hlt))
theorem m_aald (E : Ev p s m args c cc nL own D cA Z bs) (hM : mm D cA bs (n, K, R, I, L) H) {a N k : Nat} {i : Int32} (ha : K a = (k, N)) (hk : k = 17 ∨ k = 18 ∨ k = 19 ∨ k = 20) (hin : vp_in i N) (hdg : decode cc pc = .ok (.aaload, 1))
    (kk : W p l e RM s m args below meth c H locs cells slots Q (F0 m (pc + 1) ls (va_rf (ent bs k (R a i.toNatClampNeg)) :: rest))) : W p l e RM s m args below meth c H locs cells slots Q (F0 m pc ls (.int i :: .ref (ad bs a) :: rest)) := by
  obtain ⟨⟨hx, hb, hml, hown, hts⟩, hK, -⟩ := E
  have hlt : (K a).1 ≠ 99 := by rw [ha]; show k ≠ 99; omega
  have he := mm_P hM hlt (mcell_q _ _ _ _ _ _ ha (by omega))
  rcases hk with rfl | rfl | rfl | rfl
  · exact va_aldq hx hb hK he 0 4 rfl rfl hin hdg kk
  · exact va_aldq hx hb hK he 0 5 rfl rfl hin hdg kk
  · exact va_aldq hx hb hK he 0 6 rfl rfl hin hdg kk
  · exact va_aldq hx hb hK he 0 7 rfl rfl hin hdg kk
end MR
