/-! what is made: objects and arrays; references that are written -/
/-- the cell n is made, of kind and length k -/
def al (K : mK) (R : mR) (I : mI) (L : mL) (n : Nat) (k : Nat × Nat) (K1 : mK) (R1 : mR) (I1 : mI) (L1 : mL) : Prop := K1 = up1 K n k ∧ R1 = up1 R n r0 ∧ I1 = up1 I n i0 ∧ L1 = up1 L n l0
def NW (own : String) (idx ci N : Nat) : Prop := ∃ (C : String) (T : u_T) (ty0 : Nat → FieldType), cls13[ci]? = some (C, T, N) ∧ (∀ w ∈ u_ws C T N, w ∈ gw) ∧ (∀ k, k < N → parseFieldDescriptor (T k).2.2.1 = some (ty0 k)) ∧ Cond.classLink own idx C ∈ gw ∧ Cond.instantiable C N ∈ gw ∧ Cond.initialized C ∈ gw ∧ (∀ k, k < N → defaultValue (ty0 k) = if (mty ci).getD k false = true then .int 0 else .null) ∧ ci < 13 ∧ (mty ci).length = N
theorem mm_push {D : va_G} {cA : Nat → ClassId} {bs : Ad} {n : Nat} {K K1 : mK} {R R1 : mR} {I I1 : mI} {L L1 : mL} {H H1 : Heap} (hM : mm D cA bs (n, K, R, I, L) H) (hz : H1.size = H.size + 1) (ho : ∀ q, q < H.size → H1[q]? = H[q]?) {kn : Nat × Nat} (hkn : kn.1 ≠ 99) (ha : al K R I L n kn K1 R1 I1 L1) (he : va_at D cls13 (ad bs n, mcell cA bs K1 R1 I1 L1 n) H1) : mm D cA bs (n + 1, K1, R1, I1, L1) H1 := by
  obtain ⟨rfl, rfl, rfl, rfl⟩ := ha
  obtain ⟨⟨h1, h2⟩, h3, h4, h5, h6, h7, h8⟩ := hM
  have hn99 : (K n).1 = 99 := h3 n (Nat.le_refl _)
  have hsz : ad bs n = H.size := by
    have := h2 n (Nat.le_refl _)
    show ad bs n = H.size
    rw [this]; show H.size + (n - n) = H.size; omega
  have up : ∀ c, lve (up1 K n kn) c → c = n ∨ lve K c := fun c hc => by
    by_cases e : c = n
    · exact Or.inl e
    · refine Or.inr ?_
      unfold lve at hc ⊢
      rw [up1_n _ _ e] at hc; exact hc
  have dn : ∀ c, lve K c → c ≠ n := fun c hc e => hc (by rw [e]; exact hn99)
  have dn2 : ∀ c, lve K c → lve (up1 K n kn) c := fun c hc => by
    have := dn c hc
    unfold lve
    rw [up1_n _ _ this]; exact hc
  have lt : ∀ c, lve K c → ad bs c < H.size := fun c hc => (h4 c hc).2.lt
  refine ⟨⟨by omega, fun c hc => ?_⟩, fun c hc => ?_, fun c hc => ?_, fun c d hc hd e => ?_, fun c k a hc hrk hR => ?_, fun a ha => ?_, h8⟩
  · have hc' : n + 1 ≤ c := hc
    have := h2 c (by show n ≤ c; omega)
    rw [this, hz]; show H.size + (c - n) = H.size + 1 + (c - (n + 1)); omega
  · have hc' : n + 1 ≤ c := hc
    show (up1 K n kn c).1 = 99
    rw [up1_n _ _ (by omega)]
    exact h3 c (by show n ≤ c; omega)
  · show Ab bs (ad bs c) ∧ va_at D cls13 (ad bs c, mcell cA bs (up1 K n kn) (up1 R n r0) (up1 I n i0) (up1 L n l0) c) H1
    rcases up c hc with rfl | hc'
    · exact ⟨by rw [hsz]; exact h1, he⟩
    · have hne := dn c hc'
      have e3 : mcell cA bs (up1 K n kn) (up1 R n r0) (up1 I n i0) (up1 L n l0) c = mcell cA bs K R I L c := by simp [mcell, up1_n _ _ hne]
      rw [e3]
      exact ⟨(h4 c hc').1, (h4 c hc').2.kept (ho _ (lt c hc'))⟩
  · rcases up c hc with rfl | hc' <;> rcases up d hd with rfl | hd'
    · rfl
    · have := lt d hd'; rw [← e, hsz] at this; omega
    · have := lt c hc'; rw [e, hsz] at this; omega
    · exact h5 c d hc' hd' e
  · show lve (up1 K n kn) a ∨ hid bs c k a
    have hR' : up1 R n r0 c k = some a := hR
    have hrk' : rk (up1 K n kn c).1 k := hrk
    rcases up c hc with rfl | hc'
    · rw [up1_s] at hR'; cases hR'
    · have hne := dn c hc'
      rw [up1_n _ _ hne] at hR' hrk'
      exact (h6 c k a hc' hrk' hR').imp (dn2 a) id
  · obtain ⟨⟨q1, q2, q3⟩, q4, q5, q6⟩ := h7 a ha
    have q3' : 128 ≤ n := q3
    refine ⟨⟨q1, q2, by show 128 ≤ n + 1; omega⟩, fun q => q4 ((up a q).resolve_left (by omega)), ?_, ?_⟩
    · show up1 I n i0 a = i0
      rw [up1_n _ _ (by omega)]; exact q5
    · show up1 L n l0 a = l0
      rw [up1_n _ _ (by omega)]; exact q6
theorem mm_n {D : va_G} {cA : Nat → ClassId} {bs : Ad} {n : Nat} {K : mK} {R : mR} {I : mI} {L : mL} {H : Heap} (hM : mm D cA bs (n, K, R, I, L) H) : H.size = ad bs n := by
  have := hM.1.2 n (Nat.le_refl _)
  have h2 : ad bs n = H.size + (n - n) := this
  omega
section AL
variable {p : Program} {l : Launch} {e : Env} {RM : Room} {s : State} {m : MethodId} {args : Array Value} {below : List Frame} {meth : Method} {c : Code} {H H0 : Heap} {locs : List Loc} {cells slots : Nat} {Q : State → Prop} {cc : ByteArray} {pc : Nat} {ls : Array Slot} {rest : List Value} {D : va_G} {cA : Nat → ClassId} {Z : mZ} {bs : Ad} {nL idx : Nat} {own : String} {n : Nat} {K : mK} {R : mR} {I : mI} {L : mL}
theorem va_S_push {bs : Ad} {H0 H H1 : Heap} {locs : List Loc} (hS : va_S (Ab bs) H0 H locs) (hz : H1.size = H.size + 1) (ho : ∀ q, q < H.size → H1[q]? = H[q]?) : va_S (Ab bs) H0 H1 locs := ⟨Nat.le_trans hS.1 (by omega), fun x h1 h2 => (ho x (Nat.lt_of_lt_of_le h1 hS.1)).trans (hS.2.1 x h1 h2), hS.2.2⟩
theorem m_new (E : Ev p s m args c cc nL own D cA Z bs) (hM : mm D cA bs (n, K, R, I, L) H) (hS : va_S (Ab bs) H0 H locs) {ci N : Nat} (hN : NW own idx ci N) (hc : cells + 1 ≤ RM.cells) (hs : slots + N ≤ RM.slots) (hdg : decode cc pc = .ok (.new idx, 3))
    (kk : ∀ (K1 : mK) (R1 : mR) (I1 : mI) (L1 : mL) (H1 : Heap), al K R I L n (ci, N) K1 R1 I1 L1 → mm D cA bs (n + 1, K1, R1, I1, L1) H1 → va_S (Ab bs) H0 H1 locs → W p l e RM s m args below meth c H1 locs (cells + 1) (slots + N) Q (F0 m (pc + 3) ls (.ref (ad bs n) :: rest))) : W p l e RM s m args below meth c H locs cells slots Q (F0 m pc ls rest) := by
  obtain ⟨C, T, ty0, hcl, hin, hpt, hlk, hins, hini, hdf, hci, hlen⟩ := hN
  obtain ⟨⟨hx, hb, hml, hown, hts⟩, hK, -⟩ := E
  have hKn := hK.1 ci _ hcl
  have hsz : H.size = ad bs n := mm_n hM
  refine W.newcK hx hb hown (hts _ hlk) (hts _ hins) (hts _ hini) rfl hdg hc hs hKn.2.1 hsz fun H1 kC hkC e1 z1 o1 => ?_
  refine kk _ _ _ _ H1 ⟨rfl, rfl, rfl, rfl⟩ (mm_push hM (by omega) (fun q hq => o1 q (by omega)) (by show ci ≠ 99; omega) ⟨rfl, rfl, rfl, rfl⟩ ?_) (va_S_push hS (by omega) (fun q hq => o1 q (by omega)))
  rw [mcell_o (ci := ci) cA bs _ _ _ _ (by simp [up1]) hci]
  refine ⟨_, hcl, (u_born ty0 hts hin hKn hkC e1 hpt).to (fun j hj => ?_)⟩
  rw [hdf j hj]
  have hl : j < (mty ci).length := by rw [hlen]; exact hj
  show _ = (mfl bs (up1 R n r0 n) (up1 I n i0 n) 0 (mty ci)).getD j .null
  rw [List.getD_eq_getElem?_getD, List.getD_eq_getElem?_getD, mfl_get, List.getElem?_eq_getElem hl]
  simp [up1, r0, i0, mrf, va_rf]
theorem m_newa (E : Ev p s m args c cc nL own D cA Z bs) (hM : mm D cA bs (n, K, R, I, L) H) (hS : va_S (Ab bs) H0 H locs) {atype : ArrayType} {k t0 : Nat} {ty : FieldType} (hty : newarray.typeOf atype = ty) (hk : (k, ty) = (13, .byte) ∨ (k, ty) = (14, .int) ∨ (k, ty) = (15, .long) ∨ (k, ty) = (16, .boolean)) (harr : Cond.arrayClass ty ∈ gw) (ht0 : (mtys cA)[t0]? = some (cA k, ty)) {x : Int32} {N : Nat} (hx0 : ¬ x < 0) (hN : x.toNatClampNeg = N) (hby : N * 8 ≤ 536870912) (hc : cells + 1 ≤ RM.cells) (hs : slots + N ≤ RM.slots) (hdg : decode cc pc = .ok (.newarray atype, 2))
    (kk : ∀ (K1 : mK) (R1 : mR) (I1 : mI) (L1 : mL) (H1 : Heap), al K R I L n (k, N) K1 R1 I1 L1 → mm D cA bs (n + 1, K1, R1, I1, L1) H1 → va_S (Ab bs) H0 H1 locs → W p l e RM s m args below meth c H1 locs (cells + 1) (slots + N) Q (F0 m (pc + 2) ls (.ref (ad bs n) :: rest))) : W p l e RM s m args below meth c H locs cells slots Q (F0 m pc ls (.int x :: rest)) := by
  obtain ⟨⟨hx, hb, hml, hown, hts⟩, hK, -⟩ := E
  have hsz : H.size = ad bs n := mm_n hM
  subst hty
  refine va_newaK hx hb (hts _ harr) rfl hdg rfl hx0 hN (Nat.le_trans (Nat.mul_le_mul_left N (by rcases hk with h | h | h | h <;> (cases atype <;> first | (simp [newarray.typeOf] at h; done) | decide))) hby) hc hs hsz fun H1 cA' e1 z1 o1 hAr hNm => ?_
  have hcA : cA' = cA k := by
    have h2 := (hK.2 t0 _ ht0).2
    have h3 : s.vm.findClass ("[" ++ (newarray.typeOf atype).toString) = some (cA k) := by
      rcases hk with h | h | h | h <;> (have hq := (Prod.mk.inj h).2; revert h2; rw [hq]; exact fun h2 => h2)
    exact Option.some.inj (hNm.symm.trans h3)
  refine kk _ _ _ _ H1 ⟨rfl, rfl, rfl, rfl⟩ (mm_push hM (by omega) (fun q hq => o1 q (by omega)) (by show k ≠ 99; rcases hk with h | h | h | h <;> (have := (Prod.mk.inj h).1; omega)) ⟨rfl, rfl, rfl, rfl⟩ ?_) (va_S_push hS (by omega) (fun q hq => o1 q (by omega)))
  rw [hcA] at e1
  rcases hk with h | h | h | h
  · obtain ⟨hk1, hq⟩ := Prod.mk.inj h
    subst hk1
    rw [mcell_i (k := 13) (n := N) cA bs _ _ _ _ (by simp [up1]) (by simp)]
    show H1[ad bs n]? = some (vp_cell _ _)
    rw [e1, vp_cell_i, hq]; simp [up1, i0, defaultValue]
  · obtain ⟨hk1, hq⟩ := Prod.mk.inj h
    subst hk1
    rw [mcell_i (k := 14) (n := N) cA bs _ _ _ _ (by simp [up1]) (by simp)]
    show H1[ad bs n]? = some (vp_cell _ _)
    rw [e1, vp_cell_i, hq]; simp [up1, i0, defaultValue]
  · obtain ⟨hk1, hq⟩ := Prod.mk.inj h
    subst hk1
    rw [mcell_l (n := N) cA bs _ _ _ _ (by simp [up1])]
    show H1[ad bs n]? = some (vp_cell _ _)
    rw [e1, vp_cell_l, hq]; simp [up1, l0, defaultValue]
  · obtain ⟨hk1, hq⟩ := Prod.mk.inj h
    subst hk1
    rw [mcell_i (k := 16) (n := N) cA bs _ _ _ _ (by simp [up1]) (by simp)]
    show H1[ad bs n]? = some (vp_cell _ _)
    rw [e1, vp_cell_i, hq]; simp [up1, i0, defaultValue]
theorem m_newq (E : Ev p s m args c cc nL own D cA Z bs) (hM : mm D cA bs (n, K, R, I, L) H) (hS : va_S (Ab bs) H0 H locs) {C : String} {k t0 : Nat} (hk : 17 ≤ k ∧ k ≤ 20) (hcl : Cond.classLink own idx C ∈ gw) (hov : C ∈ aoq) (ht0 : (mtys cA)[t0]? = some (cA k, .object C)) {x : Int32} {N : Nat} (hx0 : ¬ x < 0) (hN : x.toNatClampNeg = N) (hby : N * 4 ≤ 536870912) (hc : cells + 1 ≤ RM.cells) (hs : slots + N ≤ RM.slots) (hdg : decode cc pc = .ok (.anewarray idx, 3))
    (kk : ∀ (K1 : mK) (R1 : mR) (I1 : mI) (L1 : mL) (H1 : Heap), al K R I L n (k, N) K1 R1 I1 L1 → mm D cA bs (n + 1, K1, R1, I1, L1) H1 → va_S (Ab bs) H0 H1 locs → W p l e RM s m args below meth c H1 locs (cells + 1) (slots + N) Q (F0 m (pc + 3) ls (.ref (ad bs n) :: rest))) : W p l e RM s m args below meth c H locs cells slots Q (F0 m pc ls (.int x :: rest)) := by
  obtain ⟨⟨hx, hb, hml, hown, hts⟩, hK, -, hst9⟩ := E
  have hov := hst9.2.2.2.2.2.2.2 C hov
  have hsz : H.size = ad bs n := mm_n hM
  subst hN
  refine W.anew hx hb hown (hts _ hcl) (va_AO.use hov) rfl hdg rfl hx0 hby hc hs fun cA' kA comp f1 f2 f3 f4 => ?_
  generalize hH1 : H.push ({ cls := cA', slots := Array.replicate x.toNatClampNeg .null, vm := .none } : Cell) = H1
  have z1 : H1.size = H.size + 1 := by rw [← hH1, Array.size_push]
  have e1 : H1[H.size]? = some (arrV cA' x.toNatClampNeg (fun _ => .null)) := by rw [← hH1, Array.getElem?_push_size, ← arrV_new]
  have o1 : ∀ q : Nat, q < H.size → H1[q]? = H[q]? := fun q hq => by rw [← hH1, Array.getElem?_push, if_neg (Nat.ne_of_lt hq)]
  have hcA : cA' = cA k := by
    obtain ⟨_, _, _, _, _, h3⟩ := (hK.2 t0 _ ht0).2
    exact Option.some.inj (f1.symm.trans h3)
  rw [hsz] at e1 ⊢
  refine kk _ _ _ _ H1 ⟨rfl, rfl, rfl, rfl⟩ (mm_push hM z1 o1 (by show k ≠ 99; omega) ⟨rfl, rfl, rfl, rfl⟩ ?_) (va_S_push hS z1 o1)
  rw [mcell_q (k := k) (n := x.toNatClampNeg) cA bs _ _ _ _ (by simp [up1]) hk.1]
  show H1[ad bs n]? = some (vp_cell _ _)
  rw [e1, vp_cell_q, hcA]; simp [up1, r0, va_rf, ent_n]
theorem up2_cl {o k v : Nat} (hM : mm D cA bs (n, K, R, I, L) H) (hv : (K v).1 ≠ 99) (c' k' a' : Nat) (hc : lve K c') (hrk : rk (K c').1 k') (h : up2 R o k (some v) c' k' = some a') : lve K a' ∨ hid bs c' k' a' := by
  by_cases e : c' = o
  · subst e
    rw [up2_s] at h
    by_cases e2 : k' = k
    · subst e2
      rw [up1_s] at h; cases h; exact Or.inl hv
    · rw [up1_n _ _ e2] at h; exact hM.2.2.2.2.1 c' k' a' hc hrk h
  · rw [up2_n _ _ _ e] at h; exact hM.2.2.2.2.1 c' k' a' hc hrk h
theorem m_putr (E : Ev p s m args c cc nL own D cA Z bs) (hM : mm D cA bs (n, K, R, I, L) H) (hS : va_S (Ab bs) H0 H locs) {ci k o a : Nat} {t : FieldType} {fin : Bool} (hF : FP own idx ci k false fin t) (hfn : fin = true → meth.name = "<init>" ∧ cls13[ci]?.map (fun q => q.1) = some own) (ho : (K o).1 = ci) (hva : (K a).1 ≠ 99) (hn : narrow t (.ref (ad bs a)) = .ref (ad bs a)) (hf : fits t (.ref (ad bs a)) = true) (hdg : decode cc pc = .ok (.putfield idx, 3))
    (kk : ∀ (R1 : mR) (H1 : Heap) (locs1 : List Loc), R1 = up2 R o k (some a) → mm D cA bs (n, K, R1, I, L) H1 → va_S (Ab bs) H0 H1 locs1 → W p l e RM s m args below meth c H1 locs1 cells slots Q (F0 m (pc + 3) ls rest)) : W p l e RM s m args below meth c H locs cells slots Q (F0 m pc ls (.ref (ad bs a) :: .ref (ad bs o) :: rest)) := by
  obtain ⟨C, T, N, ty0, hc, hk, hin, hlk, hdc, hty, hci, hpt, hnm, hfin, ht⟩ := hF
  obtain ⟨⟨hx, hb, hml, hown, hts⟩, hK, -⟩ := E
  have hlt : (K o).1 ≠ 99 := by rw [ho]; omega
  have he : va_P D cls13 [(ad bs o, .inr (ci, mfl bs (R o) (I o) 0 (mty ci)))] H := mm_P hM hlt (mcell_o _ _ _ _ _ _ ho hci)
  have hap := va_apart (own := own) hts hin ty0 hpt hnm hK hc
  obtain ⟨r, h1, cell, q1, q2, q3, q4⟩ := he 0 _ rfl
  have hr : r = (C, T, N) := Option.some.inj (h1.symm.trans hc)
  subst hr
  obtain ⟨hSl, hfc, kC, hkC, hkind⟩ := hK.1 ci _ hc
  obtain ⟨cf, kf, fi, f, hi, hsl⟩ := hSl k hk
  have hlay := hts _ (hin _ (u_in_lay hk))
  unfold u_lay at hlay
  have hst := (u_facts hfc hkC (u_lays hts hin hk) hi).1
  have hdc' : s.fieldFound? C (T k).2.1 (T k).2.2.1 = some (cf, kf, fi, f) := by rw [hdc] at hi; exact hi
  have hl : k < (mfl bs (R o) (I o) 0 (mty ci)).length := by rw [mfl_len]; exact (List.getElem?_eq_some_iff.mp hty).1
  have fin2 : ∀ (H' : Heap), H'[ad bs o]? = some (cell.setSlot (D.2 ci k) (.ref (ad bs a))) → H'.size = H.size → (∀ q, q ≠ ad bs o → H'[q]? = H[q]?) → ∀ locs1, va_S (Ab bs) H0 H' locs1 → W p l e RM s m args below meth c H' locs1 cells slots Q (F0 m (pc + 3) ls rest) := by
    intro H' e1 e2 e3 locs1 hS1
    have hP1 : va_at D cls13 (ad bs o, (.inr (ci, (mfl bs (R o) (I o) 0 (mty ci)).set k (.ref (ad bs a))) : va_E)) H' := ⟨_, hc, t_OB.to (V := updV (vp_V (mfl bs (R o) (I o) 0 (mty ci))) k (.ref (ad bs a))) ⟨_, e1, q2, q3, t_set q4 hap hk (.ref (ad bs a))⟩ (fun j _ => vp_updV_set hl (.ref (ad bs a)) j)⟩
    refine kk _ H' _ rfl (mm_set hM hlt e2 e3 hP1 ?_ mcell_nr (fun _ _ => rfl) (fun _ _ => rfl) (up2_cl hM hva)) hS1
    rw [mcell_o _ _ _ _ _ _ ho hci, up2_s, ← mfl_set_r _ _ _ _ _ _ hty]
    rfl
  cases fin with
  | false =>
    rw [if_neg (by rw [hfin]; decide)] at hlay
    have h6 := u_store hfc hkC hkind hlay hi ht hn hf
    refine W.putK hx hb (f := f) ⟨hown, hts _ hlk, ⟨_, _, _, hdc'⟩, hst⟩ (by rw [q2]; exact h6) q1 q3 (by rw [hsl]; exact k2_hasslot (q4 k hk)) rfl rfl hdg fun H' e1 e2 e3 => ?_
    rw [hsl] at e1 ⊢
    exact fin2 H' e1 e2 e3 _ (hS.put e2 e3 (mm_ab hM hlt))
  | true =>
    rw [if_pos hfin] at hlay
    obtain ⟨hin2, hco⟩ := hfn rfl
    have hco' : C = own := by rw [hc] at hco; exact Option.some.inj hco
    have hcf : m.cls = cf := by
      obtain ⟨_, _, c', _, _, _, -, -, hf', -, -, -, hown2, -⟩ := Cond.laysFinal_spec hlay
      have e1 : c' = cf := by have := hi.symm.trans hf'; simp at this; exact this.1.symm
      rw [hdc, hco'] at hown2
      rw [← e1]; exact Option.some.inj (hown.symm.trans hown2)
    have h6 := u_fits hfc hkC hkind (Or.inr hlay) hi ht hn hf
    refine W.putFinK hx hb hown (hts _ hlk) hdc' hst hcf hin2 (by rw [q2]; exact h6) q1 q3 (by rw [hsl]; exact k2_hasslot (q4 k hk)) rfl rfl hdg fun H' e1 e2 e3 => ?_
    rw [hsl] at e1 ⊢
    exact fin2 H' e1 e2 e3 _ (hS.put e2 e3 (mm_ab hM hlt))
theorem m_aast (E : Ev p s m args c cc nL own D cA Z bs) (hM : mm D cA bs (n, K, R, I, L) H) (hS : va_S (Ab bs) H0 H locs) {a v N k ci t0 : Nat} {r : vw_C} {i : Int32} (ha : K a = (k, N)) (hk : 17 ≤ k) (hk2 : k ≤ 20) (hv : (K v).1 = ci) (hci : ci < 13) (hc : cls13[ci]? = some r) (ht : (mtys cA)[t0]? = some (cA k, .object r.1)) (hin : vp_in i N) (hdg : decode cc pc = .ok (.aastore, 1))
    (kk : ∀ (R1 : mR) (H1 : Heap) (locs1 : List Loc), R1 = up2 R a i.toNatClampNeg (some v) → mm D cA bs (n, K, R1, I, L) H1 → va_S (Ab bs) H0 H1 locs1 → W p l e RM s m args below meth c H1 locs1 cells slots Q (F0 m (pc + 1) ls rest)) : W p l e RM s m args below meth c H locs cells slots Q (F0 m pc ls (.ref (ad bs v) :: .int i :: .ref (ad bs a) :: rest)) := by
  obtain ⟨⟨hx, hb, hml, hown, hts⟩, hK, -⟩ := E
  have hla : (K a).1 ≠ 99 := by rw [ha]; show k ≠ 99; omega
  have hlv : (K v).1 ≠ 99 := by rw [hv]; omega
  have hea := mm_P hM hla (mcell_q _ _ _ _ _ _ ha hk)
  have hev : va_P D cls13 [(ad bs v, .inr (ci, mfl bs (R v) (I v) 0 (mty ci)))] H := mm_P hM hlv (mcell_o _ _ _ _ _ _ hv hci)
  have hlt : i.toNatClampNeg < N := vp_in_lt hin
  have h0 : ¬ i < 0 := fun q => hin (Or.inl q)
  obtain ⟨r', hr', cellV, g1, g2, g3, -⟩ := hev 0 _ rfl
  have hcls := (hK.1 ci r hc).2
  obtain ⟨kA, comp, k1, k2, k3, -⟩ := (hK.2 t0 _ ht).2
  have hcomp : comp = D.1 ci := Option.some.inj (k3.symm.trans hcls.1)
  subst hcomp
  obtain ⟨kC, hkC, -⟩ := hcls.2
  refine W.aast hx hb (hea 0 _ rfl) (fun q h => by cases h) (fun h => by cases h) k1 k2 rfl hkC ⟨h0, by show _ < (arrV _ _ _).slots.size; rw [arrV_size]; exact hlt⟩ g1 (fun q h => by rw [g3] at h; cases h) (by rw [g2]; exact hkC) (by rw [g2]; exact va_assign hcls) rfl rfl hdg fun H1 e z oq => ?_
  have hP1 : va_at D cls13 (ad bs a, (.inl (cA k, N, .inr (.inr (.inr (.inr (fun j => ent bs k (up1 (R a) i.toNatClampNeg (some v) j)))))) : va_E)) H1 := (by
    show H1[ad bs a]? = some (vp_cell _ _)
    rw [e, vp_cell_q, vp_cell_q, arrV_store]
    congr 2
    funext q
    by_cases hq : q = i.toNatClampNeg
    · subst hq; simp [updV, up1, ent_s (k := k) (v := v) (Or.inr (mm_h hM hlv)), va_rf]
    · simp [updV, up1, hq])
  exact kk _ H1 _ rfl (mm_set hM hla z oq hP1 (by rw [mcell_q _ _ _ _ _ _ ha hk, up2_s]) mcell_nr (fun _ _ => rfl) (fun _ _ => rfl) (up2_cl hM hlv)) (hS.put z oq (mm_ab hM hla))
end AL
theorem nw_X11_9 : NW RX11 9 8 8 := ⟨RX8, TX8, tyX8, rfl, iX8, tyX8_ok, gw_of 30 (by decide +kernel) (by decide +kernel), gw_of 31 (by decide +kernel) (by decide +kernel), gw_of 2 (by decide +kernel) (by decide +kernel), by decide +kernel, by decide, by decide +kernel⟩
theorem nw_X11_20 : NW RX11 20 5 14 := ⟨RX5, TX5, tyX5, rfl, iX5, tyX5_ok, gw_of 235 (by decide +kernel) (by decide +kernel), gw_of 236 (by decide +kernel) (by decide +kernel), gw_of 5 (by decide +kernel) (by decide +kernel), by decide +kernel, by decide, by decide +kernel⟩
theorem nw_X11_33 : NW RX11 33 2 19 := ⟨RX2, TX2, tyX2, rfl, iX2, tyX2_ok, gw_of 292 (by decide +kernel) (by decide +kernel), gw_of 732 (by decide +kernel) (by decide +kernel), gw_of 20 (by decide +kernel) (by decide +kernel), by decide +kernel, by decide, by decide +kernel⟩
theorem nw_X11_39 : NW RX11 39 4 5 := ⟨RX4, TX4, tyX4, rfl, iX4, tyX4_ok, gw_of 294 (by decide +kernel) (by decide +kernel), gw_of 295 (by decide +kernel) (by decide +kernel), gw_of 6 (by decide +kernel) (by decide +kernel), by decide +kernel, by decide, by decide +kernel⟩
theorem nw_X11_46 : NW RX11 46 7 12 := ⟨RX7, TX7, tyX7, rfl, iX7, tyX7_ok, gw_of 316 (by decide +kernel) (by decide +kernel), gw_of 317 (by decide +kernel) (by decide +kernel), gw_of 7 (by decide +kernel) (by decide +kernel), by decide +kernel, by decide, by decide +kernel⟩
theorem nw_X11_53 : NW RX11 53 0 5 := ⟨RX0, TX0, tyX0, rfl, iX0, tyX0_ok, gw_of 362 (by decide +kernel) (by decide +kernel), gw_of 363 (by decide +kernel) (by decide +kernel), gw_of 8 (by decide +kernel) (by decide +kernel), by decide +kernel, by decide, by decide +kernel⟩
theorem nw_X11_60 : NW RX11 60 9 4 := ⟨RX9, TX9, tyX9, rfl, iX9, tyX9_ok, gw_of 384 (by decide +kernel) (by decide +kernel), gw_of 385 (by decide +kernel) (by decide +kernel), gw_of 9 (by decide +kernel) (by decide +kernel), by decide +kernel, by decide, by decide +kernel⟩
theorem nw_X11_67 : NW RX11 67 1 6 := ⟨RX1, TX1, tyX1, rfl, iX1, tyX1_ok, gw_of 405 (by decide +kernel) (by decide +kernel), gw_of 406 (by decide +kernel) (by decide +kernel), gw_of 10 (by decide +kernel) (by decide +kernel), by decide +kernel, by decide, by decide +kernel⟩
theorem nw_X11_74 : NW RX11 74 10 6 := ⟨RX10, TX10, tyX10, rfl, iX10, tyX10_ok, gw_of 433 (by decide +kernel) (by decide +kernel), gw_of 434 (by decide +kernel) (by decide +kernel), gw_of 11 (by decide +kernel) (by decide +kernel), by decide +kernel, by decide, by decide +kernel⟩
theorem nw_X5_9 : NW RX5 9 3 18 := ⟨RX3, TX3, tyX3, rfl, iX3, tyX3_ok, gw_of 241 (by decide +kernel) (by decide +kernel), gw_of 40 (by decide +kernel) (by decide +kernel), gw_of 3 (by decide +kernel) (by decide +kernel), by decide +kernel, by decide, by decide +kernel⟩
theorem nw_X5_18 : NW RX5 18 6 5 := ⟨RX6, TX6, tyX6, rfl, iX6, tyX6_ok, gw_of 243 (by decide +kernel) (by decide +kernel), gw_of 165 (by decide +kernel) (by decide +kernel), gw_of 4 (by decide +kernel) (by decide +kernel), by decide +kernel, by decide, by decide +kernel⟩
theorem nw_X8_19 : NW RX8 19 3 18 := ⟨RX3, TX3, tyX3, rfl, iX3, tyX3_ok, gw_of 36 (by decide +kernel) (by decide +kernel), gw_of 40 (by decide +kernel) (by decide +kernel), gw_of 3 (by decide +kernel) (by decide +kernel), by decide +kernel, by decide, by decide +kernel⟩
theorem nw_X8_25 : NW RX8 25 6 5 := ⟨RX6, TX6, tyX6, rfl, iX6, tyX6_ok, gw_of 38 (by decide +kernel) (by decide +kernel), gw_of 165 (by decide +kernel) (by decide +kernel), gw_of 4 (by decide +kernel) (by decide +kernel), by decide +kernel, by decide, by decide +kernel⟩
theorem nw_L_7 : NW RL 7 11 10 := ⟨RX11, TX11, tyX11, rfl, iX11, tyX11_ok, gw_of 22 (by decide +kernel) (by decide +kernel), gw_of 23 (by decide +kernel) (by decide +kernel), gw_of 1 (by decide +kernel) (by decide +kernel), by decide +kernel, by decide, by decide +kernel⟩
theorem nw_L_10 : NW RL 10 12 49 := ⟨RX12, TX12, tyX12, rfl, iX12, tyX12_ok, gw_of 1299 (by decide +kernel) (by decide +kernel), gw_of 1300 (by decide +kernel) (by decide +kernel), gw_of 12 (by decide +kernel) (by decide +kernel), by decide +kernel, by decide, by decide +kernel⟩
theorem ac_byte : Cond.arrayClass .byte ∈ gw := gw_of 163 (by decide +kernel) (by decide +kernel)
theorem ac_int : Cond.arrayClass .int ∈ gw := gw_of 164 (by decide +kernel) (by decide +kernel)
theorem ac_long : Cond.arrayClass .long ∈ gw := gw_of 458 (by decide +kernel) (by decide +kernel)
theorem ac_boolean : Cond.arrayClass .boolean ∈ gw := gw_of 1453 (by decide +kernel) (by decide +kernel)
theorem oi_inst : Cond.instanceMethod Lib.objectInit ∈ gw := gw_of 28 (by decide +kernel) (by decide +kernel)
theorem oi_code : Cond.code Lib.objectInit ⟨#[0xb1]⟩ 1 none ∈ gw := gw_of 29 (by decide +kernel) (by decide +kernel)
theorem oi_X11 : Cond.methodLink RX11 3 Lib.objectInit ∈ gw := gw_of 27 (by decide +kernel) (by decide +kernel)
theorem oi_X0 : Cond.methodLink RX0 3 Lib.objectInit ∈ gw := gw_of 367 (by decide +kernel) (by decide +kernel)
theorem oi_X1 : Cond.methodLink RX1 3 Lib.objectInit ∈ gw := gw_of 410 (by decide +kernel) (by decide +kernel)
theorem oi_X2 : Cond.methodLink RX2 3 Lib.objectInit ∈ gw := gw_of 736 (by decide +kernel) (by decide +kernel)
theorem oi_X3 : Cond.methodLink RX3 3 Lib.objectInit ∈ gw := gw_of 44 (by decide +kernel) (by decide +kernel)
theorem oi_X4 : Cond.methodLink RX4 3 Lib.objectInit ∈ gw := gw_of 299 (by decide +kernel) (by decide +kernel)
theorem oi_X5 : Cond.methodLink RX5 3 Lib.objectInit ∈ gw := gw_of 240 (by decide +kernel) (by decide +kernel)
theorem oi_X6 : Cond.methodLink RX6 3 Lib.objectInit ∈ gw := gw_of 169 (by decide +kernel) (by decide +kernel)
theorem oi_X7 : Cond.methodLink RX7 3 Lib.objectInit ∈ gw := gw_of 321 (by decide +kernel) (by decide +kernel)
theorem oi_X8 : Cond.methodLink RX8 3 Lib.objectInit ∈ gw := gw_of 35 (by decide +kernel) (by decide +kernel)
theorem oi_X9 : Cond.methodLink RX9 3 Lib.objectInit ∈ gw := gw_of 389 (by decide +kernel) (by decide +kernel)
theorem oi_X10 : Cond.methodLink RX10 3 Lib.objectInit ∈ gw := gw_of 438 (by decide +kernel) (by decide +kernel)
theorem oi_X12 : Cond.methodLink RX12 1 Lib.objectInit ∈ gw := gw_of 1304 (by decide +kernel) (by decide +kernel)
