/-! Math, arraycopy, the static tables, truth values, shapes -/
abbrev imax (x y : Int32) : Int32 := if x < y then y else x
abbrev imin (x y : Int32) : Int32 := if y < x then y else x
abbrev iabs (x : Int32) : Int32 := if 0 ≤ x then x else 0 - x
abbrev irem (x y : Int32) : Int32 := x - x / y * y
abbrev iushr (x y : Int32) : Int32 := (x.toUInt32 >>> (y.toUInt32 &&& Int32.toUInt32 31)).toInt32
theorem ms_max : Cond.static Lib.Math.max.name ∈ gw := gw_of 659 (by decide +kernel) (by decide +kernel)
theorem mk_max : Cond.code Lib.Math.max.name Lib.Math.max.code 2 (some .int) ∈ gw := gw_of 660 (by decide +kernel) (by decide +kernel)
theorem ms_min : Cond.static Lib.Math.min.name ∈ gw := gw_of 519 (by decide +kernel) (by decide +kernel)
theorem mk_min : Cond.code Lib.Math.min.name Lib.Math.min.code 2 (some .int) ∈ gw := gw_of 520 (by decide +kernel) (by decide +kernel)
theorem ms_abs : Cond.static Lib.Math.abs.name ∈ gw := gw_of 835 (by decide +kernel) (by decide +kernel)
theorem mk_abs : Cond.code Lib.Math.abs.name Lib.Math.abs.code 1 (some .int) ∈ gw := gw_of 836 (by decide +kernel) (by decide +kernel)
theorem mi_math : Cond.initialized "java/lang/Math" ∈ gw := gw_of 13 (by decide +kernel) (by decide +kernel)
theorem ac_nat : Cond.native arraycopyName ∈ gw := gw_of 691 (by decide +kernel) (by decide +kernel)
theorem ac_sta : Cond.static arraycopyName ∈ gw := gw_of 690 (by decide +kernel) (by decide +kernel)
theorem ac_ini : Cond.initialized "java/lang/System" ∈ gw := gw_of 19 (by decide +kernel) (by decide +kernel)
theorem ml_X1_67 : Cond.methodLink RX1 67 Lib.Math.min.name ∈ gw := gw_of 1171 (by decide +kernel) (by decide +kernel)
theorem ml_X1_73 : Cond.methodLink RX1 73 Lib.Math.max.name ∈ gw := gw_of 1172 (by decide +kernel) (by decide +kernel)
theorem ml_X10_103 : Cond.methodLink RX10 103 Lib.Math.min.name ∈ gw := gw_of 1131 (by decide +kernel) (by decide +kernel)
theorem ml_X10_108 : Cond.methodLink RX10 108 Lib.Math.max.name ∈ gw := gw_of 1132 (by decide +kernel) (by decide +kernel)
theorem ml_X11_129 : Cond.methodLink RX11 129 Lib.Math.max.name ∈ gw := gw_of 692 (by decide +kernel) (by decide +kernel)
theorem ml_X2_103 : Cond.methodLink RX2 103 Lib.Math.abs.name ∈ gw := gw_of 834 (by decide +kernel) (by decide +kernel)
theorem ml_X2_112 : Cond.methodLink RX2 112 Lib.Math.max.name ∈ gw := gw_of 837 (by decide +kernel) (by decide +kernel)
theorem ml_X2_182 : Cond.methodLink RX2 182 Lib.Math.min.name ∈ gw := gw_of 1057 (by decide +kernel) (by decide +kernel)
theorem ml_X3_73 : Cond.methodLink RX3 73 arraycopyName ∈ gw := gw_of 689 (by decide +kernel) (by decide +kernel)
theorem ml_X3_79 : Cond.methodLink RX3 79 Lib.Math.max.name ∈ gw := gw_of 859 (by decide +kernel) (by decide +kernel)
theorem ml_X3_85 : Cond.methodLink RX3 85 Lib.Math.abs.name ∈ gw := gw_of 1100 (by decide +kernel) (by decide +kernel)
theorem ml_X3_92 : Cond.methodLink RX3 92 Lib.Math.min.name ∈ gw := gw_of 858 (by decide +kernel) (by decide +kernel)
theorem ml_X4_25 : Cond.methodLink RX4 25 Lib.Math.min.name ∈ gw := gw_of 967 (by decide +kernel) (by decide +kernel)
theorem ml_X4_55 : Cond.methodLink RX4 55 arraycopyName ∈ gw := gw_of 972 (by decide +kernel) (by decide +kernel)
theorem ml_X5_33 : Cond.methodLink RX5 33 Lib.Math.min.name ∈ gw := gw_of 518 (by decide +kernel) (by decide +kernel)
theorem ml_X5_187 : Cond.methodLink RX5 187 Lib.Math.max.name ∈ gw := gw_of 658 (by decide +kernel) (by decide +kernel)
theorem ml_X6_28 : Cond.methodLink RX6 28 arraycopyName ∈ gw := gw_of 705 (by decide +kernel) (by decide +kernel)
theorem ml_X7_109 : Cond.methodLink RX7 109 Lib.Math.max.name ∈ gw := gw_of 1006 (by decide +kernel) (by decide +kernel)
theorem ml_X7_114 : Cond.methodLink RX7 114 Lib.Math.min.name ∈ gw := gw_of 1007 (by decide +kernel) (by decide +kernel)
theorem ml_X8_36 : Cond.methodLink RX8 36 arraycopyName ∈ gw := gw_of 1292 (by decide +kernel) (by decide +kernel)
section MA
variable {p : Program} {l : Launch} {e : Env} {RM : Room} {s : State} {m : MethodId} {args : Array Value} {below : List Frame} {meth : Method} {c : Code} {H H0 : Heap} {locs : List Loc} {cells slots : Nat} {Q : State → Prop} {cc : ByteArray} {pc : Nat} {ls : Array Slot} {rest : List Value} {D : va_G} {cA : Nat → ClassId} {Z : mZ} {bs : Ad} {nL idx : Nat} {own : String} {n : Nat} {K : mK} {R : mR} {I : mI} {L : mL}
theorem m_max (E : Ev p s m args c cc nL own D cA Z bs) (hl : Cond.methodLink own idx Lib.Math.max.name ∈ gw) (hls : ls.size = nL) (hf : 1 ≤ RM.frames) (hlo : (rest.map fun v => v.category).sum + 13 ≤ RM.locals) (hc : cells ≤ RM.cells) (hs : slots ≤ RM.slots) {x y : Int32} (hdg : decode cc pc = .ok (.invokestatic idx, 3))
    (kk : W p l e RM s m args below meth c H locs cells slots Q (F0 m (pc + 3) ls (.int (imax x y) :: rest))) : W p l e RM s m args below meth c H locs cells slots Q (F0 m pc ls (.int y :: .int x :: rest)) := by
  obtain ⟨⟨hx, hb, hml, hown, hts⟩, -⟩ := E
  exact va_mmax hx hb (hml.trans hls.symm) hown (hts _ hl) (hts _ ms_max) (hts _ mi_math) (hts _ mk_max) hf hlo hc hs hdg kk
theorem m_min (E : Ev p s m args c cc nL own D cA Z bs) (hl : Cond.methodLink own idx Lib.Math.min.name ∈ gw) (hls : ls.size = nL) (hf : 1 ≤ RM.frames) (hlo : (rest.map fun v => v.category).sum + 13 ≤ RM.locals) (hc : cells ≤ RM.cells) (hs : slots ≤ RM.slots) {x y : Int32} (hdg : decode cc pc = .ok (.invokestatic idx, 3))
    (kk : W p l e RM s m args below meth c H locs cells slots Q (F0 m (pc + 3) ls (.int (imin x y) :: rest))) : W p l e RM s m args below meth c H locs cells slots Q (F0 m pc ls (.int y :: .int x :: rest)) := by
  obtain ⟨⟨hx, hb, hml, hown, hts⟩, -⟩ := E
  exact va_mmin hx hb (hml.trans hls.symm) hown (hts _ hl) (hts _ ms_min) (hts _ mi_math) (hts _ mk_min) hf hlo hc hs hdg kk
theorem m_abs (E : Ev p s m args c cc nL own D cA Z bs) (hl : Cond.methodLink own idx Lib.Math.abs.name ∈ gw) (hls : ls.size = nL) (hf : 1 ≤ RM.frames) (hlo : (rest.map fun v => v.category).sum + 13 ≤ RM.locals) (hc : cells ≤ RM.cells) (hs : slots ≤ RM.slots) {x : Int32} (hdg : decode cc pc = .ok (.invokestatic idx, 3))
    (kk : W p l e RM s m args below meth c H locs cells slots Q (F0 m (pc + 3) ls (.int (iabs x) :: rest))) : W p l e RM s m args below meth c H locs cells slots Q (F0 m pc ls (.int x :: rest)) := by
  obtain ⟨⟨hx, hb, hml, hown, hts⟩, -⟩ := E
  exact va_mabs hx hb (hml.trans hls.symm) hown (hts _ hl) (hts _ ms_abs) (hts _ mi_math) (hts _ mk_abs) hf hlo hc hs hdg kk
/-- arraycopy between two arrays of ints, or of bytes -/
def cpy2 (I : mI) (a b sp dp n : Nat) : mI := fun c => if c = b then va_cpy (I a) (I b) sp dp n else I c
theorem m_copy (E : Ev p s m args c cc nL own D cA Z bs) (hM : mm D cA bs (n, K, R, I, L) H) (hS : va_S (Ab bs) H0 H locs) (hl : Cond.methodLink own idx arraycopyName ∈ gw) (hls : ls.size = nL) {a b k Na Nb : Nat} {sp dp len : Int32} (ha : K a = (k, Na)) (hb' : K b = (k, Nb)) (hk : k = 13 ∨ k = 14) (hab : a ≠ b) (h1 : ¬ sp < 0) (h2 : ¬ dp < 0) (h3 : ¬ len < 0) (h4 : sp.toNatClampNeg + len.toNatClampNeg ≤ Na) (h5 : dp.toNatClampNeg + len.toNatClampNeg ≤ Nb) (hfit : k = 13 → ∀ i, i < len.toNatClampNeg → fits .byte (.int (I a (sp.toNatClampNeg + i))) = true)
    (hf : 1 ≤ RM.frames) (hlo : (rest.map fun v => v.category).sum + (nativeFrameWords "java/lang/System" "arraycopy" 5 + 11) ≤ RM.locals) (hdg : decode cc pc = .ok (.invokestatic idx, 3))
    (kk : ∀ (I1 : mI) (H1 : Heap) (locs1 : List Loc), I1 = cpy2 I a b sp.toNatClampNeg dp.toNatClampNeg len.toNatClampNeg → mm D cA bs (n, K, R, I1, L) H1 → va_S (Ab bs) H0 H1 locs1 → W p l e RM s m args below meth c H1 locs1 cells slots Q (F0 m (pc + 3) ls rest)) : W p l e RM s m args below meth c H locs cells slots Q (F0 m pc ls (.int len :: .int dp :: .ref (ad bs b) :: .int sp :: .ref (ad bs a) :: rest)) := by
  obtain ⟨⟨hx, hb, hml, hown, hts⟩, hK, -⟩ := E
  have hka : (K a).1 ≠ 99 := by rw [ha]; show k ≠ 99; omega
  have hkb : (K b).1 ≠ 99 := by rw [hb']; show k ≠ 99; omega
  have hk3 : k = 13 ∨ k = 14 ∨ k = 16 := by omega
  have nn : ∀ z : Int32, ¬ z < 0 → z.toInt = (z.toNatClampNeg : Int) := by
    intro z hz
    obtain ⟨j, hj, rfl⟩ := nI_of hz
    rw [nI_toInt hj, nI_clamp hj]
  obtain ⟨ty, hty, hpr, hft⟩ : ∃ ty : FieldType, (∃ t0 : Nat, (mtys cA)[t0]? = some (cA k, ty)) ∧ refKind ty = false ∧ ∀ i, i < len.toNatClampNeg → fits ty (.int (I a (sp.toNatClampNeg + i))) = true := by
    rcases hk with rfl | rfl
    · exact ⟨.byte, ⟨0, rfl⟩, rfl, hfit rfl⟩
    · exact ⟨.int, ⟨1, rfl⟩, rfl, fun _ _ => rfl⟩
  obtain ⟨t0, ht0⟩ := hty
  have hca : H[ad bs a]? = some (vp_cell (cA k) (Na, .inl (I a))) := mm_at hM hka (mcell_i _ _ _ _ _ _ ha hk3)
  have hcb : H[ad bs b]? = some (vp_cell (cA k) (Nb, .inl (I b))) := mm_at hM hkb (mcell_i _ _ _ _ _ _ hb' hk3)
  obtain ⟨-, ka, hka1, cma, hka2⟩ := (hK.2 t0 _ ht0).1 Na (fun j => .int (I a j))
  obtain ⟨-, kb, hkb1, cmb, hkb2⟩ := (hK.2 t0 _ ht0).1 Nb (fun j => .int (I b j))
  intro T hT X
  obtain ⟨vm', X', step⟩ := X.arraycopy hx hown (hts _ hl) (hts _ ac_nat) (hts _ ac_sta) (hts _ ac_ini) (src := ad bs a) (dst := ad bs b) (cs := vp_cell (cA k) (Na, .inl (I a))) (cd := vp_cell (cA k) (Nb, .inl (I b))) (srcPos := sp) (destPos := dp) (n := len) (by rw [hT]; exact hca) (by rw [hT]; exact hcb)
    (fun _ h => by cases h) (fun _ h => by cases h) (fun h => by cases h) (fun h => by cases h) hka1 hkb1 hka2 hkb2 (by simp [hpr]) h1 h2 h3
    (by rw [nn sp h1, nn len h3]; show ¬ _ > ((arrV (cA k) Na (fun j => .int (I a j))).slots.size : Int); rw [arrV_size]; omega)
    (by rw [nn dp h2, nn len h3]; show ¬ _ > ((arrV (cA k) Nb (fun j => .int (I b j))).slots.size : Int); rw [arrV_size]; omega)
    (fun vm₁ _ i hi => by
      have e : (vp_cell (cA k) (Na, .inl (I a))).slots.getD (sp.toNatClampNeg + i) .null = .int (I a (sp.toNatClampNeg + i)) := by
        show (arrV (cA k) Na (fun j => .int (I a j))).slots.getD _ _ = _
        rw [Array.getD_eq_getD_getElem?, arrV_read _ _ (by omega)]
        rfl
      refine ⟨?_, ?_⟩
      · rw [e]; exact hft i hi
      · rw [e]; exact trivial)
    (g := F0 m pc ls (.int len :: .int dp :: .ref (ad bs b) :: .int sp :: .ref (ad bs a) :: rest)) rfl (by rw [hml]; exact hls) (rest := rest) rfl (by rw [hb]; exact hdg) hf (by show 2 * 0 + _ + _ ≤ _; omega)
  have e1 : copied (vp_cell (cA k) (Na, .inl (I a))) (vp_cell (cA k) (Nb, .inl (I b))) sp dp len = vp_cell (cA k) (Nb, .inl (va_cpy (I a) (I b) sp.toNatClampNeg dp.toNatClampNeg len.toNatClampNeg)) := va_copied (fun z => .int z) (cA k) (cA k) (I a) (I b) h4
  rw [e1] at X' step
  have hlb : ad bs b < H.size := (Array.getElem?_eq_some_iff.mp hcb).1
  generalize hcell : vp_cell (cA k) (Nb, .inl (va_cpy (I a) (I b) sp.toNatClampNeg dp.toNatClampNeg len.toNatClampNeg)) = cell at *
  have hH1 : ((T.setVm vm').setCell (ad bs b) cell).heap = H.setIfInBounds (ad bs b) cell := by rw [← hT]; rfl
  have oq : ∀ q : Nat, q ≠ ad bs b → (H.setIfInBounds (ad bs b) cell)[q]? = H[q]? := fun q hq => by simp [Array.getElem?_setIfInBounds, Ne.symm hq]
  have hP1 : va_at D cls13 (ad bs b, (.inl (cA k, Nb, .inl (va_cpy (I a) (I b) sp.toNatClampNeg dp.toNatClampNeg len.toNatClampNeg)) : va_E)) (H.setIfInBounds (ad bs b) cell) := (show (H.setIfInBounds (ad bs b) cell)[ad bs b]? = some _ by rw [hcell]; simp [Array.getElem?_setIfInBounds, hlb])
  obtain ⟨t, a1, b1⟩ := kk _ _ _ rfl (mm_set hM hkb (by simp) oq hP1 (by rw [mcell_i _ _ _ _ _ _ hb' hk3]; simp [cpy2]) (fun d hd => by simp [mcell, cpy2, hd]) (fun d hd => by simp [cpy2, hd]) (fun _ _ => rfl) hM.2.2.2.2.1) ⟨by simp; exact hS.1, fun q g1 g2 => by
      rw [oq q (fun e => g2 (by rw [e]; exact mm_ab hM hkb))]
      exact hS.2.1 q g1 g2, fun q hq => by
      rcases List.mem_append.mp hq with h | h
      · exact hS.2.2 q h
      · obtain ⟨z, -, hz⟩ := List.mem_map.mp h
        rw [← hz]
        exact mm_ab hM hkb⟩ _ hH1 X'
  exact ⟨t, step t a1, b1⟩
theorem m_aaldS (E : Ev p s m args c cc nL own D cA Z bs) (hM : mm D cA bs (n, K, R, I, L) H) {a N k v : Nat} {i : Int32} (ha : K a = (k, N)) (hk : k = 18 ∨ k = 19 ∨ k = 20) (hin : vp_in i N) (hv : R a i.toNatClampNeg = some v) (hdg : decode cc pc = .ok (.aaload, 1))
    (kk : W p l e RM s m args below meth c H locs cells slots Q (F0 m (pc + 1) ls (.ref (ad bs v) :: rest))) : W p l e RM s m args below meth c H locs cells slots Q (F0 m pc ls (.int i :: .ref (ad bs a) :: rest)) :=
  m_aald E hM ha (Or.inr hk) hin hdg (by rw [hv, ent_s (Or.inl (by omega))]; exact kk)
theorem m_aaldN (E : Ev p s m args c cc nL own D cA Z bs) (hM : mm D cA bs (n, K, R, I, L) H) {a N k : Nat} {i : Int32} (ha : K a = (k, N)) (hk : k = 18 ∨ k = 19 ∨ k = 20) (hin : vp_in i N) (hv : R a i.toNatClampNeg = none) (hdg : decode cc pc = .ok (.aaload, 1))
    (kk : W p l e RM s m args below meth c H locs cells slots Q (F0 m (pc + 1) ls (.null :: rest))) : W p l e RM s m args below meth c H locs cells slots Q (F0 m pc ls (.int i :: .ref (ad bs a) :: rest)) :=
  m_aald E hM ha (Or.inr hk) hin hdg (by rw [hv, ent_n]; exact kk)
/-- an evening that lives; one that is hidden -/
theorem m_aaldE (E : Ev p s m args c cc nL own D cA Z bs) (hM : mm D cA bs (n, K, R, I, L) H) {a N v : Nat} {i : Int32} (ha : K a = (17, N)) (hin : vp_in i N) (hv : R a i.toNatClampNeg = some v) (hl : (K v).1 ≠ 99) (hdg : decode cc pc = .ok (.aaload, 1))
    (kk : W p l e RM s m args below meth c H locs cells slots Q (F0 m (pc + 1) ls (.ref (ad bs v) :: rest))) : W p l e RM s m args below meth c H locs cells slots Q (F0 m pc ls (.int i :: .ref (ad bs a) :: rest)) :=
  m_aald E hM ha (Or.inl rfl) hin hdg (by rw [hv, ent_s (Or.inr (mm_h hM hl))]; exact kk)
theorem m_aaldH (E : Ev p s m args c cc nL own D cA Z bs) (hM : mm D cA bs (n, K, R, I, L) H) {a N v : Nat} {i : Int32} (ha : K a = (17, N)) (hin : vp_in i N) (hv : R a i.toNatClampNeg = some v) (hl : bs.2.2 v = true) (hdg : decode cc pc = .ok (.aaload, 1))
    (kk : W p l e RM s m args below meth c H locs cells slots Q (F0 m (pc + 1) ls (.null :: rest))) : W p l e RM s m args below meth c H locs cells slots Q (F0 m pc ls (.int i :: .ref (ad bs a) :: rest)) :=
  m_aald E hM ha (Or.inl rfl) hin hdg (by rw [hv, ent_h hl]; exact kk)
end MA
/-! truth values -/
def bI (b : Bool) : Int32 := if b = true then 1 else 0
theorem bI_f {b : Bool} (h : bI b = 0) : b = false := by cases b <;> first | rfl | (exact absurd h (by decide))
theorem bI_t {b : Bool} (h : ¬ bI b = 0) : b = true := by cases b <;> first | rfl | (exact absurd rfl h)
theorem bI_01 (b : Bool) : bI b = 0 ∨ bI b = 1 := by cases b <;> simp [bI]
theorem vp_in_lt {i : Int32} {n : Nat} (h : vp_in i n) : i.toNatClampNeg < n := Nat.not_le.mp fun q => h (Or.inr q)
/-! shapes: an object of class ci at o, with arrays of its own: (field, offset, kind, length) -/
def isO (K : mK) (R : mR) (o ci : Nat) (fl : List (Nat × Nat × Nat × Nat)) : Prop := (K o).1 = ci ∧ ∀ (i : Nat) (q : Nat × Nat × Nat × Nat), fl[i]? = some q → R o q.1 = some (o + q.2.1) ∧ K (o + q.2.1) = q.2.2
theorem isO_at {K : mK} {R : mR} {o ci : Nat} {fl : List (Nat × Nat × Nat × Nat)} (h : isO K R o ci fl) (i : Nat) {k d ki n : Nat} (hq : fl[i]? = some (k, d, ki, n)) : R o k = some (o + d) ∧ K (o + d) = (ki, n) := h.2 i _ hq
