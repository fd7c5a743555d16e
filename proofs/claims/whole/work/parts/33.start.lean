/-! the start: what the Statement gives of classes, statics and words; then the making of the two objects -/
def bsO (z : Nat) : Ad := (z, fun c => z + c, fun _ => false)
abbrev given9 : Jvm.Cond := Jvm.Cond.and given_1 narrow_1
theorem sz_SLOTS : Cond.arrayOf (.static "EchoStair$Reader" "SLOTS" "[I") .int ∈ flatC given9 ∧ Cond.eq (.length (.static "EchoStair$Reader" "SLOTS" "[I")) (.int (Int32.ofNat 8)) ∈ flatC given9 ∧ ∀ j, j < 8 → Cond.eq (.elem (.static "EchoStair$Reader" "SLOTS" "[I") (.int (Int32.ofNat j))) (.int (tb_slots j)) ∈ flatC given9 := by decide +kernel
theorem sz_LEAST : Cond.arrayOf (.static "EchoStair$Reader" "LEAST" "[I") .int ∈ flatC given9 ∧ Cond.eq (.length (.static "EchoStair$Reader" "LEAST" "[I")) (.int (Int32.ofNat 32)) ∈ flatC given9 ∧ ∀ j, j < 32 → Cond.eq (.elem (.static "EchoStair$Reader" "LEAST" "[I") (.int (Int32.ofNat j))) (.int (tb_least j)) ∈ flatC given9 := by decide +kernel
theorem sz_MOST : Cond.arrayOf (.static "EchoStair$Reader" "MOST" "[I") .int ∈ flatC given9 ∧ Cond.eq (.length (.static "EchoStair$Reader" "MOST" "[I")) (.int (Int32.ofNat 32)) ∈ flatC given9 ∧ ∀ j, j < 32 → Cond.eq (.elem (.static "EchoStair$Reader" "MOST" "[I") (.int (Int32.ofNat j))) (.int (tb_most j)) ∈ flatC given9 := by decide +kernel
theorem sz_str1 : ∀ i, i < 8 → Cond.exactly (Term.string "EchoStair$Reader" (tb_sx.getD i 0)) "java/lang/String" ∈ flatC given9 ∧ Cond.eq (.field (Term.string "EchoStair$Reader" (tb_sx.getD i 0)) "java/lang/String" "coder" "B") (.int 0) ∈ flatC given9 ∧ Cond.arrayOf (Term.field (Term.string "EchoStair$Reader" (tb_sx.getD i 0)) "java/lang/String" "value" "[B") .byte ∈ flatC given9 ∧ Cond.eq (.length (Term.field (Term.string "EchoStair$Reader" (tb_sx.getD i 0)) "java/lang/String" "value" "[B")) (.int (Int32.ofNat (tb_len.getD i 0))) ∈ flatC given9 := by decide +kernel
theorem sz_str2 : ∀ i, i < 8 → ∀ j, j < tb_len.getD i 0 → Cond.eq (.elem (Term.field (Term.string "EchoStair$Reader" (tb_sx.getD i 0)) "java/lang/String" "value" "[B") (.int (Int32.ofNat j))) (.int ((tb_byt.getD i []).getD j 0)) ∈ flatC given9 := by decide +kernel
theorem sz_str3 : ∀ i, i < 8 → ∀ j, j < 8 → i ≠ j → Cond.not (Cond.eq (Term.string "EchoStair$Reader" (tb_sx.getD i 0)) (Term.string "EchoStair$Reader" (tb_sx.getD j 0))) ∈ flatC given9 ∨ Cond.not (Cond.eq (Term.string "EchoStair$Reader" (tb_sx.getD j 0)) (Term.string "EchoStair$Reader" (tb_sx.getD i 0))) ∈ flatC given9 := by decide +kernel
theorem sz_str4 : ∀ i, i < 8 → Cond.stringRef "EchoStair$Reader" (tb_sx.getD i 0) (tb_tx.getD i "") ∈ lw_tbl := by decide +kernel
theorem sz_nest : ∀ q ∈ nestq, Cond.methodLinkNest q.1 q.2.1 q.2.2 "EchoStair" ∈ lw_tbl := by decide +kernel
theorem sz_ao : ∀ C ∈ aoq, Cond.arrayOver (.object C) ∈ lw_tbl := by decide +kernel
theorem sz_ls : ∀ q ∈ ([("EchoStair$Reader", "SLOTS", "[I"), ("EchoStair$Reader", "LEAST", "[I"), ("EchoStair$Reader", "MOST", "[I"), ("java/lang/String", "COMPACT_STRINGS", "Z"), ("jdk/internal/util/Preconditions", "SIOOBE_FORMATTER", "Ljava/util/function/BiFunction;")] : List (String × String × String)), Cond.laysStatic q.1 q.2.1 q.2.2 ∈ lw_tbl ∧ Cond.initialized q.1 ∈ lw_tbl := by decide +kernel
theorem sz_cs : Cond.eq (.static "java/lang/String" "COMPACT_STRINGS" "Z") (.int 1) ∈ flatC given9 ∧ Cond.isRef (.static "jdk/internal/util/Preconditions" "SIOOBE_FORMATTER" "Ljava/util/function/BiFunction;") ∈ flatC given9 := by decide +kernel
set_option maxHeartbeats 4000000 in
theorem start_Cx {p : Program} {s : State} {m : MethodId} {meth : Method} {c : Code} {b L : Nat} {xs : Nat → Int32} (C0 : lw_At p s m meth c b L xs) : ∃ (D : va_G) (cA : Nat → ClassId) (Z : mZ), Cx D cA Z (bsO s.heap.size) s := by
  obtain ⟨-, -, -, -, -, hts, -, -, -, hgv⟩ := C0
  have htg : ∀ w ∈ gw, w.before #[Value.ref b] s = true := fun w hw => hts w (List.mem_filter.mp hw).1
  have hg := flat_of_before given9 hgv
  have hA : ∀ a : Nat, a < s.heap.size → ¬ Ab (bsO s.heap.size) a := fun a h => Nat.not_le.mpr h
  obtain ⟨c0, i0, k0⟩ := u_known (C := RX0) (T := TX0) (N := 5) (n := 5) htg iX0 (htg (.instantiable RX0 5) (gw_of 363 (by decide +kernel) (by decide +kernel)))
  obtain ⟨c1, i1, k1⟩ := u_known (C := RX1) (T := TX1) (N := 6) (n := 6) htg iX1 (htg (.instantiable RX1 6) (gw_of 406 (by decide +kernel) (by decide +kernel)))
  obtain ⟨c2, i2, k2⟩ := u_known (C := RX2) (T := TX2) (N := 19) (n := 19) htg iX2 (htg (.instantiable RX2 19) (gw_of 732 (by decide +kernel) (by decide +kernel)))
  obtain ⟨c3, i3, k3⟩ := u_known (C := RX3) (T := TX3) (N := 18) (n := 18) htg iX3 (htg (.instantiable RX3 18) (gw_of 40 (by decide +kernel) (by decide +kernel)))
  obtain ⟨c4, i4, k4⟩ := u_known (C := RX4) (T := TX4) (N := 5) (n := 5) htg iX4 (htg (.instantiable RX4 5) (gw_of 295 (by decide +kernel) (by decide +kernel)))
  obtain ⟨c5, i5, k5⟩ := u_known (C := RX5) (T := TX5) (N := 14) (n := 14) htg iX5 (htg (.instantiable RX5 14) (gw_of 236 (by decide +kernel) (by decide +kernel)))
  obtain ⟨c6, i6, k6⟩ := u_known (C := RX6) (T := TX6) (N := 5) (n := 5) htg iX6 (htg (.instantiable RX6 5) (gw_of 165 (by decide +kernel) (by decide +kernel)))
  obtain ⟨c7, i7, k7⟩ := u_known (C := RX7) (T := TX7) (N := 12) (n := 12) htg iX7 (htg (.instantiable RX7 12) (gw_of 317 (by decide +kernel) (by decide +kernel)))
  obtain ⟨c8, i8, k8⟩ := u_known (C := RX8) (T := TX8) (N := 8) (n := 8) htg iX8 (htg (.instantiable RX8 8) (gw_of 31 (by decide +kernel) (by decide +kernel)))
  obtain ⟨c9, i9, k9⟩ := u_known (C := RX9) (T := TX9) (N := 4) (n := 4) htg iX9 (htg (.instantiable RX9 4) (gw_of 385 (by decide +kernel) (by decide +kernel)))
  obtain ⟨c10, i10, k10⟩ := u_known (C := RX10) (T := TX10) (N := 6) (n := 6) htg iX10 (htg (.instantiable RX10 6) (gw_of 434 (by decide +kernel) (by decide +kernel)))
  obtain ⟨c11, i11, k11⟩ := u_known (C := RX11) (T := TX11) (N := 10) (n := 10) htg iX11 (htg (.instantiable RX11 10) (gw_of 23 (by decide +kernel) (by decide +kernel)))
  obtain ⟨c12, i12, k12⟩ := u_known (C := RX12) (T := TX12) (N := 49) (n := 49) htg iX12 (htg (.instantiable RX12 49) (gw_of 1300 (by decide +kernel) (by decide +kernel)))
  obtain ⟨a13, b13, d13, e13, f13, g13⟩ := Cond.arrayClass_spec (htg (.arrayClass .byte) ac_byte)
  obtain ⟨a14, b14, d14, e14, f14, g14⟩ := Cond.arrayClass_spec (htg (.arrayClass .int) ac_int)
  obtain ⟨a15, b15, d15, e15, f15, g15⟩ := Cond.arrayClass_spec (htg (.arrayClass .long) ac_long)
  obtain ⟨a16, b16, d16, e16, f16, g16⟩ := Cond.arrayClass_spec (htg (.arrayClass .boolean) ac_boolean)
  obtain ⟨d17, a17, b17, h17, -, f17, g17, e17⟩ := Cond.arrayOver_spec (hts (.arrayOver (.object "EchoStair$Evening")) (sz_ao _ (by decide)))
  obtain ⟨d18, a18, b18, h18, -, f18, g18, e18⟩ := Cond.arrayOver_spec (hts (.arrayOver (.object "EchoStair$House")) (sz_ao _ (by decide)))
  obtain ⟨d19, a19, b19, h19, -, f19, g19, e19⟩ := Cond.arrayOver_spec (hts (.arrayOver (.object "EchoStair$Reading")) (sz_ao _ (by decide)))
  obtain ⟨d20, a20, b20, h20, -, f20, g20, e20⟩ := Cond.arrayOver_spec (hts (.arrayOver (.object "EchoStair$Told")) (sz_ao _ (by decide)))
  obtain ⟨D, hD⟩ : ∃ D : va_G, ∀ (k : Nat) (q : vw_C), cls13[k]? = some q → u_Kn s q.1 q.2.1 q.2.2 (D.1 k) (D.2 k) := by
    refine ⟨(fun k => if k = 0 then c0 else if k = 1 then c1 else if k = 2 then c2 else if k = 3 then c3 else if k = 4 then c4 else if k = 5 then c5 else if k = 6 then c6 else if k = 7 then c7 else if k = 8 then c8 else if k = 9 then c9 else if k = 10 then c10 else if k = 11 then c11 else c12, fun k => if k = 0 then i0 else if k = 1 then i1 else if k = 2 then i2 else if k = 3 then i3 else if k = 4 then i4 else if k = 5 then i5 else if k = 6 then i6 else if k = 7 then i7 else if k = 8 then i8 else if k = 9 then i9 else if k = 10 then i10 else if k = 11 then i11 else i12), ?_⟩
    intro k q hq
    match k, hq with
    | 0, hq => cases hq; exact k0
    | 1, hq => cases hq; exact k1
    | 2, hq => cases hq; exact k2
    | 3, hq => cases hq; exact k3
    | 4, hq => cases hq; exact k4
    | 5, hq => cases hq; exact k5
    | 6, hq => cases hq; exact k6
    | 7, hq => cases hq; exact k7
    | 8, hq => cases hq; exact k8
    | 9, hq => cases hq; exact k9
    | 10, hq => cases hq; exact k10
    | 11, hq => cases hq; exact k11
    | 12, hq => cases hq; exact k12
    | k + 13, hq => simp [cls13] at hq
  obtain ⟨cA, hcA⟩ : ∃ cA : Nat → ClassId, cA 13 = a13 ∧ cA 14 = a14 ∧ cA 15 = a15 ∧ cA 16 = a16 ∧ cA 17 = a17 ∧ cA 18 = a18 ∧ cA 19 = a19 ∧ cA 20 = a20 := ⟨fun k => if k = 13 then a13 else if k = 14 then a14 else if k = 15 then a15 else if k = 16 then a16 else if k = 17 then a17 else if k = 18 then a18 else if k = 19 then a19 else a20, rfl, rfl, rfl, rfl, rfl, rfl, rfl, rfl⟩
  obtain ⟨q13, q14, q15, q16, q17, q18, q19, q20⟩ := hcA
  obtain ⟨t0, u0, v0⟩ := va_Tof (tm := .static "EchoStair$Reader" "SLOTS" "[I") (f := fun k => .int (tb_slots k)) (N := 8) (A := Ab (bsO s.heap.size)) (by decide) (hg _ sz_SLOTS.1) (va_eqt (hg _ sz_SLOTS.2.1)) (fun j hj => va_eqt (hg _ (sz_SLOTS.2.2 j hj))) hA
  obtain ⟨t1, u1, v1⟩ := va_Tof (tm := .static "EchoStair$Reader" "LEAST" "[I") (f := fun k => .int (tb_least k)) (N := 32) (A := Ab (bsO s.heap.size)) (by decide) (hg _ sz_LEAST.1) (va_eqt (hg _ sz_LEAST.2.1)) (fun j hj => va_eqt (hg _ (sz_LEAST.2.2 j hj))) hA
  obtain ⟨t2, u2, v2⟩ := va_Tof (tm := .static "EchoStair$Reader" "MOST" "[I") (f := fun k => .int (tb_most k)) (N := 32) (A := Ab (bsO s.heap.size)) (by decide) (hg _ sz_MOST.1) (va_eqt (hg _ sz_MOST.2.1)) (fun j hj => va_eqt (hg _ (sz_MOST.2.2 j hj))) hA
  obtain ⟨adK, adV, hVS, hev⟩ := vk_Sof (N := 8) (tm := fun i => Term.string "EchoStair$Reader" (tb_sx.getD i 0)) (len := tb_len) (byt := tb_byt) (A := Ab (bsO s.heap.size)) (by decide) (fun i hi => hg _ (sz_str1 i hi).1) (fun i hi => hg _ (sz_str1 i hi).2.1) (fun i hi => hg _ (sz_str1 i hi).2.2.1) (fun i hi => hg _ (sz_str1 i hi).2.2.2) (fun i hi j hj => hg _ (sz_str2 i hi j hj)) (fun i j hi hj hij => (sz_str3 i hi j hj hij).imp (hg _) (hg _)) hA
  refine ⟨D, cA, (fun k => if k = 0 then t0 else if k = 1 then t1 else t2, adK, adV), ⟨hD, ?_⟩, fun q hq => va_Nw.of rfl (hts _ (sz_nest q hq)), ⟨va_Zof (hts _ (sz_ls ("EchoStair$Reader", "SLOTS", "[I") (by decide)).1) (hts _ (sz_ls ("EchoStair$Reader", "SLOTS", "[I") (by decide)).2) u0 hA, v0⟩, ⟨va_Zof (hts _ (sz_ls ("EchoStair$Reader", "LEAST", "[I") (by decide)).1) (hts _ (sz_ls ("EchoStair$Reader", "LEAST", "[I") (by decide)).2) u1 hA, v1⟩, ⟨va_Zof (hts _ (sz_ls ("EchoStair$Reader", "MOST", "[I") (by decide)).1) (hts _ (sz_ls ("EchoStair$Reader", "MOST", "[I") (by decide)).2) u2 hA, v2⟩, va_Zof (hts _ (sz_ls ("java/lang/String", "COMPACT_STRINGS", "Z") (by decide)).1) (hts _ (sz_ls ("java/lang/String", "COMPACT_STRINGS", "Z") (by decide)).2) (va_eqi (hg _ sz_cs.1)) hA, va_Zqof (hts _ (sz_ls ("jdk/internal/util/Preconditions", "SIOOBE_FORMATTER", "Ljava/util/function/BiFunction;") (by decide)).1) (hts _ (sz_ls ("jdk/internal/util/Preconditions", "SIOOBE_FORMATTER", "Ljava/util/function/BiFunction;") (by decide)).2) (hg _ sz_cs.2) hA, fun i hi => vk_R.of (A := #[Value.ref b]) (hts _ (sz_str4 i hi)) (hev i hi), hVS, fun C hC => va_AO.of (A := #[Value.ref b]) (hts _ (sz_ao C hC))⟩
  intro k q hq
  match k, hq with
  | 0, hq => cases hq; rw [q13]; exact ⟨fun n z => ⟨fun k h => (by cases h), b13, f13, d13, g13⟩, e13⟩
  | 1, hq => cases hq; rw [q14]; exact ⟨fun n z => ⟨fun k h => (by cases h), b14, f14, d14, g14⟩, e14⟩
  | 2, hq => cases hq; rw [q15]; exact ⟨fun n z => ⟨fun k h => (by cases h), b15, f15, d15, g15⟩, e15⟩
  | 3, hq => cases hq; rw [q16]; exact ⟨fun n z => ⟨fun k h => (by cases h), b16, f16, d16, g16⟩, e16⟩
  | 4, hq => cases hq; rw [q17]; exact ⟨fun n z => ⟨fun k h => (by cases h), b17, f17, d17, g17⟩, b17, d17, f17, g17, h17, e17⟩
  | 5, hq => cases hq; rw [q18]; exact ⟨fun n z => ⟨fun k h => (by cases h), b18, f18, d18, g18⟩, b18, d18, f18, g18, h18, e18⟩
  | 6, hq => cases hq; rw [q19]; exact ⟨fun n z => ⟨fun k h => (by cases h), b19, f19, d19, g19⟩, b19, d19, f19, g19, h19, e19⟩
  | 7, hq => cases hq; rw [q20]; exact ⟨fun n z => ⟨fun k h => (by cases h), b20, f20, d20, g20⟩, b20, d20, f20, g20, h20, e20⟩
  | k + 8, hq => simp [mtys] at hq
def mK0 : mK := fun _ => (99, 0)
def mR0 : mR := fun _ => r0
def mI0 : mI := fun _ => i0
def mL0 : mL := fun _ => l0
theorem mm_0 (D : va_G) (cA : Nat → ClassId) (H : Heap) : mm D cA (bsO H.size) (0, mK0, mR0, mI0, mL0) H := by
  have no : ∀ c, ¬ lve mK0 c := fun c h => h rfl
  refine ⟨⟨Nat.le_refl _, fun c _ => ?_⟩, fun c _ => rfl, fun c hc => absurd hc (no c), fun c _ hc _ _ => absurd hc (no c), fun c _ _ hc _ _ => absurd hc (no c), fun a ha => (by cases ha), fun j _ ha => (by cases ha)⟩
  show H.size + c = H.size + (c - 0)
  omega
/-! behind the class's object: its evenings are hidden, at 94 and 111; the reference's object is made at 128 -/
def bsG (bs : Ad) : Ad := (bs.1, (fun c => if c < 94 then ad bs c else if c < 128 then 0 else ad bs (c - 34)), (fun c => decide (94 ≤ c ∧ c < 128)))
def ghR (R : mR) : mR := fun c => if c = 65 then (fun k => if k < 2 then some (94 + 17 * k) else none) else if c = 94 ∨ c = 111 then (fun k => if k = 0 then some (5 + 19 * ((c - 94) / 17)) else if 3 ≤ k ∧ k < 19 then some (c + (k - 2)) else none) else R c
def ghI (I : mI) : mI := fun c => if 94 ≤ c ∧ c < 128 then i0 else I c
def ghL (L : mL) : mL := fun c => if 94 ≤ c ∧ c < 128 then l0 else L c
set_option maxHeartbeats 4000000 in
theorem mm_gh {D : va_G} {cA : Nat → ClassId} {bs : Ad} {K : mK} {R : mR} {I : mI} {L : mL} {H : Heap} (hM : mm D cA bs (94, K, R, I, L) H) (k65 : (K 65).1 = 17) (r65 : ∀ k, R 65 k = none) : mm D cA (bsG bs) (128, K, ghR R, ghI I, ghL L) H := by
  obtain ⟨⟨h1, h2⟩, h3, h4, h5, h6, h7, h8⟩ := hM
  have nh : ∀ a, bs.2.2 a = false := fun a => by
    cases q : bs.2.2 a with
    | false => rfl
    | true => have this : 128 ≤ 94 := (h7 a q).1.2.2; exact absurd this (by decide)
  have lt : ∀ c, lve K c → c < 94 := fun c hc => by
    rcases Nat.lt_or_ge c 94 with q | q
    · exact q
    · exact absurd (h3 c q) hc
  have adl : ∀ c, c < 94 → ad (bsG bs) c = ad bs c := fun c hc => by
    show (if c < 94 then _ else _) = _
    rw [if_pos hc]
  have rl : ∀ c k a, lve K c → rk (K c).1 k → R c k = some a → lve K a := fun c k a hc hr hR => (h6 c k a hc hr hR).resolve_right (fun q => by have := q.2.2.2; rw [nh a] at this; cases this)
  have hRc : ∀ c, c < 94 → c ≠ 65 → ghR R c = R c := fun c hc h65 => by
    unfold ghR
    rw [if_neg h65, if_neg (by omega)]
  have hIc : ∀ c, c < 94 → ghI I c = I c := fun c hc => by unfold ghI; rw [if_neg (by omega)]
  have hLc : ∀ c, c < 94 → ghL L c = L c := fun c hc => by unfold ghL; rw [if_neg (by omega)]
  have g65 : ∀ k, ghR R 65 k = if k < 2 then some (94 + 17 * k) else none := fun k => by unfold ghR; rw [if_pos rfl]
  have hh : ∀ a, (bsG bs).2.2 a = true ↔ 94 ≤ a ∧ a < 128 := fun a => by
    show decide (94 ≤ a ∧ a < 128) = true ↔ _
    rw [decide_eq_true_iff]
  have hf : ∀ a, a < 94 → (bsG bs).2.2 a = false := fun a ha => by
    cases q : (bsG bs).2.2 a with
    | false => rfl
    | true => have := (hh a).mp q; omega
  have mo : ∀ a : Option Nat, (∀ x, a = some x → lve K x) → mrf (bsG bs) a = mrf bs a := fun a ha => by
    cases a with
    | none => rfl
    | some x => unfold mrf; simp only [Option.map_some]; rw [adl x (lt x (ha x rfl))]
  refine ⟨⟨h1, fun c hc => ?_⟩, fun c hc => ?_, fun c hc => ?_, fun c d hc hd e => ?_, fun c k a hc hr hR => ?_, fun a ha => ?_, fun j hj ha i hi => ?_⟩
  · have hc' : 128 ≤ c := hc
    have : ad (bsG bs) c = ad bs (c - 34) := by
      show (if c < 94 then _ else _) = _
      rw [if_neg (by omega), if_neg (by omega)]
    rw [this, h2 (c - 34) (by show 94 ≤ c - 34; omega)]
    show H.size + (c - 34 - 94) = H.size + (c - 128)
    omega
  · have hc' : 128 ≤ c := hc
    exact h3 c (by show 94 ≤ c; omega)
  · have hc' : lve K c := hc
    have hlt := lt c hc'
    show Ab (bsG bs) (ad (bsG bs) c) ∧ va_at D cls13 (ad (bsG bs) c, mcell cA (bsG bs) K (ghR R) (ghI I) (ghL L) c) H
    rw [adl c hlt]
    refine ⟨(h4 c hc').1, ?_⟩
    have key : mcell cA (bsG bs) K (ghR R) (ghI I) (ghL L) c = mcell cA bs K R I L c := by
      unfold mcell
      rw [hIc c hlt, hLc c hlt]
      by_cases h13 : (K c).1 < 13
      · rw [if_pos h13, if_pos h13]
        have h65 : c ≠ 65 := fun q => by rw [q, k65] at h13; exact absurd h13 (by decide)
        rw [hRc c hlt h65]
        congr 2
        refine mfl_ext rfl _ _ (fun k hk => ?_)
        rw [Nat.zero_add]
        exact mo _ (fun x hx => rl c k x hc' (Or.inl hk) hx)
      · rw [if_neg h13, if_neg h13]
        by_cases h15 : (K c).1 = 15
        · rw [if_pos h15, if_pos h15]
        · rw [if_neg h15, if_neg h15]
          by_cases h17 : (K c).1 < 17
          · rw [if_pos h17, if_pos h17]
          · rw [if_neg h17, if_neg h17]
            refine congrArg (fun g : Nat → Option Nat => (Sum.inl (cA (K c).1, (K c).2, Sum.inr (Sum.inr (Sum.inr (Sum.inr g)))) : va_E)) ?_
            funext k
            by_cases h65 : c = 65
            · subst h65
              rw [k65, r65 k, g65 k, ent_n]
              by_cases hk : k < 2
              · rw [if_pos hk, ent_h ((hh _).mpr ⟨by omega, by omega⟩)]
              · rw [if_neg hk, ent_n]
            · rw [hRc c hlt h65]
              cases hq : R c k with
              | none => rw [ent_n, ent_n]
              | some a =>
                have q := lt a (rl c k a hc' (Or.inr (by omega)) hq)
                rw [ent_s (Or.inr (hf a q)), ent_s (Or.inr (nh a)), adl a q]
    rw [key]; exact (h4 c hc').2
  · rw [adl c (lt c hc), adl d (lt d hd)] at e
    exact h5 c d hc hd e
  · show lve K a ∨ hid (bsG bs) c k a
    have hc' : lve K c := hc
    by_cases h65 : c = 65
    · subst h65
      have hR' : ghR R 65 k = some a := hR
      rw [g65 k] at hR'
      by_cases hk : k < 2
      · rw [if_pos hk] at hR'
        cases hR'
        exact Or.inr ⟨rfl, hk, rfl, (hh _).mpr ⟨by omega, by omega⟩⟩
      · rw [if_neg hk] at hR'; cases hR'
    · have hR' : ghR R c k = some a := hR
      rw [hRc c (lt c hc') h65] at hR'
      exact Or.inl (rl c k a hc' hr hR')
  · have q := (hh a).mp ha
    refine ⟨⟨q.1, q.2, Nat.le_refl _⟩, fun hl => hl (h3 a q.1), ?_, ?_⟩
    · show ghI I a = i0
      unfold ghI; rw [if_pos q]
    · show ghL L a = l0
      unfold ghL; rw [if_pos q]
  · exact (hh _).mpr ⟨by omega, by omega⟩
/-- what is left to show of the law: from its entry, over the memory alone -/
def w_L_start (xs : Nat → Int32) (Ls : Nat) : Prop := ∀ K1 R1 I1 L1, al mK0 mR0 mI0 mL0 0 (11, 10) K1 R1 I1 L1 → (K1 0).1 = 11 ∧ w_X11_init 1 K1 R1 I1 L1 0 (fun K R I L => (K 65).1 = 17 ∧ (∀ k, R 65 k = none) ∧ ∀ R9, R9 = ghR R → ∀ I9, I9 = ghI I → ∀ L9, L9 = ghL L → ∀ K2 R2 I2 L2, al K R9 I9 L9 128 (12, 49) K2 R2 I2 L2 → (K2 128).1 = 12 ∧ w_X12_init 129 K2 R2 I2 L2 128 (fun K R I L => w_L_loop xs Ls 151 K R I L 0))
set_option maxRecDepth 100000 in
set_option maxHeartbeats 4000000 in
theorem whole_start0 {p : Program} {e : Env} {s : State} {m : MethodId} {below : List Frame} {meth : Method} {c : Code} (l : Launch) {b L : Nat} {xs : Nat → Int32} (hpure : w_L_start xs L) (C0 : lw_At p s m meth c b L xs) : W p l e room_1 s m #[Value.ref b] below meth c s.heap [] 0 0 (lw_Z below #[Value.ref b] s) (entryFrame m ([Value.ref b] : List Value).toArray 4) := by
  obtain ⟨D, cA, Z, hCx⟩ := start_Cx C0
  obtain ⟨hx, hb, hr, hml, hown, hts, hX, hbl, hlk, hgv⟩ := id C0
  have htg : ∀ w ∈ gw, w.before #[Value.ref b] s = true := fun w hw => hts w (List.mem_filter.mp hw).1
  have E : Ev p s m #[Value.ref b] c code 4 RL D cA Z (bsO s.heap.size) := ⟨⟨hx, hb, hml, hown, htg⟩, hCx⟩
  have hbA : ¬ Ab (bsO s.heap.size) b := Nat.not_le.mpr hbl
  have hM : mm D cA (bsO s.heap.size) (0, mK0, mR0, mI0, mL0) s.heap := mm_0 D cA s.heap
  have hS : va_S (Ab (bsO s.heap.size)) s.heap s.heap [] := va_S.rf
  have hbs : (bsO s.heap.size).1 = s.heap.size := rfl
  have hl := lv_entry ([.ref b]) (n := 4) (Nat.le_of_ble_eq_true rfl)
  rw [lg_entry_eq]
  generalize (lg_sl ([.ref b]) ++ List.replicate (4 - (lg_sl ([.ref b])).length) Slot.unset).toArray = ls at hl ⊢
  have hl : lv_has ls 4 [(0, .ref b)] := hl
  generalize bsO s.heap.size = bs at *
  generalize hHe : s.heap = H at hM ⊢
  have hS : va_S (Ab bs) s.heap H [] := by rw [← hHe]; exact hS
  clear hHe
  refine m_new E hM hS nw_L_7 (Nat.le_of_ble_eq_true rfl) (Nat.le_of_ble_eq_true rfl) dL_law_0 (fun K1 R1 I1 L1 H ea hM hS => ?_)
  obtain ⟨hk, hw⟩ := hpure K1 R1 I1 L1 ea
  refine lv_dup hx hb dL_law_3 rfl ?_
  refine m_cv (m_runI E hM hS cs_L_9 (c_X11_init hk hw) rfl rfl ⟨Nat.le_of_ble_eq_true rfl, Nat.le_of_ble_eq_true rfl⟩ rfl hl.1 rfl (Nat.le_of_ble_eq_true rfl) dL_law_4 ⟨Nat.le_of_ble_eq_true rfl, Nat.le_of_ble_eq_true rfl⟩) hS (fun u H locs hp hM hS => ?_)
  obtain ⟨K2, R2, I2, L2, rfl, k65, r65, hw⟩ := hp
  have hM := mm_gh hM k65 r65
  have hw := hw _ rfl _ rfl _ rfl
  have e0 : ad (bsG bs) 0 = ad bs 0 := rfl
  rw [← e0]
  have E : Ev p s m #[Value.ref b] c code 4 RL D cA Z (bsG bs) := Ev_e rfl E
  have hbA : ¬ Ab (bsG bs) b := hbA
  have hS : va_S (Ab (bsG bs)) s.heap H locs := by rw [Ab_e (bs := bs) (bs1 := bsG bs) rfl]; exact hS
  have hbs : (bsG bs).1 = s.heap.size := hbs
  generalize bsG bs = bs at *
  refine lv_astore_n (lv' := [(1, .ref (ad bs 0)), (0, .ref b)]) hx hb dL_law_7 rfl hl (by decide) rfl (fun ls hl => ?_)
  refine m_new E hM hS nw_L_10 (Nat.le_of_ble_eq_true rfl) (Nat.le_of_ble_eq_true rfl) dL_law_8 (fun K3 R3 I3 L3 H ea hM hS => ?_)
  obtain ⟨hk, hw⟩ := hw K3 R3 I3 L3 ea
  refine lv_dup hx hb dL_law_11 rfl ?_
  refine m_cv (m_runI E hM hS cs_L_12 (c_X12_init hk hw) rfl rfl ⟨Nat.le_of_ble_eq_true rfl, Nat.le_of_ble_eq_true rfl⟩ rfl hl.1 rfl (Nat.le_of_ble_eq_true rfl) dL_law_12 ⟨Nat.le_of_ble_eq_true rfl, Nat.le_of_ble_eq_true rfl⟩) hS (fun u H locs hp hM hS => ?_)
  obtain ⟨K4, R4, I4, L4, rfl, hw⟩ := hp
  refine lv_astore_n (lv' := [(2, .ref (ad bs 128)), (1, .ref (ad bs 0)), (0, .ref b)]) hx hb dL_law_15 rfl hl (by decide) rfl (fun ls hl => ?_)
  refine lv_iconst (v := 0) hx hb dL_law_16 (by decide) ?_
  refine lv_istore_n (lv' := [(3, .int 0), (2, .ref (ad bs 128)), (1, .ref (ad bs 0)), (0, .ref b)]) hx hb dL_law_17 rfl hl (by decide) rfl (fun ls hl => ?_)
  refine W.widen (k := 151) (n := 33822) (Nat.le_of_ble_eq_true rfl) (Nat.le_of_ble_eq_true rfl) ?_
  exact s_L_loop E hX hbl hbA hr hlk hbs hw hM hS (lv_sub hl [3, 2, 1, 0] rfl)
