/-! THE MEMORY: every object and array made since the law's entry has a number c, and lies at ad bs c; bs = (b, f, h): b the first address, f the addresses, h the cells that are hidden: told of by the memory, but not yet made (they are zero).
K c = (kind, length); kinds 0..12 objects of the classes X0..X12, 13 byte[], 14 int[], 15 long[], 16 boolean[], 17 Evening[], 18 House[], 19 Reading[], 20 Told[], 99 nothing.
R c k a reference (field k, element k), I c k an int, L c k a long. -/
abbrev mK : Type := Nat → Nat × Nat
abbrev mR : Type := Nat → Nat → Option Nat
abbrev mI : Type := Nat → Nat → Int32
abbrev mL : Type := Nat → Nat → Int64
abbrev Mm : Type := Nat × mK × mR × mI × mL
abbrev Ad : Type := Nat × (Nat → Nat) × (Nat → Bool)
def ad (bs : Ad) (c : Nat) : Nat := bs.2.1 c
def r0 : Nat → Option Nat := fun _ => none
def i0 : Nat → Int32 := fun _ => 0
def l0 : Nat → Int64 := fun _ => 0
abbrev cls13 : List vw_C := [(RX0, TX0, 5), (RX1, TX1, 6), (RX2, TX2, 19), (RX3, TX3, 18), (RX4, TX4, 5), (RX5, TX5, 14), (RX6, TX6, 5), (RX7, TX7, 12), (RX8, TX8, 8), (RX9, TX9, 4), (RX10, TX10, 6), (RX11, TX11, 10), (RX12, TX12, 49)]
def mflag (T : u_T) (N : Nat) : List Bool := (List.range N).map (fun k => (T k).2.2.1 == "I" || (T k).2.2.1 == "Z")
def mty (k : Nat) : List Bool := match cls13[k]? with
  | some q => mflag q.2.1 q.2.2
  | none => []
def mrf (bs : Ad) (o : Option Nat) : Value := va_rf (o.map (fun a => ad bs a))
def mfl (bs : Ad) (r : Nat → Option Nat) (i : Nat → Int32) : Nat → List Bool → List Value
  | _, [] => []
  | k, b :: l => (if b = true then Value.int (i k) else mrf bs (r k)) :: mfl bs r i (k + 1) l
theorem mfl_get (bs : Ad) (r : Nat → Option Nat) (i : Nat → Int32) : ∀ (l : List Bool) (k j : Nat), (mfl bs r i k l)[j]? = (l[j]?).map (fun b => if b = true then Value.int (i (k + j)) else mrf bs (r (k + j)))
  | [], k, j => by simp [mfl]
  | b :: l, k, 0 => by simp [mfl]
  | b :: l, k, j + 1 => by
    have ih := mfl_get bs r i l (k + 1) j
    rw [show k + 1 + j = k + (j + 1) by omega] at ih
    simpa [mfl] using ih
theorem mfl_len (bs : Ad) (r : Nat → Option Nat) (i : Nat → Int32) : ∀ (l : List Bool) (k : Nat), (mfl bs r i k l).length = l.length
  | [], _ => rfl
  | _ :: l, k => by simp [mfl, mfl_len bs r i l (k + 1)]
def up1 {α : Type} (f : Nat → α) (k : Nat) (v : α) : Nat → α := fun j => if j = k then v else f j
def up2 {α : Type} (f : Nat → Nat → α) (c k : Nat) (v : α) : Nat → Nat → α := fun d => if d = c then up1 (f c) k v else f d
theorem up1_s {α : Type} (f : Nat → α) (k : Nat) (v : α) : up1 f k v k = v := by simp [up1]
theorem up1_n {α : Type} (f : Nat → α) {k j : Nat} (v : α) (h : j ≠ k) : up1 f k v j = f j := by simp [up1, h]
theorem up2_s {α : Type} (f : Nat → Nat → α) (c k : Nat) (v : α) : up2 f c k v c = up1 (f c) k v := by simp [up2]
theorem up2_n {α : Type} (f : Nat → Nat → α) {c d : Nat} (k : Nat) (v : α) (h : d ≠ c) : up2 f c k v d = f d := by simp [up2, h]
theorem mfl_set_i (bs : Ad) (r : Nat → Option Nat) (i : Nat → Int32) (v : Int32) (l : List Bool) (j : Nat) (h : l[j]? = some true) : (mfl bs r i 0 l).set j (.int v) = mfl bs r (up1 i j v) 0 l := by
  apply List.ext_getElem?
  intro q
  rw [List.getElem?_set, mfl_get, mfl_get, mfl_len]
  by_cases hq : j = q
  · subst hq
    have hl := (List.getElem?_eq_some_iff.mp h).1
    rw [if_pos rfl, if_pos hl, h]
    simp [up1]
  · have hq' : ¬ q = j := fun e => hq e.symm
    simp [hq, up1, hq']
theorem mfl_set_r (bs : Ad) (r : Nat → Option Nat) (i : Nat → Int32) (v : Option Nat) (l : List Bool) (j : Nat) (h : l[j]? = some false) : (mfl bs r i 0 l).set j (mrf bs v) = mfl bs (up1 r j v) i 0 l := by
  apply List.ext_getElem?
  intro q
  rw [List.getElem?_set, mfl_get, mfl_get, mfl_len]
  by_cases hq : j = q
  · subst hq
    have hl := (List.getElem?_eq_some_iff.mp h).1
    rw [if_pos rfl, if_pos hl, h]
    simp [up1]
  · have hq' : ¬ q = j := fun e => hq e.symm
    simp [hq, up1, hq']
/-- an element of an array of references; of evenings: null while hidden -/
def ent (bs : Ad) (k : Nat) (o : Option Nat) : Option Nat := if k = 17 then o.bind (fun a => if bs.2.2 a = true then none else some (ad bs a)) else o.map (fun a => ad bs a)
theorem ent_n (bs : Ad) (k : Nat) : ent bs k none = none := by unfold ent; split <;> rfl
theorem ent_s {bs : Ad} {k v : Nat} (h : k ≠ 17 ∨ bs.2.2 v = false) : ent bs k (some v) = some (ad bs v) := by
  unfold ent
  by_cases hk : k = 17
  · have hv : bs.2.2 v = false := h.resolve_left (fun q => q hk)
    simp [hk, hv]
  · simp [hk]
theorem ent_h {bs : Ad} {v : Nat} (h : bs.2.2 v = true) : ent bs 17 (some v) = none := by simp [ent, h]
def mcell (cA : Nat → ClassId) (bs : Ad) (K : mK) (R : mR) (I : mI) (L : mL) (c : Nat) : va_E :=
  if (K c).1 < 13 then .inr ((K c).1, mfl bs (R c) (I c) 0 (mty (K c).1))
  else if (K c).1 = 15 then .inl (cA (K c).1, (K c).2, .inr (.inl (L c)))
  else if (K c).1 < 17 then .inl (cA (K c).1, (K c).2, .inl (I c))
  else .inl (cA (K c).1, (K c).2, .inr (.inr (.inr (.inr (fun j => ent bs (K c).1 (R c j))))))
def Ab (bs : Ad) : Nat → Prop := fun q => bs.1 ≤ q
/-- the k-th of a cell of that kind is a reference; the place of a hidden evening -/
def rk (kd k : Nat) : Prop := (mty kd)[k]? = some false ∨ 17 ≤ kd
def hid (bs : Ad) (c k a : Nat) : Prop := c = 65 ∧ k < 2 ∧ a = 94 + 17 * k ∧ bs.2.2 a = true
/-- the cell c lives -/
def lve (K : mK) (c : Nat) : Prop := (K c).1 ≠ 99
def mm (D : va_G) (cA : Nat → ClassId) (bs : Ad) (M : Mm) (H : Heap) : Prop :=
  (bs.1 ≤ H.size ∧ ∀ c, M.1 ≤ c → ad bs c = H.size + (c - M.1)) ∧ (∀ c, M.1 ≤ c → (M.2.1 c).1 = 99) ∧
  (∀ c, lve M.2.1 c → Ab bs (ad bs c) ∧ va_at D cls13 (ad bs c, mcell cA bs M.2.1 M.2.2.1 M.2.2.2.1 M.2.2.2.2 c) H) ∧
  (∀ c d, lve M.2.1 c → lve M.2.1 d → ad bs c = ad bs d → c = d) ∧
  (∀ c k a, lve M.2.1 c → rk (M.2.1 c).1 k → M.2.2.1 c k = some a → lve M.2.1 a ∨ hid bs c k a) ∧
  (∀ a, bs.2.2 a = true → (94 ≤ a ∧ a < 128 ∧ 128 ≤ M.1) ∧ ¬ lve M.2.1 a ∧ M.2.2.2.1 a = i0 ∧ M.2.2.2.2 a = l0) ∧ (∀ j, j < 2 → bs.2.2 (94 + 17 * j) = true → ∀ i, i < 17 → bs.2.2 (94 + 17 * j + i) = true)
theorem mm_lt {D : va_G} {cA : Nat → ClassId} {bs : Ad} {M : Mm} {H : Heap} (h : mm D cA bs M H) {c : Nat} (hk : (M.2.1 c).1 ≠ 99) : c < M.1 := by
  rcases Nat.lt_or_ge c M.1 with q | q
  · exact q
  · exact absurd (h.2.1 c q) hk
theorem mm_h {D : va_G} {cA : Nat → ClassId} {bs : Ad} {M : Mm} {H : Heap} (h : mm D cA bs M H) {c : Nat} (hk : (M.2.1 c).1 ≠ 99) : bs.2.2 c = false := by
  cases q : bs.2.2 c with
  | false => rfl
  | true => exact absurd hk (h.2.2.2.2.2.1 c q).2.1
theorem mm_ab {D : va_G} {cA : Nat → ClassId} {bs : Ad} {M : Mm} {H : Heap} (h : mm D cA bs M H) {c : Nat} (hk : (M.2.1 c).1 ≠ 99) : Ab bs (ad bs c) := (h.2.2.1 c hk).1
/-- one cell of the memory, as a world of its own -/
theorem mm_P {D : va_G} {cA : Nat → ClassId} {bs : Ad} {M : Mm} {H : Heap} (h : mm D cA bs M H) {c : Nat} (hk : (M.2.1 c).1 ≠ 99) {x : va_E} (hx : mcell cA bs M.2.1 M.2.2.1 M.2.2.2.1 M.2.2.2.2 c = x) : va_P D cls13 [(ad bs c, x)] H := fun k q hq => by
  match k, hq with
  | 0, hq => cases hq; rw [← hx]; exact (h.2.2.1 c hk).2
  | k + 1, hq => simp at hq
theorem mm_at {D : va_G} {cA : Nat → ClassId} {bs : Ad} {M : Mm} {H : Heap} (h : mm D cA bs M H) {c : Nat} (hk : (M.2.1 c).1 ≠ 99) {x : va_E} (hx : mcell cA bs M.2.1 M.2.2.1 M.2.2.2.1 M.2.2.2.2 c = x) : va_at D cls13 (ad bs c, x) H := by
  rw [← hx]; exact (h.2.2.1 c hk).2
theorem mcell_o (cA : Nat → ClassId) (bs : Ad) (K : mK) (R : mR) (I : mI) (L : mL) {c ci : Nat} (h : (K c).1 = ci) (hc : ci < 13) : mcell cA bs K R I L c = .inr (ci, mfl bs (R c) (I c) 0 (mty ci)) := by
  simp [mcell, h, hc]
theorem mcell_i (cA : Nat → ClassId) (bs : Ad) (K : mK) (R : mR) (I : mI) (L : mL) {c k n : Nat} (h : K c = (k, n)) (hk : k = 13 ∨ k = 14 ∨ k = 16) : mcell cA bs K R I L c = .inl (cA k, n, .inl (I c)) := by
  rcases hk with rfl | rfl | rfl <;> simp [mcell, h]
theorem mcell_l (cA : Nat → ClassId) (bs : Ad) (K : mK) (R : mR) (I : mI) (L : mL) {c n : Nat} (h : K c = (15, n)) : mcell cA bs K R I L c = .inl (cA 15, n, .inr (.inl (L c))) := by
  simp [mcell, h]
theorem mcell_q (cA : Nat → ClassId) (bs : Ad) (K : mK) (R : mR) (I : mI) (L : mL) {c k n : Nat} (h : K c = (k, n)) (hk : 17 ≤ k) : mcell cA bs K R I L c = .inl (cA k, n, .inr (.inr (.inr (.inr (fun j => ent bs k (R c j)))))) := by
  have h1 : ¬ k < 13 := by omega
  have h2 : ¬ k = 15 := by omega
  have h3 : ¬ k < 17 := by omega
  simp [mcell, h, h1, h2, h3]
/-! the words -/
def gw : List Cond := lw_tbl.filter goodWord
theorem gw_of {w : Cond} (i : Nat) (h : tables_1[i]? = some w) (hg : goodWord w = true) : w ∈ gw := List.mem_filter.mpr ⟨List.mem_append_right _ (List.mem_of_getElem? h), hg⟩
theorem gw_p {w : Cond} (i : Nat) (h : (k2_sels lw_privs)[i]? = some w) (hg : goodWord w = true) : w ∈ gw := List.mem_filter.mpr ⟨List.mem_append_left _ (List.mem_of_getElem? h), hg⟩
theorem gw_good {w : Cond} (h : w ∈ gw) : w ∈ gw ∧ ((w.onTables && w.keeps) = true ∨ ∃ ty, w = .arrayClass ty) := ⟨h, good_of_word (List.mem_filter.mp h).2⟩
theorem gw_app (a : List Cond) (h : ∀ w ∈ a, w ∈ gw) : GoodIn gw (a ++ gw) := fun w hw => by
  rcases List.mem_append.mp hw with q | q
  · exact gw_good (h w q)
  · exact gw_good q
/-! what a state says beside its heap: classes, array classes, the nest's links, the reader's tables -/
def mtys (cA : Nat → ClassId) : List (ClassId × FieldType) := [(cA 13, .byte), (cA 14, .int), (cA 15, .long), (cA 16, .boolean), (cA 17, .object "EchoStair$Evening"), (cA 18, .object "EchoStair$House"), (cA 19, .object "EchoStair$Reading"), (cA 20, .object "EchoStair$Told")]
def nestq : List (String × Nat × MethodName) := [("EchoStair$Told", 31, ⟨"EchoStair$House", "<init>", "()V"⟩), ("EchoStair$Told", 32, ⟨"EchoStair$Reading", "<init>", "()V"⟩), ("EchoStair$Reader", 11, ⟨"EchoStair$House", "<init>", "()V"⟩), ("EchoStair$Reader", 20, ⟨"EchoStair$Reading", "<init>", "()V"⟩), ("EchoStair", 41, ⟨"EchoStair$Others", "<init>", "()V"⟩), ("EchoStair", 48, ⟨"EchoStair$Route", "<init>", "()V"⟩), ("EchoStair", 55, ⟨"EchoStair$Delay", "<init>", "()V"⟩), ("EchoStair", 62, ⟨"EchoStair$Wardrobe", "<init>", "()V"⟩), ("EchoStair", 69, ⟨"EchoStair$Dream", "<init>", "()V"⟩), ("EchoStair", 76, ⟨"EchoStair$Witness", "<init>", "()V"⟩), ("EchoStair$Evening", 148, ⟨"EchoStair", "pick", "([IIII)I"⟩), ("EchoStair$Evening", 155, ⟨"EchoStair", "has", "(II)Z"⟩), ("EchoStair$Others", 68, ⟨"EchoStair", "pick", "([IIII)I"⟩), ("EchoStair$Others", 72, ⟨"EchoStair", "has", "(II)Z"⟩), ("EchoStair$Route", 120, ⟨"EchoStair", "has", "(II)Z"⟩), ("EchoStair$Wardrobe", 57, ⟨"EchoStair", "has", "(II)Z"⟩), ("EchoStair$Witness", 91, ⟨"EchoStair", "has", "(II)Z"⟩), ("EchoStair$Dream", 92, ⟨"EchoStair", "has", "(II)Z"⟩)]
def tb_slots : Nat → Int32 := fun k => [1, 1, 2, 2, 3, 4, 3, 4].getD k 0
def tb_least : Nat → Int32 := fun k => [2, 0, 0, 0, 0, 0, 0, 0, 0, 0, 0, 0, 0, 0, 0, 0, 0, 1, 1, 0, 0, 0, 0, 0, 0, 0, 0, 0, 0, 0, 0, 0].getD k 0
def tb_most : Nat → Int32 := fun k => [24, 0, 0, 0, 99, 0, 0, 0, 23, 9, 0, 0, 23, 9, 0, 0, 9, 9, 4, 0, 5, 60, 23, 23, 5, 99, 9, 0, 5, 99, 9, 9].getD k 0
abbrev mZ : Type := (Nat → Nat) × (Nat → Nat) × (Nat → Nat)
def tb_sx : List Nat := [119, 120, 122, 124, 126, 128, 130, 132]
def tb_tx : List String := ["steps", "keep", "carpet", "flat", "person", "walk", "change", "heard"]
def tb_len : List Nat := [5, 4, 6, 4, 6, 4, 6, 5]
def tb_byt : List (List Int32) := [[115, 116, 101, 112, 115], [107, 101, 101, 112], [99, 97, 114, 112, 101, 116], [102, 108, 97, 116], [112, 101, 114, 115, 111, 110], [119, 97, 108, 107], [99, 104, 97, 110, 103, 101], [104, 101, 97, 114, 100]]
def aoq : List String := ["EchoStair$Evening", "EchoStair$House", "EchoStair$Reading", "EchoStair$Told"]
def mst (Z : mZ) (bs : Ad) (U : State) (H : Heap) : Prop :=
  (va_Z "EchoStair$Reader" "SLOTS" "[I" (.ref (Z.1 0)) (Ab bs) U H ∧ va_T .int (Z.1 0) 8 (fun k => .int (tb_slots k)) (Ab bs) U H) ∧
  (va_Z "EchoStair$Reader" "LEAST" "[I" (.ref (Z.1 1)) (Ab bs) U H ∧ va_T .int (Z.1 1) 32 (fun k => .int (tb_least k)) (Ab bs) U H) ∧
  (va_Z "EchoStair$Reader" "MOST" "[I" (.ref (Z.1 2)) (Ab bs) U H ∧ va_T .int (Z.1 2) 32 (fun k => .int (tb_most k)) (Ab bs) U H) ∧
  va_Z "java/lang/String" "COMPACT_STRINGS" "Z" (.int 1) (Ab bs) U H ∧ va_Zq "jdk/internal/util/Preconditions" "SIOOBE_FORMATTER" "Ljava/util/function/BiFunction;" (Ab bs) U H ∧
  (∀ i, i < 8 → vk_R "EchoStair$Reader" (tb_sx.getD i 0) (tb_tx.getD i "") (Z.2.1 i) U) ∧ vk_S 8 tb_len tb_byt Z.2.1 Z.2.2 (Ab bs) U H ∧ (∀ C ∈ aoq, va_AO C U)
def Cx (D : va_G) (cA : Nat → ClassId) (Z : mZ) (bs : Ad) (U : State) : Prop := va_K D cls13 (mtys cA) U ∧ (∀ q ∈ nestq, va_Nw (.methodLinkNest q.1 q.2.1 q.2.2 "EchoStair") U) ∧ mst Z bs U U.heap
theorem mst_alike {Z : mZ} {bs : Ad} {u U : State} {H H1 : Heap} (hvm : u.vm.Alike U.vm) (hR : ∀ i, i < 8 → vk_R "EchoStair$Reader" (tb_sx.getD i 0) (tb_tx.getD i "") (Z.2.1 i) U) (hq : ∀ a : Nat, a < H.size → ¬ Ab bs a → H1[a]? = H[a]?) (h : mst Z bs u H) : mst Z bs U H1 := by
  obtain ⟨⟨a1, a2⟩, ⟨b1, b2⟩, ⟨c1, c2⟩, d1, d2, -, f, g⟩ := h
  exact ⟨⟨(a1.moved hvm).kept hq, (a2.moved hvm).kept hq⟩, ⟨(b1.moved hvm).kept hq, (b2.moved hvm).kept hq⟩, ⟨(c1.moved hvm).kept hq, (c2.moved hvm).kept hq⟩, (d1.moved hvm).kept hq, (d2.moved hvm).kept hq, hR, (f.moved hvm).kept hq, fun C hC => (g C hC).moved hvm⟩
theorem Cx_calling {D : va_G} {cA : Nat → ClassId} {Z : mZ} {bs : Ad} {U : State} (h : Cx D cA Z bs U) (g : JFrame) (mk : MethodId) (a : Array Value) : Cx D cA Z bs (U.calling g mk a) :=
  ⟨va_K.moved (u := U) (U := U.calling g mk a) (Vm.Alike.refl U.vm) h.1, fun q hq => va_Nw.same rfl rfl (h.2.1 q hq), mst_alike (u := U) (U := U.calling g mk a) (Vm.Alike.refl U.vm) (fun i hi => vk_R.same (u := U) rfl (h.2.2.2.2.2.2.2.1 i hi)) (fun _ _ _ => rfl) h.2.2⟩
theorem Cx_warm {D : va_G} {cA : Nat → ClassId} {Z : mZ} {bs : Ad} {s U : State} {H : Heap} {locs : List Loc} (h : Cx D cA Z bs s) (hS : va_S (Ab bs) s.heap H locs) (hU : U.heap = H) (hW : s.WarmedH U.vm) : Cx D cA Z bs U :=
  ⟨va_K.moved hW.alike h.1, fun q hq => va_Nw.warmM hW (h.2.1 q hq), mst_alike hW.alike (fun i hi => vk_R.warm hW (h.2.2.2.2.2.2.2.1 i hi)) (fun a h1 h2 => by rw [hU]; exact hS.2.1 a h1 h2) h.2.2⟩
