/-! methods that may make an evening -/
/-- from (bs, K) to (bs1, K1): an evening that was hidden may be made; all that lives lies where it lay -/
def EX (bs : Ad) (K : mK) (R : mR) (bs1 : Ad) (K1 : mK) : Prop := bs1.1 = bs.1 ∧ (∀ c, lve K c → ad bs1 c = ad bs c) ∧ ((∀ c, c < 94 ∨ 128 ≤ c → K1 c = K c) ∧ ∀ c, lve K c → lve K1 c) ∧ (isX11 K R → isX11 K1 R)
theorem EX_rf (bs : Ad) (K : mK) (R : mR) : EX bs K R bs K := ⟨rfl, fun _ _ => rfl, ⟨fun _ _ => rfl, fun _ h => h⟩, fun h => h⟩
theorem EX_tr {bs bs1 bs2 : Ad} {K K1 K2 : mK} {R : mR} (h : EX bs K R bs1 K1) (h' : EX bs1 K1 R bs2 K2) : EX bs K R bs2 K2 := ⟨h'.1.trans h.1, fun c hc => (h'.2.1 c (h.2.2.1.2 c hc)).trans (h.2.1 c hc), ⟨fun c hc => (h'.2.2.1.1 c hc).trans (h.2.2.1.1 c hc), fun c hc => h'.2.2.1.2 c (h.2.2.1.2 c hc)⟩, fun q => h'.2.2.2 (h.2.2.2 q)⟩
theorem Ab_e {bs bs1 : Ad} (h : bs1.1 = bs.1) : Ab bs1 = Ab bs := by unfold Ab; rw [h]
theorem Cx_e {D : va_G} {cA : Nat → ClassId} {Z : mZ} {bs bs1 : Ad} {U : State} (h : bs1.1 = bs.1) (hC : Cx D cA Z bs U) : Cx D cA Z bs1 U := by
  unfold Cx mst at hC ⊢
  rw [Ab_e h]; exact hC
theorem Ev_e {p : Program} {s : State} {m : MethodId} {args : Array Value} {c : Code} {cc : ByteArray} {nL : Nat} {own : String} {D : va_G} {cA : Nat → ClassId} {Z : mZ} {bs bs1 : Ad} (h : bs1.1 = bs.1) (E : Ev p s m args c cc nL own D cA Z bs) : Ev p s m args c cc nL own D cA Z bs1 := ⟨E.1, Cx_e h E.2⟩
theorem EX_E {p : Program} {s : State} {m : MethodId} {args : Array Value} {c : Code} {cc : ByteArray} {nL : Nat} {own : String} {D : va_G} {cA : Nat → ClassId} {Z : mZ} {bs bs1 : Ad} {K K1 : mK} {R : mR} (h : EX bs K R bs1 K1) (E : Ev p s m args c cc nL own D cA Z bs) : Ev p s m args c cc nL own D cA Z bs1 := Ev_e h.1 E
def QIX (D : va_G) (cA : Nat → ClassId) (bs : Ad) (K : mK) (R : mR) (post : Int32 → Mm → Prop) : Array Value → State → Outcome → State → Prop := va_Qi (S := Ad × Mm) (fun r u => EX bs K R u.1 u.2.2.1 ∧ post r u.2) (fun u t => mm D cA u.1 u.2 t.heap) (Ab bs)
def QOX (D : va_G) (cA : Nat → ClassId) (bs : Ad) (K : mK) (R : mR) (post : Option Nat → Mm → Prop) : Array Value → State → Outcome → State → Prop := va_Qq (S := Ad × Mm) (fun r u => EX bs K R u.1 u.2.2.1 ∧ ∃ o : Option Nat, r = o.map (fun a => ad u.1 a) ∧ post o u.2) (fun u t => mm D cA u.1 u.2 t.heap) (Ab bs)
section MX
variable {p : Program} {l : Launch} {e : Env} {RM : Room} {s : State} {m : MethodId} {args : Array Value} {below : List Frame} {meth : Method} {c : Code} {H H0 : Heap} {locs : List Loc} {cells slots : Nat} {Q : State → Prop} {cc : ByteArray} {pc : Nat} {ls : Array Slot} {rest st0 : List Value} {D : va_G} {cA : Nat → ClassId} {Z : mZ} {bs : Ad} {nL : Nat} {own : String} {K K0 : mK} {R : mR} {bs0 : Ad} {M : Mm}
  {y : MethodName} {bytes : ByteArray} {maxL mc ms np idx : Nat} {ret : Option FieldType} {rm : Room}
theorem m_cix {post : Int32 → Mm → Prop} {a : Array Value} (hr : va_Run p l e RM s m args below meth c H locs cells slots mc ms (F0 m pc ls st0) rest (QIX D cA bs K R post a) (Ab bs)) (hS : va_S (Ab bs) H0 H locs)
    (kk : ∀ (r : Int32) (bs1 : Ad) (u : Mm) (H1 : Heap) (locs1 : List Loc), EX bs K R bs1 u.2.1 → post r u → mm D cA bs1 u H1 → va_S (Ab bs1) H0 H1 locs1 → W p l e RM s m args below meth c H1 locs1 (cells + mc) (slots + ms) Q (F0 m (pc + 3) ls (.int r :: rest))) : W p l e RM s m args below meth c H locs cells slots Q (F0 m pc ls st0) :=
  va_calli hr hS (fun _ _ h => h) (fun _ h => h) (fun r u t H1 locs1 ht _ hp hB _ _ hS1 => kk r u.1 u.2 H1 locs1 hp.1 hp.2 (by rw [← ht]; exact hB) (by rw [Ab_e hp.1.1]; exact hS1))
theorem m_cox {post : Option Nat → Mm → Prop} {a : Array Value} (hr : va_Run p l e RM s m args below meth c H locs cells slots mc ms (F0 m pc ls st0) rest (QOX D cA bs K R post a) (Ab bs)) (hS : va_S (Ab bs) H0 H locs)
    (kk : ∀ (o : Option Nat) (bs1 : Ad) (u : Mm) (H1 : Heap) (locs1 : List Loc), EX bs K R bs1 u.2.1 → post o u → mm D cA bs1 u H1 → va_S (Ab bs1) H0 H1 locs1 → W p l e RM s m args below meth c H1 locs1 (cells + mc) (slots + ms) Q (F0 m (pc + 3) ls (mrf bs1 o :: rest))) : W p l e RM s m args below meth c H locs cells slots Q (F0 m pc ls st0) :=
  va_callq hr hS (fun _ _ h => h) (fun _ h => h) (fun r u t H1 locs1 ht _ hp hB _ _ hS1 => by
    obtain ⟨hx, o, rfl, ho⟩ := hp
    exact kk o u.1 u.2 H1 locs1 hx ho (by rw [← ht]; exact hB) (by rw [Ab_e hx.1]; exact hS1))
theorem m_retix {post : Int32 → Mm → Prop} (hx : p.tables.exec = Jvm.exec) (hb : c.code = cc) (hr : meth.sig.returnType = some .int) (hlk : meth.locks = false) {v : Int32} (hx0 : EX bs0 K0 R bs M.2.1) (hM : mm D cA bs M H) (hS : va_S (Ab bs) s.heap H locs) (hp : post v M) (hdg : decode cc pc = .ok (.ireturn, 1)) : W p l e RM s m args below meth c H locs cells slots (MQ below (QIX D cA bs0 K0 R post) args s cells slots (Ab bs0)) (F0 m pc ls [.int v]) := by
  rw [Ab_e hx0.1] at hS
  exact W.iret (v := v) hx hb hr (fun t ht _ => ⟨⟨v, (bs, M), rfl, ⟨hx0, hp⟩, (show mm D cA bs M t.heap by rw [ht]; exact hM)⟩, hS.F ht⟩) hS.2.2 hdg
theorem m_retzx {post : Int32 → Mm → Prop} (hx : p.tables.exec = Jvm.exec) (hb : c.code = cc) (hr : meth.sig.returnType = some .boolean) (hlk : meth.locks = false) {v : Int32} (hv : v = 0 ∨ v = 1) (hx0 : EX bs0 K0 R bs M.2.1) (hM : mm D cA bs M H) (hS : va_S (Ab bs) s.heap H locs) (hp : post v M) (hdg : decode cc pc = .ok (.ireturn, 1)) : W p l e RM s m args below meth c H locs cells slots (MQ below (QIX D cA bs0 K0 R post) args s cells slots (Ab bs0)) (F0 m pc ls [.int v]) := by
  rw [Ab_e hx0.1] at hS
  exact W.zret (v := v) hx hb hr (by rcases hv with rfl | rfl <;> rfl) (fun t ht _ => ⟨⟨v, (bs, M), rfl, ⟨hx0, hp⟩, (show mm D cA bs M t.heap by rw [ht]; exact hM)⟩, hS.F ht⟩) hS.2.2 hdg
theorem m_retox {post : Option Nat → Mm → Prop} (hx : p.tables.exec = Jvm.exec) (hb : c.code = cc) {rt : FieldType} (hr : meth.sig.returnType = some rt) (hrt : (∃ n, rt = .object n) ∨ ∃ t, rt = .array t) (hlk : meth.locks = false) (o : Option Nat) {v : Value} (hv : v = mrf bs o) (hx0 : EX bs0 K0 R bs M.2.1) (hM : mm D cA bs M H) (hS : va_S (Ab bs) s.heap H locs) (hp : post o M) (hdg : decode cc pc = .ok (.areturn, 1)) : W p l e RM s m args below meth c H locs cells slots (MQ below (QOX D cA bs0 K0 R post) args s cells slots (Ab bs0)) (F0 m pc ls [v]) := by
  subst hv
  rw [Ab_e hx0.1] at hS
  exact W.aret hx hb hr hrt (by cases o with | none => exact Or.inl rfl | some a => exact Or.inr ⟨_, rfl⟩) (fun t ht _ => ⟨⟨o.map (fun a => ad bs a), (bs, M), rfl, ⟨hx0, o, rfl, hp⟩, (show mm D cA bs M t.heap by rw [ht]; exact hM)⟩, hS.F ht⟩) hS.2.2 hdg
theorem m_metN (hy : plainName y.cls = true) {Qc : Array Value → State → Outcome → State → Prop} {av : List Value} (hav : (lg_sl av).length ≤ maxL)
    (body : ∀ (p : Program) (e : Env) (s : State) (m : MethodId) (below : List Frame) (meth : Method) (c : Code) (ls : Array Slot), Ev p s m av.toArray c bytes maxL y.cls D cA Z bs → meth.sig.returnType = ret → meth.locks = false → meth.name = y.name → mm D cA bs M s.heap → va_S (Ab bs) s.heap s.heap [] → lv_has ls maxL (lv_args 0 av) →
      W p l e rm s m av.toArray below meth c s.heap [] 0 0 (MQ below Qc av.toArray s mc ms (Ab bs)) (F0 m 0 ls [])) : Met l y (.code y bytes maxL ret :: gw) rm (PreM D cA Z bs M av) Qc mc ms (Ab bs) := by
  refine Met.ofW (cc := bytes) (maxL := maxL) (ret := ret) hy rfl ?_
  intro p e s m args below meth c s₁ B hml hv
  obtain ⟨rfl, hCx, hM⟩ := hv
  have hts := atoms_spec (ws := .code y bytes maxL ret :: gw) B.pre
  have hown : s.vm.findClass y.cls = some m.cls := findClass_of_methodNamed B.named
  rw [lg_entry_eq]
  exact body p e s m below meth c _ ⟨⟨B.exec, B.bytes, hml, hown, fun w hw => hts w (List.mem_cons_of_mem _ hw)⟩, hCx⟩ B.returns B.notSynchronized (name_of_methodNamed B.named B.method).1 hM va_S.rf (lv_entry av hav)
end MX
theorem dX2_init_0 : decode cX2_init 0 = .ok (.aload_n 0, 1) := by decide +kernel
theorem dX2_init_1 : decode cX2_init 1 = .ok (.invokespecial 3, 3) := by decide +kernel
theorem dX2_init_4 : decode cX2_init 4 = .ok (.aload_n 0, 1) := by decide +kernel
theorem dX2_init_5 : decode cX2_init 5 = .ok (.sipush 600, 3) := by decide +kernel
theorem dX2_init_8 : decode cX2_init 8 = .ok (.newarray .int, 2) := by decide +kernel
theorem dX2_init_10 : decode cX2_init 10 = .ok (.putfield 9, 3) := by decide +kernel
theorem dX2_init_13 : decode cX2_init 13 = .ok (.aload_n 0, 1) := by decide +kernel
theorem dX2_init_14 : decode cX2_init 14 = .ok (.sipush 600, 3) := by decide +kernel
theorem dX2_init_17 : decode cX2_init 17 = .ok (.newarray .int, 2) := by decide +kernel
theorem dX2_init_19 : decode cX2_init 19 = .ok (.putfield 15, 3) := by decide +kernel
theorem dX2_init_22 : decode cX2_init 22 = .ok (.aload_n 0, 1) := by decide +kernel
theorem dX2_init_23 : decode cX2_init 23 = .ok (.sipush 600, 3) := by decide +kernel
theorem dX2_init_26 : decode cX2_init 26 = .ok (.newarray .int, 2) := by decide +kernel
theorem dX2_init_28 : decode cX2_init 28 = .ok (.putfield 18, 3) := by decide +kernel
theorem dX2_init_31 : decode cX2_init 31 = .ok (.aload_n 0, 1) := by decide +kernel
theorem dX2_init_32 : decode cX2_init 32 = .ok (.sipush 600, 3) := by decide +kernel
theorem dX2_init_35 : decode cX2_init 35 = .ok (.newarray .int, 2) := by decide +kernel
theorem dX2_init_37 : decode cX2_init 37 = .ok (.putfield 21, 3) := by decide +kernel
theorem dX2_init_40 : decode cX2_init 40 = .ok (.aload_n 0, 1) := by decide +kernel
theorem dX2_init_41 : decode cX2_init 41 = .ok (.sipush 600, 3) := by decide +kernel
theorem dX2_init_44 : decode cX2_init 44 = .ok (.newarray .int, 2) := by decide +kernel
theorem dX2_init_46 : decode cX2_init 46 = .ok (.putfield 24, 3) := by decide +kernel
theorem dX2_init_49 : decode cX2_init 49 = .ok (.aload_n 0, 1) := by decide +kernel
theorem dX2_init_50 : decode cX2_init 50 = .ok (.sipush 600, 3) := by decide +kernel
theorem dX2_init_53 : decode cX2_init 53 = .ok (.newarray .int, 2) := by decide +kernel
theorem dX2_init_55 : decode cX2_init 55 = .ok (.putfield 27, 3) := by decide +kernel
theorem dX2_init_58 : decode cX2_init 58 = .ok (.aload_n 0, 1) := by decide +kernel
theorem dX2_init_59 : decode cX2_init 59 = .ok (.sipush 600, 3) := by decide +kernel
theorem dX2_init_62 : decode cX2_init 62 = .ok (.newarray .int, 2) := by decide +kernel
theorem dX2_init_64 : decode cX2_init 64 = .ok (.putfield 30, 3) := by decide +kernel
theorem dX2_init_67 : decode cX2_init 67 = .ok (.aload_n 0, 1) := by decide +kernel
theorem dX2_init_68 : decode cX2_init 68 = .ok (.sipush 600, 3) := by decide +kernel
theorem dX2_init_71 : decode cX2_init 71 = .ok (.newarray .int, 2) := by decide +kernel
theorem dX2_init_73 : decode cX2_init 73 = .ok (.putfield 33, 3) := by decide +kernel
theorem dX2_init_76 : decode cX2_init 76 = .ok (.aload_n 0, 1) := by decide +kernel
theorem dX2_init_77 : decode cX2_init 77 = .ok (.sipush 600, 3) := by decide +kernel
theorem dX2_init_80 : decode cX2_init 80 = .ok (.newarray .int, 2) := by decide +kernel
theorem dX2_init_82 : decode cX2_init 82 = .ok (.putfield 36, 3) := by decide +kernel
theorem dX2_init_85 : decode cX2_init 85 = .ok (.aload_n 0, 1) := by decide +kernel
theorem dX2_init_86 : decode cX2_init 86 = .ok (.bipush 6, 2) := by decide +kernel
theorem dX2_init_88 : decode cX2_init 88 = .ok (.newarray .int, 2) := by decide +kernel
theorem dX2_init_90 : decode cX2_init 90 = .ok (.putfield 39, 3) := by decide +kernel
theorem dX2_init_93 : decode cX2_init 93 = .ok (.aload_n 0, 1) := by decide +kernel
theorem dX2_init_94 : decode cX2_init 94 = .ok (.bipush 25, 2) := by decide +kernel
theorem dX2_init_96 : decode cX2_init 96 = .ok (.newarray .int, 2) := by decide +kernel
theorem dX2_init_98 : decode cX2_init 98 = .ok (.putfield 42, 3) := by decide +kernel
theorem dX2_init_101 : decode cX2_init 101 = .ok (.aload_n 0, 1) := by decide +kernel
theorem dX2_init_102 : decode cX2_init 102 = .ok (.sipush 456, 3) := by decide +kernel
theorem dX2_init_105 : decode cX2_init 105 = .ok (.newarray .int, 2) := by decide +kernel
theorem dX2_init_107 : decode cX2_init 107 = .ok (.putfield 45, 3) := by decide +kernel
theorem dX2_init_110 : decode cX2_init 110 = .ok (.aload_n 0, 1) := by decide +kernel
theorem dX2_init_111 : decode cX2_init 111 = .ok (.sipush 600, 3) := by decide +kernel
theorem dX2_init_114 : decode cX2_init 114 = .ok (.newarray .int, 2) := by decide +kernel
theorem dX2_init_116 : decode cX2_init 116 = .ok (.putfield 48, 3) := by decide +kernel
theorem dX2_init_119 : decode cX2_init 119 = .ok (.aload_n 0, 1) := by decide +kernel
theorem dX2_init_120 : decode cX2_init 120 = .ok (.bipush 24, 2) := by decide +kernel
theorem dX2_init_122 : decode cX2_init 122 = .ok (.newarray .int, 2) := by decide +kernel
theorem dX2_init_124 : decode cX2_init 124 = .ok (.putfield 51, 3) := by decide +kernel
theorem dX2_init_127 : decode cX2_init 127 = .ok (.aload_n 0, 1) := by decide +kernel
theorem dX2_init_128 : decode cX2_init 128 = .ok (.bipush 6, 2) := by decide +kernel
theorem dX2_init_130 : decode cX2_init 130 = .ok (.newarray .int, 2) := by decide +kernel
theorem dX2_init_132 : decode cX2_init 132 = .ok (.putfield 54, 3) := by decide +kernel
theorem dX2_init_135 : decode cX2_init 135 = .ok (.aload_n 0, 1) := by decide +kernel
theorem dX2_init_136 : decode cX2_init 136 = .ok (.bipush 6, 2) := by decide +kernel
theorem dX2_init_138 : decode cX2_init 138 = .ok (.newarray .int, 2) := by decide +kernel
theorem dX2_init_140 : decode cX2_init 140 = .ok (.putfield 57, 3) := by decide +kernel
theorem dX2_init_143 : decode cX2_init 143 = .ok (.aload_n 0, 1) := by decide +kernel
theorem dX2_init_144 : decode cX2_init 144 = .ok (.aload_n 1, 1) := by decide +kernel
theorem dX2_init_145 : decode cX2_init 145 = .ok (.putfield 60, 3) := by decide +kernel
theorem dX2_init_148 : decode cX2_init 148 = .ok (.return_, 1) := by decide +kernel
def w_X2_init (n : Nat) (K : mK) (R : mR) (I : mI) (L : mL) (o : Nat) (a1 : Nat) (post : mK → mR → mI → mL → Prop) : Prop := ∀ K1 R2 I3 L4, al K R I L n (14, 600) K1 R2 I3 L4 → (K1 o).1 = 2 ∧ K1 n = (14, 600) ∧ ∀ R5, R5 = up2 R2 o 3 (some n) → ∀ K6 R7 I8 L9, al K1 R5 I3 L4 (n + 1) (14, 600) K6 R7 I8 L9 → (K6 o).1 = 2 ∧ K6 (n + 1) = (14, 600) ∧ ∀ R10, R10 = up2 R7 o 4 (some (n + 1)) → ∀ K11 R12 I13 L14, al K6 R10 I8 L9 (n + 2) (14, 600) K11 R12 I13 L14 → (K11 o).1 = 2 ∧ K11 (n + 2) = (14, 600) ∧ ∀ R15, R15 = up2 R12 o 5 (some (n + 2)) → ∀ K16 R17 I18 L19, al K11 R15 I13 L14 (n + 3) (14, 600) K16 R17 I18 L19 → (K16 o).1 = 2 ∧ K16 (n + 3) = (14, 600) ∧ ∀ R20, R20 = up2 R17 o 6 (some (n + 3)) → ∀ K21 R22 I23 L24, al K16 R20 I18 L19 (n + 4) (14, 600) K21 R22 I23 L24 → (K21 o).1 = 2 ∧ K21 (n + 4) = (14, 600) ∧ ∀ R25, R25 = up2 R22 o 7 (some (n + 4)) → ∀ K26 R27 I28 L29, al K21 R25 I23 L24 (n + 5) (14, 600) K26 R27 I28 L29 → (K26 o).1 = 2 ∧ K26 (n + 5) = (14, 600) ∧ ∀ R30, R30 = up2 R27 o 8 (some (n + 5)) → ∀ K31 R32 I33 L34, al K26 R30 I28 L29 (n + 6) (14, 600) K31 R32 I33 L34 → (K31 o).1 = 2 ∧ K31 (n + 6) = (14, 600) ∧ ∀ R35, R35 = up2 R32 o 9 (some (n + 6)) → ∀ K36 R37 I38 L39, al K31 R35 I33 L34 (n + 7) (14, 600) K36 R37 I38 L39 → (K36 o).1 = 2 ∧ K36 (n + 7) = (14, 600) ∧ ∀ R40, R40 = up2 R37 o 10 (some (n + 7)) → ∀ K41 R42 I43 L44, al K36 R40 I38 L39 (n + 8) (14, 600) K41 R42 I43 L44 → (K41 o).1 = 2 ∧ K41 (n + 8) = (14, 600) ∧ ∀ R45, R45 = up2 R42 o 11 (some (n + 8)) → ∀ K46 R47 I48 L49, al K41 R45 I43 L44 (n + 9) (14, 6) K46 R47 I48 L49 → (K46 o).1 = 2 ∧ K46 (n + 9) = (14, 6) ∧ ∀ R50, R50 = up2 R47 o 12 (some (n + 9)) → ∀ K51 R52 I53 L54, al K46 R50 I48 L49 (n + 10) (14, 25) K51 R52 I53 L54 → (K51 o).1 = 2 ∧ K51 (n + 10) = (14, 25) ∧ ∀ R55, R55 = up2 R52 o 13 (some (n + 10)) → ∀ K56 R57 I58 L59, al K51 R55 I53 L54 (n + 11) (14, 456) K56 R57 I58 L59 → (K56 o).1 = 2 ∧ K56 (n + 11) = (14, 456) ∧ ∀ R60, R60 = up2 R57 o 14 (some (n + 11)) → ∀ K61 R62 I63 L64, al K56 R60 I58 L59 (n + 12) (14, 600) K61 R62 I63 L64 → (K61 o).1 = 2 ∧ K61 (n + 12) = (14, 600) ∧ ∀ R65, R65 = up2 R62 o 15 (some (n + 12)) → ∀ K66 R67 I68 L69, al K61 R65 I63 L64 (n + 13) (14, 24) K66 R67 I68 L69 → (K66 o).1 = 2 ∧ K66 (n + 13) = (14, 24) ∧ ∀ R70, R70 = up2 R67 o 16 (some (n + 13)) → ∀ K71 R72 I73 L74, al K66 R70 I68 L69 (n + 14) (14, 6) K71 R72 I73 L74 → (K71 o).1 = 2 ∧ K71 (n + 14) = (14, 6) ∧ ∀ R75, R75 = up2 R72 o 17 (some (n + 14)) → ∀ K76 R77 I78 L79, al K71 R75 I73 L74 (n + 15) (14, 6) K76 R77 I78 L79 → (K76 o).1 = 2 ∧ K76 (n + 15) = (14, 6) ∧ ∀ R80, R80 = up2 R77 o 18 (some (n + 15)) → (K76 a1).1 = 3 ∧ ∀ R81, R81 = up2 R80 o 0 (some a1) → post K76 R81 I78 L79
set_option maxRecDepth 100000 in
set_option maxHeartbeats 4000000 in
theorem c_X2_init {l : Launch} {D : va_G} {cA : Nat → ClassId} {Z : mZ} {bs : Ad} {n : Nat} {K : mK} {R : mR} {I : mI} {L : mL} {o : Nat} {a1 : Nat} {post : mK → mR → mI → mL → Prop} (ob0 : (K o).1 = 2) (hw : w_X2_init n K R I L o a1 post) : Met l yX2_init (.code yX2_init cX2_init 2 none :: gw) ({ frames := 1, cells := 16, slots := 6523, locals := 40 } : Room) (PreM D cA Z bs (n, K, R, I, L) [.ref (ad bs o), .ref (ad bs a1)]) (QV D cA bs (fun u => ∃ K' R' I' L', u = (n + 16, K', R', I', L') ∧ post K' R' I' L')) 16 6523 (Ab bs) := by
  refine m_metN (by decide) (Nat.le_of_ble_eq_true rfl) (fun p e s m below meth c ls E hr hlk hnm hM hS hl => ?_)
  have E : Ev p s m _ c cX2_init 2 RX2 D cA Z bs := E
  have hl : lv_has ls 2 [(0, .ref (ad bs o)), (1, .ref (ad bs a1))] := hl
  have hnm : meth.name = "<init>" := hnm
  have hx := E.1.1
  have hb := E.1.2.1
  generalize hHe : s.heap = H at hM ⊢
  have hS : va_S (Ab bs) s.heap H [] := by rw [← hHe]; exact va_S.rf
  clear hHe
  refine lv_aload_n hx hb dX2_init_0 rfl (lv_at hl 0 rfl) ?_
  refine W.objInit hx hb E.1.2.2.2.1 (E.1.2.2.2.2 _ oi_X2) (E.1.2.2.2.2 _ oi_inst) (E.1.2.2.2.2 _ oi_code) rfl (by rw [E.1.2.2.1]; exact hl.1) rfl dX2_init_1 (Nat.le_of_ble_eq_true rfl) (Nat.le_of_ble_eq_true rfl) ?_
  refine W.eq (g2 := F0 m 4 ls []) rfl ?_
  refine lv_aload_n hx hb dX2_init_4 rfl (lv_at hl 0 rfl) ?_
  refine lv_sipush (v := 600) hx hb dX2_init_5 (by decide) ?_
  refine m_newa E hM hS (atype := .int) (ty := .int) (k := 14) (t0 := 1) (N := 600) rfl (by simp) ac_int rfl (by decide) (by decide) (by decide) (Nat.le_of_ble_eq_true rfl) (Nat.le_of_ble_eq_true rfl) dX2_init_8 (fun K1 R2 I3 L4 H ea hM hS => ?_)
  have hw := hw K1 R2 I3 L4 ea
  obtain ⟨ob1, hw⟩ := hw
  obtain ⟨ob2, hw⟩ := hw
  refine m_putr E hM hS fp_X2_9 (fun _ => ⟨hnm, rfl⟩) ob1 (by rw [ob2]; decide) rfl rfl dX2_init_10 (fun R5 H locs eR5 hM hS => ?_)
  have hw := hw R5 eR5
  refine lv_aload_n hx hb dX2_init_13 rfl (lv_at hl 0 rfl) ?_
  refine lv_sipush (v := 600) hx hb dX2_init_14 (by decide) ?_
  refine m_newa E hM hS (atype := .int) (ty := .int) (k := 14) (t0 := 1) (N := 600) rfl (by simp) ac_int rfl (by decide) (by decide) (by decide) (Nat.le_of_ble_eq_true rfl) (Nat.le_of_ble_eq_true rfl) dX2_init_17 (fun K6 R7 I8 L9 H ea hM hS => ?_)
  have hw := hw K6 R7 I8 L9 ea
  obtain ⟨ob3, hw⟩ := hw
  obtain ⟨ob4, hw⟩ := hw
  refine m_putr E hM hS fp_X2_15 (fun _ => ⟨hnm, rfl⟩) ob3 (by rw [ob4]; decide) rfl rfl dX2_init_19 (fun R10 H locs eR10 hM hS => ?_)
  have hw := hw R10 eR10
  refine lv_aload_n hx hb dX2_init_22 rfl (lv_at hl 0 rfl) ?_
  refine lv_sipush (v := 600) hx hb dX2_init_23 (by decide) ?_
  refine m_newa E hM hS (atype := .int) (ty := .int) (k := 14) (t0 := 1) (N := 600) rfl (by simp) ac_int rfl (by decide) (by decide) (by decide) (Nat.le_of_ble_eq_true rfl) (Nat.le_of_ble_eq_true rfl) dX2_init_26 (fun K11 R12 I13 L14 H ea hM hS => ?_)
  have hw := hw K11 R12 I13 L14 ea
  obtain ⟨ob5, hw⟩ := hw
  obtain ⟨ob6, hw⟩ := hw
  refine m_putr E hM hS fp_X2_18 (fun _ => ⟨hnm, rfl⟩) ob5 (by rw [ob6]; decide) rfl rfl dX2_init_28 (fun R15 H locs eR15 hM hS => ?_)
  have hw := hw R15 eR15
  refine lv_aload_n hx hb dX2_init_31 rfl (lv_at hl 0 rfl) ?_
  refine lv_sipush (v := 600) hx hb dX2_init_32 (by decide) ?_
  refine m_newa E hM hS (atype := .int) (ty := .int) (k := 14) (t0 := 1) (N := 600) rfl (by simp) ac_int rfl (by decide) (by decide) (by decide) (Nat.le_of_ble_eq_true rfl) (Nat.le_of_ble_eq_true rfl) dX2_init_35 (fun K16 R17 I18 L19 H ea hM hS => ?_)
  have hw := hw K16 R17 I18 L19 ea
  obtain ⟨ob7, hw⟩ := hw
  obtain ⟨ob8, hw⟩ := hw
  refine m_putr E hM hS fp_X2_21 (fun _ => ⟨hnm, rfl⟩) ob7 (by rw [ob8]; decide) rfl rfl dX2_init_37 (fun R20 H locs eR20 hM hS => ?_)
  have hw := hw R20 eR20
  refine lv_aload_n hx hb dX2_init_40 rfl (lv_at hl 0 rfl) ?_
  refine lv_sipush (v := 600) hx hb dX2_init_41 (by decide) ?_
  refine m_newa E hM hS (atype := .int) (ty := .int) (k := 14) (t0 := 1) (N := 600) rfl (by simp) ac_int rfl (by decide) (by decide) (by decide) (Nat.le_of_ble_eq_true rfl) (Nat.le_of_ble_eq_true rfl) dX2_init_44 (fun K21 R22 I23 L24 H ea hM hS => ?_)
  have hw := hw K21 R22 I23 L24 ea
  obtain ⟨ob9, hw⟩ := hw
  obtain ⟨ob10, hw⟩ := hw
  refine m_putr E hM hS fp_X2_24 (fun _ => ⟨hnm, rfl⟩) ob9 (by rw [ob10]; decide) rfl rfl dX2_init_46 (fun R25 H locs eR25 hM hS => ?_)
  have hw := hw R25 eR25
  refine lv_aload_n hx hb dX2_init_49 rfl (lv_at hl 0 rfl) ?_
  refine lv_sipush (v := 600) hx hb dX2_init_50 (by decide) ?_
  refine m_newa E hM hS (atype := .int) (ty := .int) (k := 14) (t0 := 1) (N := 600) rfl (by simp) ac_int rfl (by decide) (by decide) (by decide) (Nat.le_of_ble_eq_true rfl) (Nat.le_of_ble_eq_true rfl) dX2_init_53 (fun K26 R27 I28 L29 H ea hM hS => ?_)
  have hw := hw K26 R27 I28 L29 ea
  obtain ⟨ob11, hw⟩ := hw
  obtain ⟨ob12, hw⟩ := hw
  refine m_putr E hM hS fp_X2_27 (fun _ => ⟨hnm, rfl⟩) ob11 (by rw [ob12]; decide) rfl rfl dX2_init_55 (fun R30 H locs eR30 hM hS => ?_)
  have hw := hw R30 eR30
  refine lv_aload_n hx hb dX2_init_58 rfl (lv_at hl 0 rfl) ?_
  refine lv_sipush (v := 600) hx hb dX2_init_59 (by decide) ?_
  refine m_newa E hM hS (atype := .int) (ty := .int) (k := 14) (t0 := 1) (N := 600) rfl (by simp) ac_int rfl (by decide) (by decide) (by decide) (Nat.le_of_ble_eq_true rfl) (Nat.le_of_ble_eq_true rfl) dX2_init_62 (fun K31 R32 I33 L34 H ea hM hS => ?_)
  have hw := hw K31 R32 I33 L34 ea
  obtain ⟨ob13, hw⟩ := hw
  obtain ⟨ob14, hw⟩ := hw
  refine m_putr E hM hS fp_X2_30 (fun _ => ⟨hnm, rfl⟩) ob13 (by rw [ob14]; decide) rfl rfl dX2_init_64 (fun R35 H locs eR35 hM hS => ?_)
  have hw := hw R35 eR35
  refine lv_aload_n hx hb dX2_init_67 rfl (lv_at hl 0 rfl) ?_
  refine lv_sipush (v := 600) hx hb dX2_init_68 (by decide) ?_
  refine m_newa E hM hS (atype := .int) (ty := .int) (k := 14) (t0 := 1) (N := 600) rfl (by simp) ac_int rfl (by decide) (by decide) (by decide) (Nat.le_of_ble_eq_true rfl) (Nat.le_of_ble_eq_true rfl) dX2_init_71 (fun K36 R37 I38 L39 H ea hM hS => ?_)
  have hw := hw K36 R37 I38 L39 ea
  obtain ⟨ob15, hw⟩ := hw
  obtain ⟨ob16, hw⟩ := hw
  refine m_putr E hM hS fp_X2_33 (fun _ => ⟨hnm, rfl⟩) ob15 (by rw [ob16]; decide) rfl rfl dX2_init_73 (fun R40 H locs eR40 hM hS => ?_)
  have hw := hw R40 eR40
  refine lv_aload_n hx hb dX2_init_76 rfl (lv_at hl 0 rfl) ?_
  refine lv_sipush (v := 600) hx hb dX2_init_77 (by decide) ?_
  refine m_newa E hM hS (atype := .int) (ty := .int) (k := 14) (t0 := 1) (N := 600) rfl (by simp) ac_int rfl (by decide) (by decide) (by decide) (Nat.le_of_ble_eq_true rfl) (Nat.le_of_ble_eq_true rfl) dX2_init_80 (fun K41 R42 I43 L44 H ea hM hS => ?_)
  have hw := hw K41 R42 I43 L44 ea
  obtain ⟨ob17, hw⟩ := hw
  obtain ⟨ob18, hw⟩ := hw
  refine m_putr E hM hS fp_X2_36 (fun _ => ⟨hnm, rfl⟩) ob17 (by rw [ob18]; decide) rfl rfl dX2_init_82 (fun R45 H locs eR45 hM hS => ?_)
  have hw := hw R45 eR45
  refine lv_aload_n hx hb dX2_init_85 rfl (lv_at hl 0 rfl) ?_
  refine lv_bipush (v := 6) hx hb dX2_init_86 (by decide) ?_
  refine m_newa E hM hS (atype := .int) (ty := .int) (k := 14) (t0 := 1) (N := 6) rfl (by simp) ac_int rfl (by decide) (by decide) (by decide) (Nat.le_of_ble_eq_true rfl) (Nat.le_of_ble_eq_true rfl) dX2_init_88 (fun K46 R47 I48 L49 H ea hM hS => ?_)
  have hw := hw K46 R47 I48 L49 ea
  obtain ⟨ob19, hw⟩ := hw
  obtain ⟨ob20, hw⟩ := hw
  refine m_putr E hM hS fp_X2_39 (fun _ => ⟨hnm, rfl⟩) ob19 (by rw [ob20]; decide) rfl rfl dX2_init_90 (fun R50 H locs eR50 hM hS => ?_)
  have hw := hw R50 eR50
  refine lv_aload_n hx hb dX2_init_93 rfl (lv_at hl 0 rfl) ?_
  refine lv_bipush (v := 25) hx hb dX2_init_94 (by decide) ?_
  refine m_newa E hM hS (atype := .int) (ty := .int) (k := 14) (t0 := 1) (N := 25) rfl (by simp) ac_int rfl (by decide) (by decide) (by decide) (Nat.le_of_ble_eq_true rfl) (Nat.le_of_ble_eq_true rfl) dX2_init_96 (fun K51 R52 I53 L54 H ea hM hS => ?_)
  have hw := hw K51 R52 I53 L54 ea
  obtain ⟨ob21, hw⟩ := hw
  obtain ⟨ob22, hw⟩ := hw
  refine m_putr E hM hS fp_X2_42 (fun _ => ⟨hnm, rfl⟩) ob21 (by rw [ob22]; decide) rfl rfl dX2_init_98 (fun R55 H locs eR55 hM hS => ?_)
  have hw := hw R55 eR55
  refine lv_aload_n hx hb dX2_init_101 rfl (lv_at hl 0 rfl) ?_
  refine lv_sipush (v := 456) hx hb dX2_init_102 (by decide) ?_
  refine m_newa E hM hS (atype := .int) (ty := .int) (k := 14) (t0 := 1) (N := 456) rfl (by simp) ac_int rfl (by decide) (by decide) (by decide) (Nat.le_of_ble_eq_true rfl) (Nat.le_of_ble_eq_true rfl) dX2_init_105 (fun K56 R57 I58 L59 H ea hM hS => ?_)
  have hw := hw K56 R57 I58 L59 ea
  obtain ⟨ob23, hw⟩ := hw
  obtain ⟨ob24, hw⟩ := hw
  refine m_putr E hM hS fp_X2_45 (fun _ => ⟨hnm, rfl⟩) ob23 (by rw [ob24]; decide) rfl rfl dX2_init_107 (fun R60 H locs eR60 hM hS => ?_)
  have hw := hw R60 eR60
  refine lv_aload_n hx hb dX2_init_110 rfl (lv_at hl 0 rfl) ?_
  refine lv_sipush (v := 600) hx hb dX2_init_111 (by decide) ?_
  refine m_newa E hM hS (atype := .int) (ty := .int) (k := 14) (t0 := 1) (N := 600) rfl (by simp) ac_int rfl (by decide) (by decide) (by decide) (Nat.le_of_ble_eq_true rfl) (Nat.le_of_ble_eq_true rfl) dX2_init_114 (fun K61 R62 I63 L64 H ea hM hS => ?_)
  have hw := hw K61 R62 I63 L64 ea
  obtain ⟨ob25, hw⟩ := hw
  obtain ⟨ob26, hw⟩ := hw
  refine m_putr E hM hS fp_X2_48 (fun _ => ⟨hnm, rfl⟩) ob25 (by rw [ob26]; decide) rfl rfl dX2_init_116 (fun R65 H locs eR65 hM hS => ?_)
  have hw := hw R65 eR65
  refine lv_aload_n hx hb dX2_init_119 rfl (lv_at hl 0 rfl) ?_
  refine lv_bipush (v := 24) hx hb dX2_init_120 (by decide) ?_
  refine m_newa E hM hS (atype := .int) (ty := .int) (k := 14) (t0 := 1) (N := 24) rfl (by simp) ac_int rfl (by decide) (by decide) (by decide) (Nat.le_of_ble_eq_true rfl) (Nat.le_of_ble_eq_true rfl) dX2_init_122 (fun K66 R67 I68 L69 H ea hM hS => ?_)
  have hw := hw K66 R67 I68 L69 ea
  obtain ⟨ob27, hw⟩ := hw
  obtain ⟨ob28, hw⟩ := hw
  refine m_putr E hM hS fp_X2_51 (fun _ => ⟨hnm, rfl⟩) ob27 (by rw [ob28]; decide) rfl rfl dX2_init_124 (fun R70 H locs eR70 hM hS => ?_)
  have hw := hw R70 eR70
  refine lv_aload_n hx hb dX2_init_127 rfl (lv_at hl 0 rfl) ?_
  refine lv_bipush (v := 6) hx hb dX2_init_128 (by decide) ?_
  refine m_newa E hM hS (atype := .int) (ty := .int) (k := 14) (t0 := 1) (N := 6) rfl (by simp) ac_int rfl (by decide) (by decide) (by decide) (Nat.le_of_ble_eq_true rfl) (Nat.le_of_ble_eq_true rfl) dX2_init_130 (fun K71 R72 I73 L74 H ea hM hS => ?_)
  have hw := hw K71 R72 I73 L74 ea
  obtain ⟨ob29, hw⟩ := hw
  obtain ⟨ob30, hw⟩ := hw
  refine m_putr E hM hS fp_X2_54 (fun _ => ⟨hnm, rfl⟩) ob29 (by rw [ob30]; decide) rfl rfl dX2_init_132 (fun R75 H locs eR75 hM hS => ?_)
  have hw := hw R75 eR75
  refine lv_aload_n hx hb dX2_init_135 rfl (lv_at hl 0 rfl) ?_
  refine lv_bipush (v := 6) hx hb dX2_init_136 (by decide) ?_
  refine m_newa E hM hS (atype := .int) (ty := .int) (k := 14) (t0 := 1) (N := 6) rfl (by simp) ac_int rfl (by decide) (by decide) (by decide) (Nat.le_of_ble_eq_true rfl) (Nat.le_of_ble_eq_true rfl) dX2_init_138 (fun K76 R77 I78 L79 H ea hM hS => ?_)
  have hw := hw K76 R77 I78 L79 ea
  obtain ⟨ob31, hw⟩ := hw
  obtain ⟨ob32, hw⟩ := hw
  refine m_putr E hM hS fp_X2_57 (fun _ => ⟨hnm, rfl⟩) ob31 (by rw [ob32]; decide) rfl rfl dX2_init_140 (fun R80 H locs eR80 hM hS => ?_)
  have hw := hw R80 eR80
  refine lv_aload_n hx hb dX2_init_143 rfl (lv_at hl 0 rfl) ?_
  refine lv_aload_n hx hb dX2_init_144 rfl (lv_at hl 1 rfl) ?_
  obtain ⟨ob33, hw⟩ := hw
  refine m_putr E hM hS fp_X2_60 (fun _ => ⟨hnm, rfl⟩) ob31 (by rw [ob33]; decide) rfl rfl dX2_init_145 (fun R81 H locs eR81 hM hS => ?_)
  have hw := hw R81 eR81
  refine W.widen (k := 16) (n := 6523) (Nat.le_of_ble_eq_true rfl) (Nat.le_of_ble_eq_true rfl) ?_
  exact m_retv hx hb hr hlk hM hS ⟨_, _, _, _, rfl, hw⟩ dX2_init_148
theorem up2_at {α : Type} (J : Nat → Nat → α) (c k : Nat) (v : α) : up2 J c k v c k = v := by rw [up2_s, up1_s]
theorem up2_off {α : Type} (J : Nat → Nat → α) {c k c' k' : Nat} (v : α) (h : c' ≠ c ∨ k' ≠ k) : up2 J c k v c' k' = J c' k' := by
  by_cases e : c' = c
  · subst e
    rw [up2_s, up1_n _ _ (h.resolve_left (fun q => q rfl))]
  · rw [up2_n _ _ _ e]
def chn (o ci : Nat) (post : mK → mR → mI → mL → Prop) : List (Nat × Nat × Nat × Nat) → mK → mR → mI → mL → Prop
  | [], K, R, I, L => post K R I L
  | q :: fl, K, R, I, L => ∀ K1 R1 I1 L1, al K R I L (o + q.2.1) q.2.2 K1 R1 I1 L1 → (K1 o).1 = ci ∧ K1 (o + q.2.1) = q.2.2 ∧ ∀ R2, R2 = up2 R1 o q.1 (some (o + q.2.1)) → chn o ci post fl K1 R2 I1 L1
def okC : Nat → List (Nat × Nat × Nat × Nat) → Prop
  | _, [] => True
  | lo, q :: fl => lo < q.2.1 ∧ (∀ r ∈ fl, r.1 ≠ q.1) ∧ okC q.2.1 fl
theorem chn_of {o ci : Nat} {post : mK → mR → mI → mL → Prop} : ∀ (fl : List (Nat × Nat × Nat × Nat)) {lo : Nat} {K : mK} {R : mR} {I : mI} {L : mL}, okC lo fl → (K o).1 = ci → (∀ K1 R1 I1 L1, (∀ q ∈ fl, (R1 o q.1 = some (o + q.2.1) ∧ K1 (o + q.2.1) = q.2.2) ∧ I1 (o + q.2.1) = i0 ∧ L1 (o + q.2.1) = l0) → (∀ c, c ≤ o + lo → K1 c = K c ∧ I1 c = I c ∧ L1 c = L c ∧ (c ≠ o → R1 c = R c)) → (∀ j, (∀ q ∈ fl, q.1 ≠ j) → R1 o j = R o j) → post K1 R1 I1 L1) → chn o ci post fl K R I L
  | [], lo, K, R, I, L, _, _, hq => hq K R I L (fun q h => absurd h (List.not_mem_nil)) (fun c _ => ⟨rfl, rfl, rfl, fun _ => rfl⟩) (fun j _ => rfl)
  | q :: fl, lo, K, R, I, L, hok, hK, hq => by
    obtain ⟨o1, o2, o3⟩ := hok
    rintro K1 R1 I1 L1 ⟨rfl, rfl, rfl, rfl⟩
    refine ⟨by rw [up1_n _ _ (by omega)]; exact hK, up1_s _ _ _, ?_⟩
    rintro R2 rfl
    refine chn_of fl o3 (by rw [up1_n _ _ (by omega)]; exact hK) (fun K1 R1 I1 L1 h1 h2 h3 => hq K1 R1 I1 L1 (fun r hr => ?_) (fun c hc => ?_) (fun j hj => ?_))
    · rcases List.mem_cons.mp hr with rfl | hr
      · refine ⟨⟨?_, ?_⟩, ?_, ?_⟩
        · rw [h3 r.1 (fun s hs => o2 s hs), up2_at]
        · rw [(h2 (o + r.2.1) (Nat.le_refl _)).1, up1_s]
        · rw [(h2 (o + r.2.1) (Nat.le_refl _)).2.1, up1_s]
        · rw [(h2 (o + r.2.1) (Nat.le_refl _)).2.2.1, up1_s]
      · exact h1 r hr
    · have := h2 c (by omega)
      rw [this.1, this.2.1, this.2.2.1, up1_n _ _ (by omega), up1_n _ _ (by omega), up1_n _ _ (by omega)]
      refine ⟨rfl, rfl, rfl, fun hco => ?_⟩
      rw [this.2.2.2 hco, up2_n _ _ _ hco, up1_n _ _ (by omega)]
    · rw [h3 j (fun s hs => hj s (List.mem_cons_of_mem _ hs)), up2_off _ _ (Or.inr (fun e => hj q (List.mem_cons_self) e.symm)), up1_n _ _ (by omega)]
theorem isO_in {K : mK} {R : mR} {o ci : Nat} {fl : List (Nat × Nat × Nat × Nat)} (h : (K o).1 = ci) (hall : ∀ q ∈ fl, R o q.1 = some (o + q.2.1) ∧ K (o + q.2.1) = q.2.2) : isO K R o ci fl := ⟨h, fun _ q hq => hall q (List.mem_of_getElem? hq)⟩
theorem isO_fr {K K1 : mK} {R R1 : mR} {o ci m : Nat} {fl : List (Nat × Nat × Nat × Nat)} (hm : ∀ q ∈ fl, q.2.1 < m) (hK : ∀ c, o ≤ c → c < o + m → K1 c = K c) (hR : R1 o = R o) (h0 : 0 < m) (h : isO K R o ci fl) : isO K1 R1 o ci fl := by
  refine ⟨by rw [hK o (Nat.le_refl _) (by omega)]; exact h.1, fun i q hq => ?_⟩
  have := hm q (List.mem_of_getElem? hq)
  rw [hR, hK _ (by omega) (by omega)]; exact h.2 i q hq
theorem mx3 : ∀ q ∈ fX3, q.2.1 < 14 := by decide
theorem mx6 : ∀ q ∈ fX6, q.2.1 < 5 := by decide
theorem mx8 : ∀ q ∈ fX8, q.2.1 < 4 := by decide
theorem ok2 : okC 0 fX2 := by simp [okC, fX2]
/-- all below m is as it was -/
def Bel (m : Nat) (K K1 : mK) (R R1 : mR) (I I1 : mI) (L L1 : mL) : Prop := ∀ c, c < m → K1 c = K c ∧ I1 c = I c ∧ L1 c = L c ∧ R1 c = R c
theorem w_i2 {o h : Nat} {K : mK} {R : mR} {I : mI} {L : mL} {post : mK → mR → mI → mL → Prop} (hK : (K o).1 = 2) (hh : (K h).1 = 3) (hlo : h < o) (hq : ∀ K1 R1 I1 L1, (∀ q ∈ fX2, (R1 o q.1 = some (o + q.2.1) ∧ K1 (o + q.2.1) = q.2.2) ∧ I1 (o + q.2.1) = i0 ∧ L1 (o + q.2.1) = l0) → R1 o 0 = some h → (K1 o = K o ∧ I1 o = I o ∧ L1 o = L o) → Bel o K K1 R R1 I I1 L L1 → post K1 R1 I1 L1) : w_X2_init (o + 1) K R I L o h post := by
  have hc : chn o 2 (fun K R I L => (K h).1 = 3 ∧ ∀ R9, R9 = up2 R o 0 (some h) → post K R9 I L) fX2 K R I L := chn_of fX2 ok2 hK (fun K1 R1 I1 L1 h1 h2 h3 => ⟨by rw [(h2 h (by omega)).1]; exact hh, ?_⟩)
  · exact hc
  · rintro _ rfl
    have f0 : ∀ q ∈ fX2, q.1 ≠ 0 := by decide
    have e0 := h2 o (by omega)
    refine hq K1 _ I1 L1 (fun q hq => ⟨⟨by rw [up2_off _ _ (Or.inr (f0 q hq))]; exact (h1 q hq).1.1, (h1 q hq).1.2⟩, (h1 q hq).2⟩) (up2_at _ _ _ _) ⟨e0.1, e0.2.1, e0.2.2.1⟩ (fun c hc => ?_)
    have := h2 c (by omega)
    exact ⟨this.1, this.2.1, this.2.2.1, by rw [up2_n _ _ _ (by omega)]; exact this.2.2.2 (by omega)⟩
/-! the evening takes its place -/
def kE (i : Nat) : Nat × Nat := if i = 0 then (2, 19) else (14, [600, 600, 600, 600, 600, 600, 600, 600, 600, 6, 25, 456, 600, 24, 6, 6].getD (i - 1) 0)
theorem kE_f : ∀ q ∈ fX2, kE q.2.1 = q.2.2 ∧ 1 ≤ q.2.1 ∧ q.2.1 < 17 := by decide
theorem kE_lv : ∀ i, i < 17 → (kE i).1 ≠ 99 := by decide
theorem kE_14 : ∀ i, i < 17 → i ≠ 0 → (kE i).1 = 14 := by decide
theorem fX2_d : ∀ i, i < 17 → i ≠ 0 → ∃ q ∈ fX2, q.2.1 = i := by decide
theorem fX2_k : ∀ k, k < 19 → (mty 2)[k]? = some false → k = 0 ∨ ∃ q ∈ fX2, q.1 = k := by decide +kernel
theorem mty2_l : (mty 2).length = 19 := by decide +kernel
theorem mty_hi {kd k : Nat} (h1 : 13 ≤ kd) (h2 : (mty kd)[k]? = some false) : False := by
  have : mty kd = [] := by
    unfold mty
    rw [List.getElem?_eq_none (by show 13 ≤ kd; exact h1)]
  rw [this] at h2; simp at h2
theorem mfl_ext {bs bs1 : Ad} {r r1 : Nat → Option Nat} {i i1 : Nat → Int32} (hi : i1 = i) : ∀ (l : List Bool) (k : Nat), (∀ j, l[j]? = some false → mrf bs1 (r1 (k + j)) = mrf bs (r (k + j))) → mfl bs1 r1 i1 k l = mfl bs r i k l
  | [], _, _ => rfl
  | b :: l, k, h => by
    have h0 : (if b = true then Value.int (i1 k) else mrf bs1 (r1 k)) = (if b = true then Value.int (i k) else mrf bs (r k)) := by
      cases b with
      | true => rw [if_pos rfl, if_pos rfl, hi]
      | false => have := h 0 rfl; simpa using this
    have ih := mfl_ext (bs := bs) (bs1 := bs1) (r := r) (r1 := r1) hi l (k + 1) (fun j hj => by have := h (j + 1) hj; rw [show k + 1 + j = k + (j + 1) by omega]; exact this)
    show _ :: _ = _ :: _
    rw [h0, ih]
/-- the places of the evening that is made -/
def bsR (bs : Ad) (n e : Nat) : Ad := (bs.1, (fun c => if e ≤ c ∧ c < e + 17 then ad bs (n + (c - e)) else if n ≤ c then ad bs (c + 17) else ad bs c), (fun c => if e ≤ c ∧ c < e + 17 then false else bs.2.2 c))
def KR (K : mK) (e : Nat) : mK := fun c => if e ≤ c ∧ c < e + 17 then kE (c - e) else K c
theorem ad_in {bs : Ad} {n e i : Nat} (h : i < 17) : ad (bsR bs n e) (e + i) = ad bs (n + i) := by
  show (if e ≤ e + i ∧ e + i < e + 17 then _ else _) = _
  rw [if_pos ⟨by omega, by omega⟩, show n + (e + i - e) = n + i by omega]
theorem ad_out {bs : Ad} {n e c : Nat} (h : c < e ∨ e + 17 ≤ c) (h2 : c < n) : ad (bsR bs n e) c = ad bs c := by
  show (if e ≤ c ∧ c < e + 17 then _ else _) = _
  rw [if_neg (by omega), if_neg (by omega)]
theorem h_out {bs : Ad} {n e c : Nat} (h : c < e ∨ e + 17 ≤ c) : (bsR bs n e).2.2 c = bs.2.2 c := by
  show (if e ≤ c ∧ c < e + 17 then false else bs.2.2 c) = _
  rw [if_neg (by omega)]
theorem h_in {bs : Ad} {n e c : Nat} (h : (bsR bs n e).2.2 c = true) : (c < e ∨ e + 17 ≤ c) ∧ bs.2.2 c = true := by
  by_cases q : e ≤ c ∧ c < e + 17
  · have : (if e ≤ c ∧ c < e + 17 then false else bs.2.2 c) = true := h
    rw [if_pos q] at this; cases this
  · exact ⟨by omega, by rw [← h]; exact (h_out (by omega)).symm⟩
theorem KR_in {K : mK} {e i : Nat} (h : i < 17) : KR K e (e + i) = kE i := by
  unfold KR
  rw [if_pos ⟨by omega, by omega⟩, show e + i - e = i by omega]
theorem KR_out {K : mK} {e c : Nat} (h : c < e ∨ e + 17 ≤ c) : KR K e c = K c := by
  unfold KR
  rw [if_neg (by omega)]
set_option maxHeartbeats 4000000 in
theorem mm_ren {D : va_G} {cA : Nat → ClassId} {bs : Ad} {n j e : Nat} {K K' : mK} {R R2 : mR} {I I' : mI} {L L' : mL} {H0 H : Heap} (hM0 : mm D cA bs (n, K, R, I, L) H0) (hM : mm D cA bs (n + 17, K', R2, I', L') H) (hj : j < 2) (he : e = 94 + 17 * j) (hh : bs.2.2 e = true) (hK65 : (K 65).1 = 17) (hR65 : R 65 j = some e)
    (hB : ∀ c, c < n → K' c = K c ∧ I' c = I c ∧ L' c = L c ∧ (c ≠ 65 → R2 c = R c)) (hR2 : R2 65 j = some n) (hR3 : ∀ k, k ≠ j → R2 65 k = R 65 k) (hKn : ∀ i, i < 17 → K' (n + i) = kE i ∧ I' (n + i) = i0 ∧ L' (n + i) = l0) {h : Nat} (hlh : lve K h) (hRn : R2 n 0 = some h ∧ ∀ q ∈ fX2, R2 n q.1 = some (n + q.2.1)) (hRe : R e 0 = some h ∧ ∀ q ∈ fX2, R e q.1 = some (e + q.2.1)) : mm D cA (bsR bs n e) (n, KR K e, R, I, L) H := by
  obtain ⟨⟨a1, a2⟩, a3, a4, a5, a6, a7, a8⟩ := hM
  obtain ⟨⟨b1, b2⟩, b3, b4, b5, b6, b7, b8⟩ := hM0
  have hb : ∀ i, i < 17 → bs.2.2 (e + i) = true := by subst he; exact b8 j hj hh
  have n128 : 128 ≤ n := (b7 e hh).1.2.2
  have hz : ∀ i, i < 17 → ¬ lve K (e + i) ∧ I (e + i) = i0 ∧ L (e + i) = l0 := fun i hi => (b7 _ (hb i hi)).2
  have lt : ∀ c, lve K c → c < n := fun c hc => by
    rcases Nat.lt_or_ge c n with q | q
    · exact q
    · exact absurd (b3 c q) hc
  have out : ∀ c, lve K c → c < e ∨ e + 17 ≤ c := fun c hc => by
    by_cases q : e ≤ c ∧ c < e + 17
    · have := (hz (c - e) (by omega)).1
      rw [show e + (c - e) = c by omega] at this; exact absurd hc this
    · omega
  have adl : ∀ c, lve K c → ad (bsR bs n e) c = ad bs c := fun c hc => ad_out (out c hc) (lt c hc)
  -- what lives: in the block, or as it was
  have sp : ∀ c, lve (KR K e) c → (∃ i, i < 17 ∧ c = e + i) ∨ (lve K c ∧ (c < e ∨ e + 17 ≤ c)) := fun c hc => by
    by_cases q : e ≤ c ∧ c < e + 17
    · exact Or.inl ⟨c - e, by omega, by omega⟩
    · refine Or.inr ⟨?_, by omega⟩
      unfold lve at hc ⊢
      rw [KR_out (by omega)] at hc; exact hc
  have up : ∀ c, lve K c → lve (KR K e) c := fun c hc => by
    unfold lve; rw [KR_out (out c hc)]; exact hc
  have upi : ∀ i, i < 17 → lve (KR K e) (e + i) := fun i hi => by
    unfold lve; rw [KR_in hi]; exact kE_lv i hi
  have lk : ∀ c, lve K c → lve K' c := fun c hc => by
    unfold lve; rw [(hB c (lt c hc)).1]; exact hc
  have lki : ∀ i, i < 17 → lve K' (n + i) := fun i hi => by
    unfold lve; rw [(hKn i hi).1]; exact kE_lv i hi
  -- references of what was
  have rf : ∀ c k a, lve K c → rk (K c).1 k → c ≠ 65 → R c k = some a → lve K a := fun c k a hc hr h65 hR => (b6 c k a hc hr hR).resolve_right (fun q => h65 q.1)
  have mo : ∀ a : Option Nat, (∀ x, a = some x → lve K x) → mrf (bsR bs n e) a = mrf bs a := fun a ha => by
    cases a with
    | none => rfl
    | some x => unfold mrf; simp only [Option.map_some]; rw [adl x (ha x rfl)]
  refine ⟨⟨a1, fun c hc => ?_⟩, fun c hc => ?_, fun c hc => ?_, fun c d hc hd ee => ?_, fun c k a hc hr hR => ?_, fun a ha => ?_, fun j' hj' hh' i hi => ?_⟩
  · have hc' : n ≤ c := hc
    have e17 : e + 17 ≤ c := by omega
    have : ad (bsR bs n e) c = ad bs (c + 17) := by
      show (if e ≤ c ∧ c < e + 17 then _ else _) = _
      rw [if_neg (by omega), if_pos hc']
    rw [this, a2 (c + 17) (by show n + 17 ≤ c + 17; omega)]
    show H.size + (c + 17 - (n + 17)) = H.size + (c - n)
    omega
  · have hc' : n ≤ c := hc
    show (KR K e c).1 = 99
    rw [KR_out (by omega)]; exact b3 c hc'
  · show Ab (bsR bs n e) (ad (bsR bs n e) c) ∧ va_at D cls13 (ad (bsR bs n e) c, mcell cA (bsR bs n e) (KR K e) R I L c) H
    rcases sp c hc with ⟨i, hi, rfl⟩ | ⟨hc', ho⟩
    · rw [ad_in hi]
      refine ⟨(a4 (n + i) (lki i hi)).1, ?_⟩
      have key : mcell cA (bsR bs n e) (KR K e) R I L (e + i) = mcell cA bs K' R2 I' L' (n + i) := by
        by_cases i0' : i = 0
        · subst i0'
          have k1 : ((KR K e) (e + 0)).1 = 2 := by rw [KR_in (by decide)]; rfl
          have k2 : (K' (n + 0)).1 = 2 := by rw [(hKn 0 (by decide)).1]; rfl
          rw [mcell_o (ci := 2) _ _ _ _ _ _ k1 (by decide), mcell_o (ci := 2) _ _ _ _ _ _ k2 (by decide)]
          congr 2
          refine mfl_ext (by rw [(hz 0 (by decide)).2.1, (hKn 0 (by decide)).2.1]) _ _ (fun k hk => ?_)
          rw [Nat.zero_add]
          have hk19 : k < 19 := by rw [← mty2_l]; exact (List.getElem?_eq_some_iff.mp hk).1
          show mrf (bsR bs n e) (R e k) = mrf bs (R2 n k)
          rcases fX2_k k hk19 hk with rfl | ⟨q, hq, rfl⟩
          · rw [hRe.1, hRn.1]
            exact mo (some h) (fun x hx => by cases hx; exact hlh)
          · rw [hRe.2 q hq, hRn.2 q hq]
            unfold mrf; simp only [Option.map_some]
            rw [ad_in (kE_f q hq).2.2]
        · obtain ⟨q, hq, rfl⟩ := fX2_d i hi i0'
          have k1 : (KR K e) (e + q.2.1) = (14, q.2.2.2) := by rw [KR_in hi, Prod.ext_iff]; exact ⟨kE_14 _ hi i0', by rw [(kE_f q hq).1]⟩
          have k2 : K' (n + q.2.1) = (14, q.2.2.2) := by rw [(hKn _ hi).1, Prod.ext_iff]; exact ⟨kE_14 _ hi i0', by rw [(kE_f q hq).1]⟩
          rw [mcell_i _ _ _ _ _ _ k1 (by simp), mcell_i _ _ _ _ _ _ k2 (by simp), (hz _ hi).2.1, (hKn _ hi).2.1]
      rw [key]; exact (a4 (n + i) (lki i hi)).2
    · rw [adl c hc']
      refine ⟨(a4 c (lk c hc')).1, ?_⟩
      have hBc := hB c (lt c hc')
      have hKc : KR K e c = K' c := by rw [KR_out ho, hBc.1]
      have key : mcell cA (bsR bs n e) (KR K e) R I L c = mcell cA bs K' R2 I' L' c := by
        unfold mcell
        rw [hKc, hBc.1, hBc.2.1, hBc.2.2.1]
        by_cases h13 : (K c).1 < 13
        · rw [if_pos h13, if_pos h13]
          have h65 : c ≠ 65 := fun q => by rw [q, hK65] at h13; exact absurd h13 (by decide)
          rw [hBc.2.2.2 h65]
          congr 2
          refine mfl_ext rfl _ _ (fun k hk => ?_)
          rw [Nat.zero_add]
          exact mo _ (fun x hx => rf c k x hc' (Or.inl hk) h65 hx)
        · rw [if_neg h13, if_neg h13]
          by_cases h15 : (K c).1 = 15
          · rw [if_pos h15, if_pos h15]
          · rw [if_neg h15, if_neg h15]
            by_cases h17 : (K c).1 < 17
            · rw [if_pos h17, if_pos h17]
            · rw [if_neg h17, if_neg h17]
              refine congrArg (fun g : Nat → Option Nat => (Sum.inl (cA (K c).1, (K c).2, Sum.inr (Sum.inr (Sum.inr (Sum.inr g)))) : va_E)) ?_
              funext k
              by_cases h65 : c = 65
              · subst h65
                rw [hK65]
                by_cases hkj : k = j
                · subst hkj
                  rw [hR65, hR2, ent_s (Or.inr ?_), ent_s (Or.inr ?_)]
                  · have := ad_in (bs := bs) (n := n) (e := e) (i := 0) (by decide)
                    rw [Nat.add_zero, Nat.add_zero] at this
                    rw [this]
                  · cases q : bs.2.2 n with
                    | false => rfl
                    | true => have := (b7 n q).1; omega
                  · cases q : (bsR bs n e).2.2 e with
                    | false => rfl
                    | true => have := (h_in q).1; omega
                · rw [hR3 k hkj]
                  cases hq : R 65 k with
                  | none => rw [ent_n, ent_n]
                  | some a =>
                    rcases b6 65 k a hc' (Or.inr (by show 17 ≤ (K 65).1; rw [hK65]; decide)) hq with q | q
                    · have f1 : bs.2.2 a = false := by
                        cases q9 : bs.2.2 a with
                        | false => rfl
                        | true => exact absurd q (b7 a q9).2.1
                      rw [ent_s (Or.inr (by rw [h_out (out a q)]; exact f1)), ent_s (Or.inr f1), adl a q]
                    · obtain ⟨-, k2, ea, ha⟩ := q
                      have oo : a < e ∨ e + 17 ≤ a := by omega
                      rw [ent_h (by rw [h_out oo]; exact ha), ent_h ha]
              · rw [hBc.2.2.2 h65]
                cases hq : R c k with
                | none => rw [ent_n, ent_n]
                | some a =>
                  have q := rf c k a hc' (Or.inr (by omega)) h65 hq
                  have f1 : bs.2.2 a = false := by
                    cases q9 : bs.2.2 a with
                    | false => rfl
                    | true => exact absurd q (b7 a q9).2.1
                  rw [ent_s (Or.inr (by rw [h_out (out a q)]; exact f1)), ent_s (Or.inr f1), adl a q]
      rw [key]; exact (a4 c (lk c hc')).2
  · rcases sp c hc with ⟨i, hi, rfl⟩ | ⟨hc', ho⟩ <;> rcases sp d hd with ⟨i', hi', rfl⟩ | ⟨hd', ho'⟩
    · rw [ad_in hi, ad_in hi'] at ee
      have := a5 _ _ (lki i hi) (lki i' hi') ee
      omega
    · rw [ad_in hi, adl d hd'] at ee
      have := a5 _ _ (lki i hi) (lk d hd') ee
      have := lt d hd'
      omega
    · rw [ad_in hi', adl c hc'] at ee
      have := a5 _ _ (lk c hc') (lki i' hi') ee
      have := lt c hc'
      omega
    · rw [adl c hc', adl d hd'] at ee
      exact b5 c d hc' hd' (by rw [← adl c hc', ← adl d hd'] at ee; rw [adl c hc', adl d hd'] at ee; exact ee)
  · show lve (KR K e) a ∨ hid (bsR bs n e) c k a
    have hr' : rk (KR K e c).1 k := hr
    rcases sp c hc with ⟨i, hi, rfl⟩ | ⟨hc', ho⟩
    · rw [KR_in hi] at hr'
      by_cases i0' : i = 0
      · subst i0'
        have hR' : R e k = some a := hR
        rcases hr' with q | q
        · have hk19 : k < 19 := by rw [← mty2_l]; exact (List.getElem?_eq_some_iff.mp q).1
          rcases fX2_k k hk19 q with rfl | ⟨x, hx, rfl⟩
          · rw [hRe.1] at hR'; cases hR'; exact Or.inl (up h hlh)
          · rw [hRe.2 x hx] at hR'; cases hR'; exact Or.inl (upi _ (kE_f x hx).2.2)
        · exact absurd q (by decide)
      · rcases hr' with q | q
        · rw [kE_14 i hi i0'] at q; exact (mty_hi (by decide) q).elim
        · rw [kE_14 i hi i0'] at q; exact absurd q (by decide)
    · rw [KR_out ho] at hr'
      rcases b6 c k a hc' hr' hR with q | ⟨q1, q2, q3, q4⟩
      · exact Or.inl (up a q)
      · by_cases hkj : k = j
        · left
          have : a = e + 0 := by omega
          rw [this]; exact upi 0 (by decide)
        · exact Or.inr ⟨q1, q2, q3, by rw [h_out (by omega)]; exact q4⟩
  · obtain ⟨q1, q2⟩ := h_in ha
    obtain ⟨c1, c2, c3, c4⟩ := b7 a q2
    refine ⟨c1, fun q => ?_, c3, c4⟩
    unfold lve at q c2
    have q' : (KR K e a).1 ≠ 99 := q
    rw [KR_out q1] at q'; exact c2 q'
  · obtain ⟨q1, q2⟩ := h_in hh'
    have := b8 j' hj' q2 i hi
    rw [h_out (by omega)]; exact this
theorem isX8_fr {K K1 : mK} {R R1 : mR} {t : Nat} (h : ∀ c, t ≤ c → c ≤ t + 41 → K1 c = K c ∧ R1 c = R c) (hr : isX8 K R t) : isX8 K1 R1 t := by
  refine ⟨isO_fr mx8 (fun c x y => (h c x (by omega)).1) (h t (by omega) (by omega)).2 (by decide) hr.1, fun j hj => ?_⟩
  have := hr.2 j hj
  exact ⟨⟨by rw [(h (t + 2) (by omega) (by omega)).2]; exact this.1.1, isO_fr mx3 (fun c x y => (h c (by omega) (by omega)).1) (h _ (by omega) (by omega)).2 (by decide) this.1.2⟩, ⟨by rw [(h (t + 3) (by omega) (by omega)).2]; exact this.2.1, isO_fr mx6 (fun c x y => (h c (by omega) (by omega)).1) (h _ (by omega) (by omega)).2 (by decide) this.2.2⟩⟩
/-- the class's own object over another K, R: all as it was below 94, its images apart; the evenings are told -/
theorem isX11_x {K K1 : mK} {R R1 : mR} (h : ∀ c, c < 94 → K1 c = K c) (h' : ∀ c, c < 94 → c ≠ 43 → R1 c = R c) (hE : ∀ j, j < 2 → isE K R j → isE K1 R1 j) (hr : isX11 K R) : isX11 K1 R1 := by
  obtain ⟨a0, ⟨a1, b1⟩, ⟨a2, b2⟩, ⟨a3, b3⟩, ⟨a4, b4, c4⟩, ⟨a5, b5⟩, ⟨a6, b6⟩, ⟨a7, b7⟩, ⟨a8, b8⟩, ⟨a9, b9⟩, ⟨a10, b10⟩⟩ := hr
  have r0 := h' 0 (by decide) (by decide)
  refine ⟨by rw [h 0 (by decide)]; exact a0, ⟨by rw [r0]; exact a1, isX8_fr (fun c x y => ⟨h c (by omega), h' c (by omega) (by omega)⟩) b1⟩, ⟨by rw [r0]; exact a2, by rw [h 43 (by decide)]; exact b2⟩, ⟨by rw [r0]; exact a3, ?_⟩, ⟨by rw [r0]; exact a4, by rw [h 65 (by decide)]; exact b4, fun j hj => ⟨by rw [h' 65 (by decide) (by decide)]; exact (c4 j hj).1, hE j hj (c4 j hj).2⟩⟩, ⟨by rw [r0]; exact a5, isO_fr (m := 4) (by decide) (fun c x y => h c (by omega)) (h' _ (by decide) (by decide)) (by decide) b5⟩, ⟨by rw [r0]; exact a6, isO_fr (m := 5) (by decide) (fun c x y => h c (by omega)) (h' _ (by decide) (by decide)) (by decide) b6⟩, ⟨by rw [r0]; exact a7, isO_fr (m := 5) (by decide) (fun c x y => h c (by omega)) (h' _ (by decide) (by decide)) (by decide) b7⟩, ⟨by rw [r0]; exact a8, isO_fr (m := 4) (by decide) (fun c x y => h c (by omega)) (h' _ (by decide) (by decide)) (by decide) b8⟩, ⟨by rw [r0]; exact a9, isO_fr (m := 5) (by decide) (fun c x y => h c (by omega)) (h' _ (by decide) (by decide)) (by decide) b9⟩, ⟨by rw [r0]; exact a10, isO_fr (m := 3) (by decide) (fun c x y => h c (by omega)) (h' _ (by decide) (by decide)) (by decide) b10⟩⟩
  obtain ⟨p1, ⟨p2, p3⟩, ⟨p4, p5⟩, p6, p7⟩ := b3
  have q0 := h' 44 (by decide) (by decide)
  exact ⟨isO_fr (m := 21) (by decide) (fun c x y => h c (by omega)) q0 (by decide) p1, ⟨by rw [q0]; exact p2, isO_fr mx3 (fun c x y => h c (by omega)) (h' _ (by decide) (by decide)) (by decide) p3⟩, ⟨by rw [q0]; exact p4, isO_fr mx6 (fun c x y => h c (by omega)) (h' _ (by decide) (by decide)) (by decide) p5⟩, by rw [q0]; exact p6, by rw [h 2 (by decide)]; exact p7⟩
/-- an evening, made or hidden, where nothing of it changed -/
theorem isE_fr {K K1 : mK} {R R1 : mR} {j : Nat} (hj : j < 2) (h : ∀ c, 94 + 17 * j ≤ c → c < 111 + 17 * j → K1 c = K c) (h5 : ∀ c, c < 94 → K1 c = K c) (hR : R1 (94 + 17 * j) = R (94 + 17 * j)) (hR5 : R1 (5 + 19 * j) = R (5 + 19 * j)) (hr : isE K R j) : isE K1 R1 j := by
  rcases hr with q | q
  · exact Or.inl ⟨isO_fr (m := 17) (by decide) (fun c x y => h c x (by omega)) hR (by decide) q.1, by rw [hR]; exact q.2.1, isO_fr mx3 (fun c x y => h5 c (by omega)) hR5 (by decide) q.2.2⟩
  · exact Or.inr ⟨by rw [h _ (Nat.le_refl _) (by omega)]; exact q.1, by rw [hR]; exact q.2.1, fun i x hx => by rw [hR]; exact q.2.2 i x hx⟩
theorem isX11_KR {K : mK} {R : mR} {j : Nat} (hj : j < 2) (hH : isH K R j) (hr : isX11 K R) : isX11 (KR K (94 + 17 * j)) R := by
  have h5 : ∀ c, c < 94 → KR K (94 + 17 * j) c = K c := fun c hc => KR_out (by omega)
  refine isX11_x h5 (fun _ _ _ => rfl) (fun j' hj' he => ?_) hr
  by_cases e : j' = j
  · subst e
    refine Or.inl ⟨⟨by have := KR_in (K := K) (e := 94 + 17 * j') (i := 0) (by decide); rw [Nat.add_zero] at this; rw [this]; rfl, fun i q hq => ⟨hH.2.2 i q hq, ?_⟩⟩, hH.2.1, isO_fr mx3 (fun c x y => h5 c (by omega)) rfl (by decide) ?_⟩
    · have := kE_f q (List.mem_of_getElem? hq)
      rw [KR_in this.2.2]; exact this.1
    · have := (hr.2.1.2.2 j' hj').1.2
      rw [show 1 + 4 + 19 * j' = 5 + 19 * j' by omega] at this; exact this
  · exact isE_fr hj' (fun c x y => KR_out (by omega)) h5 rfl rfl he
theorem EX_KR {bs : Ad} {n j : Nat} {K : mK} {R : mR} (hj : j < 2) (hH : isH K R j) (hn : ∀ c, lve K c → c < n) (ho : ∀ c, lve K c → c < 94 + 17 * j ∨ 94 + 17 * j + 17 ≤ c) : EX bs K R (bsR bs n (94 + 17 * j)) (KR K (94 + 17 * j)) :=
  ⟨rfl, fun c hc => ad_out (ho c hc) (hn c hc), ⟨fun c hc => KR_out (by omega), fun c hc => by unfold lve; rw [KR_out (ho c hc)]; exact hc⟩, fun h => isX11_KR hj hH h⟩
