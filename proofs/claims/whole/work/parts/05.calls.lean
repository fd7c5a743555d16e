/-! calls: contracts over the memory -/
def PreM (D : va_G) (cA : Nat → ClassId) (Z : mZ) (bs : Ad) (M : Mm) (av : List Value) : Array Value → State → Prop := va_Pc av (fun U => Cx D cA Z bs U ∧ mm D cA bs M U.heap)
def QI (D : va_G) (cA : Nat → ClassId) (bs : Ad) (post : Int32 → Mm → Prop) : Array Value → State → Outcome → State → Prop := va_Qi post (fun u t => mm D cA bs u t.heap) (Ab bs)
def QL (D : va_G) (cA : Nat → ClassId) (bs : Ad) (post : Int64 → Mm → Prop) : Array Value → State → Outcome → State → Prop := va_Ql post (fun u t => mm D cA bs u t.heap) (Ab bs)
def QV (D : va_G) (cA : Nat → ClassId) (bs : Ad) (post : Mm → Prop) : Array Value → State → Outcome → State → Prop := va_Qv post (fun u t => mm D cA bs u t.heap) (Ab bs)
def QO (D : va_G) (cA : Nat → ClassId) (bs : Ad) (post : Option Nat → Mm → Prop) : Array Value → State → Outcome → State → Prop := va_Qq (fun r u => ∃ o : Option Nat, r = o.map (fun a => ad bs a) ∧ post o u) (fun u t => mm D cA bs u t.heap) (Ab bs)
theorem PreM_blind {D : va_G} {cA : Nat → ClassId} {Z : mZ} {bs : Ad} {M : Mm} {av : List Value} : FrameBlind (PreM D cA Z bs M av) := fun a U g mk q => by
  obtain ⟨q1, q2, q3⟩ := q
  exact ⟨q1, Cx_calling q2 g mk a, q3⟩
/-- a link to a method: y, its code, its parameters; C the receiver's class -/
def CSV (own : String) (idx : Nat) (y : MethodName) (bytes : ByteArray) (maxL : Nat) (ret : Option FieldType) (np : Nat) : Prop := (∀ w ∈ ([.methodLink own idx y, .instanceMethod y, .selects y.cls y y, .initialized y.cls, .code y bytes maxL ret] : List Cond), w ∈ gw) ∧ y.cls ≠ "java/lang/invoke/MethodHandle" ∧ y.cls ≠ "java/lang/invoke/VarHandle" ∧ (parseMethodDescriptor y.desc).map (fun d => d.parameters.length) = some np
def CSS (own : String) (idx : Nat) (y : MethodName) (bytes : ByteArray) (maxL : Nat) (ret : Option FieldType) (np : Nat) : Prop := (∀ w ∈ ([.methodLink own idx y, .static y, .initialized y.cls, .code y bytes maxL ret] : List Cond), w ∈ gw) ∧ y.cls ≠ "java/lang/invoke/MethodHandle" ∧ y.cls ≠ "java/lang/invoke/VarHandle" ∧ (parseMethodDescriptor y.desc).map (fun d => d.parameters.length) = some np
def CSI (own : String) (idx : Nat) (y : MethodName) (bytes : ByteArray) (maxL : Nat) (np : Nat) : Prop := (∀ w ∈ ([.methodLink own idx y, .instanceMethod y, .initialized y.cls, .code y bytes maxL none] : List Cond), w ∈ gw) ∧ y.name = "<init>" ∧ y.cls ≠ "java/lang/invoke/MethodHandle" ∧ y.cls ≠ "java/lang/invoke/VarHandle" ∧ (parseMethodDescriptor y.desc).map (fun d => d.parameters.length) = some np
/-- the same by the nest -/
def CSSN (own : String) (idx : Nat) (y : MethodName) (bytes : ByteArray) (maxL : Nat) (ret : Option FieldType) (np : Nat) : Prop := (own, idx, y) ∈ nestq ∧ (∀ w ∈ ([.static y, .initialized y.cls, .code y bytes maxL ret] : List Cond), w ∈ gw) ∧ y.cls ≠ "java/lang/invoke/MethodHandle" ∧ y.cls ≠ "java/lang/invoke/VarHandle" ∧ (parseMethodDescriptor y.desc).map (fun d => d.parameters.length) = some np
def CSIN (own : String) (idx : Nat) (y : MethodName) (bytes : ByteArray) (maxL : Nat) (np : Nat) : Prop := (own, idx, y) ∈ nestq ∧ (∀ w ∈ ([.instanceMethod y, .initialized y.cls, .code y bytes maxL none] : List Cond), w ∈ gw) ∧ y.name = "<init>" ∧ y.cls ≠ "java/lang/invoke/MethodHandle" ∧ y.cls ≠ "java/lang/invoke/VarHandle" ∧ (parseMethodDescriptor y.desc).map (fun d => d.parameters.length) = some np
theorem gw_c {c : Cond} (h : c ∈ gw) : GoodIn gw (c :: gw) := fun w hw => by
  rcases List.mem_cons.mp hw with q | q
  · rw [q]; exact gw_good h
  · exact gw_good q
section MC
variable {p : Program} {l : Launch} {e : Env} {RM : Room} {s : State} {m : MethodId} {args : Array Value} {below : List Frame} {meth : Method} {c : Code} {H H0 : Heap} {locs : List Loc} {cells slots : Nat} {Q : State → Prop} {cc : ByteArray} {pc : Nat} {ls : Array Slot} {rest st0 : List Value} {D : va_G} {cA : Nat → ClassId} {Z : mZ} {bs : Ad} {nL : Nat} {own : String} {n : Nat} {K : mK} {R : mR} {I : mI} {L : mL} {M : Mm}
  {y : MethodName} {bytes : ByteArray} {maxL mc ms np idx : Nat} {ret : Option FieldType} {rm : Room} {Qc : Array Value → State → Outcome → State → Prop} {As : List Value}
theorem m_runV (E : Ev p s m args c cc nL own D cA Z bs) (hM : mm D cA bs M H) (hS : va_S (Ab bs) s.heap H locs) (hC : CSV own idx y bytes maxL ret np) {o ci : Nat} {q : vw_C} (ho : (M.2.1 o).1 = ci) (hci : ci < 13) (hq : cls13[ci]? = some q) (hqn : q.1 = y.cls) (hMet : Met l y (.code y bytes maxL ret :: gw) rm (PreM D cA Z bs M (.ref (ad bs o) :: As)) Qc mc ms (Ab bs)) (hrc : rm.cells = mc) (hrs : rm.slots = ms) (hR : rm.frames + 1 ≤ RM.frames ∧ 8 + (maxL + 11) + rm.locals ≤ RM.locals)
    (hn : As.length = np) (hls : ls.size = nL) (hst : st0 = As.reverse ++ .ref (ad bs o) :: rest) (hW : (rest.map fun v => v.category).sum ≤ 8) (hdg : decode cc pc = .ok (.invokevirtual idx, 3)) (hf : cells + mc ≤ RM.cells ∧ slots + ms ≤ RM.slots) :
    va_Run p l e RM s m args below meth c H locs cells slots mc ms (F0 m pc ls st0) rest (Qc (Value.ref (ad bs o) :: As).toArray) (Ab bs) := by
  have hlt : (M.2.1 o).1 ≠ 99 := by rw [ho]; omega
  have he : va_P D cls13 [(ad bs o, .inr (ci, mfl bs (M.2.2.1 o) (M.2.2.2.1 o) 0 (mty ci)))] H := mm_P hM hlt (mcell_o _ _ _ _ _ _ ho hci)
  have hw := hC.1
  have hG : GoodIn gw (wsV own idx y.cls y (.code y bytes maxL ret :: gw)) := by
    intro w hw'
    rcases List.mem_append.mp hw' with h | h
    · exact gw_good (hw w (by simp only [List.mem_cons, List.not_mem_nil, or_false] at h ⊢; rcases h with h | h | h | h <;> simp [h]))
    · exact gw_c (hw _ (by simp)) w h
  refine va_runV E.1 hMet (cwV np E.1.2.2.2.2 hG rfl hrc hrs ⟨rfl, hC.2⟩ hR) ⟨PreM_blind, ?_, fun U hU hWm => ⟨rfl, Cx_warm E.2 hS hU hWm, by rw [hU]; exact hM⟩⟩ rfl hn hls (by rw [← hst]) (lv_room hW) hdg hf
  have := va_recv (q0 := 0) E.2.1 he hq rfl
  rw [hqn] at this
  exact this
theorem m_runS (E : Ev p s m args c cc nL own D cA Z bs) (hM : mm D cA bs M H) (hS : va_S (Ab bs) s.heap H locs) (hC : CSS own idx y bytes maxL ret np) (hMet : Met l y (.code y bytes maxL ret :: gw) rm (PreM D cA Z bs M As) Qc mc ms (Ab bs)) (hrc : rm.cells = mc) (hrs : rm.slots = ms) (hR : rm.frames + 1 ≤ RM.frames ∧ 8 + (maxL + 11) + rm.locals ≤ RM.locals)
    (hn : As.length = np) (hls : ls.size = nL) (hst : st0 = As.reverse ++ rest) (hW : (rest.map fun v => v.category).sum ≤ 8) (hdg : decode cc pc = .ok (.invokestatic idx, 3)) (hf : cells + mc ≤ RM.cells ∧ slots + ms ≤ RM.slots) :
    va_Run p l e RM s m args below meth c H locs cells slots mc ms (F0 m pc ls st0) rest (Qc As.toArray) (Ab bs) := by
  have hw := hC.1
  have hts := E.1.2.2.2.2
  refine va_runS E.1 hMet ⟨callB_of np hts (gw_c (hw _ (by simp))) rfl hrc hrs (hts _ (hw _ (by simp))) (hts _ (hw _ (by simp))) hC.2 hR, hts _ (hw _ (by simp))⟩ ⟨PreM_blind, fun U hU hWm => ⟨rfl, Cx_warm E.2 hS hU hWm, by rw [hU]; exact hM⟩⟩ rfl hn hls (by rw [← hst]) (lv_room hW) hdg hf
theorem m_runI (E : Ev p s m args c cc nL own D cA Z bs) (hM : mm D cA bs M H) (hS : va_S (Ab bs) s.heap H locs) (hC : CSI own idx y bytes maxL np) {o : Nat} (hMet : Met l y (.code y bytes maxL none :: gw) rm (PreM D cA Z bs M (.ref (ad bs o) :: As)) Qc mc ms (Ab bs)) (hrc : rm.cells = mc) (hrs : rm.slots = ms) (hR : rm.frames + 1 ≤ RM.frames ∧ 8 + (maxL + 11) + rm.locals ≤ RM.locals)
    (hn : As.length = np) (hls : ls.size = nL) (hst : st0 = As.reverse ++ .ref (ad bs o) :: rest) (hW : (rest.map fun v => v.category).sum ≤ 8) (hdg : decode cc pc = .ok (.invokespecial idx, 3)) (hf : cells + mc ≤ RM.cells ∧ slots + ms ≤ RM.slots) :
    va_Run p l e RM s m args below meth c H locs cells slots mc ms (F0 m pc ls st0) rest (Qc (Value.ref (ad bs o) :: As).toArray) (Ab bs) := by
  have hw := hC.1
  have hts := E.1.2.2.2.2
  refine va_runI E.1 hMet (cwI np hts (gw_c (hw _ (by simp))) rfl hrc hrs (hts _ (hw _ (by simp))) (hts _ (hw _ (by simp))) (hts _ (hw _ (by simp))) hC.2.1 hC.2.2 hR) ⟨PreM_blind, fun U hU hWm => ⟨rfl, Cx_warm E.2 hS hU hWm, by rw [hU]; exact hM⟩⟩ rfl hn hls (by rw [← hst]) (lv_room hW) hdg hf
theorem m_runSN (E : Ev p s m args c cc nL own D cA Z bs) (hM : mm D cA bs M H) (hS : va_S (Ab bs) s.heap H locs) (hC : CSSN own idx y bytes maxL ret np) (hMet : Met l y (.code y bytes maxL ret :: gw) rm (PreM D cA Z bs M As) Qc mc ms (Ab bs)) (hrc : rm.cells = mc) (hrs : rm.slots = ms) (hR : rm.frames + 1 ≤ RM.frames ∧ 8 + (maxL + 11) + rm.locals ≤ RM.locals)
    (hn : As.length = np) (hls : ls.size = nL) (hst : st0 = As.reverse ++ rest) (hW : (rest.map fun v => v.category).sum ≤ 8) (hdg : decode cc pc = .ok (.invokestatic idx, 3)) (hf : cells + mc ≤ RM.cells ∧ slots + ms ≤ RM.slots) :
    va_Run p l e RM s m args below meth c H locs cells slots mc ms (F0 m pc ls st0) rest (Qc As.toArray) (Ab bs) := by
  obtain ⟨hN, hw, hd⟩ := hC
  have hts := E.1.2.2.2.2
  refine va_runSN E.1 hMet ⟨va_cnB np hts (gw_c (hw _ (by simp))) rfl hrc hrs (E.2.2.1 _ hN) (hts _ (hw _ (by simp))) hd hR, hts _ (hw _ (by simp)), trivial⟩ ⟨PreM_blind, fun U hU hWm => ⟨rfl, Cx_warm E.2 hS hU hWm, by rw [hU]; exact hM⟩⟩ rfl hn hls (by rw [← hst]) (lv_room hW) hdg hf
theorem m_runIN (E : Ev p s m args c cc nL own D cA Z bs) (hM : mm D cA bs M H) (hS : va_S (Ab bs) s.heap H locs) (hC : CSIN own idx y bytes maxL np) {o : Nat} (hMet : Met l y (.code y bytes maxL none :: gw) rm (PreM D cA Z bs M (.ref (ad bs o) :: As)) Qc mc ms (Ab bs)) (hrc : rm.cells = mc) (hrs : rm.slots = ms) (hR : rm.frames + 1 ≤ RM.frames ∧ 8 + (maxL + 11) + rm.locals ≤ RM.locals)
    (hn : As.length = np) (hls : ls.size = nL) (hst : st0 = As.reverse ++ .ref (ad bs o) :: rest) (hW : (rest.map fun v => v.category).sum ≤ 8) (hdg : decode cc pc = .ok (.invokespecial idx, 3)) (hf : cells + mc ≤ RM.cells ∧ slots + ms ≤ RM.slots) :
    va_Run p l e RM s m args below meth c H locs cells slots mc ms (F0 m pc ls st0) rest (Qc (Value.ref (ad bs o) :: As).toArray) (Ab bs) := by
  obtain ⟨hN, hw, hi, hd⟩ := hC
  have hts := E.1.2.2.2.2
  refine va_runIN E.1 hMet ⟨va_cnB np hts (gw_c (hw _ (by simp))) rfl hrc hrs (E.2.2.1 _ hN) (hts _ (hw _ (by simp))) hd hR, hi, hts _ (hw _ (by simp))⟩ ⟨PreM_blind, fun U hU hWm => ⟨rfl, Cx_warm E.2 hS hU hWm, by rw [hU]; exact hM⟩⟩ rfl hn hls (by rw [← hst]) (lv_room hW) hdg hf
theorem m_ci {post : Int32 → Mm → Prop} {a : Array Value} (hr : va_Run p l e RM s m args below meth c H locs cells slots mc ms (F0 m pc ls st0) rest (QI D cA bs post a) (Ab bs)) (hS : va_S (Ab bs) H0 H locs)
    (kk : ∀ (r : Int32) (u : Mm) (H1 : Heap) (locs1 : List Loc), post r u → mm D cA bs u H1 → va_S (Ab bs) H0 H1 locs1 → W p l e RM s m args below meth c H1 locs1 (cells + mc) (slots + ms) Q (F0 m (pc + 3) ls (.int r :: rest))) : W p l e RM s m args below meth c H locs cells slots Q (F0 m pc ls st0) :=
  va_calli hr hS (fun _ _ h => h) (fun _ h => h) (fun r u t H1 locs1 ht _ hp hB _ _ hS1 => kk r u H1 locs1 hp (by rw [← ht]; exact hB) hS1)
theorem m_cl {post : Int64 → Mm → Prop} {a : Array Value} (hr : va_Run p l e RM s m args below meth c H locs cells slots mc ms (F0 m pc ls st0) rest (QL D cA bs post a) (Ab bs)) (hS : va_S (Ab bs) H0 H locs)
    (kk : ∀ (r : Int64) (u : Mm) (H1 : Heap) (locs1 : List Loc), post r u → mm D cA bs u H1 → va_S (Ab bs) H0 H1 locs1 → W p l e RM s m args below meth c H1 locs1 (cells + mc) (slots + ms) Q (F0 m (pc + 3) ls (.long r :: rest))) : W p l e RM s m args below meth c H locs cells slots Q (F0 m pc ls st0) :=
  va_calll hr hS (fun _ _ h => h) (fun _ h => h) (fun r u t H1 locs1 ht _ hp hB _ _ hS1 => kk r u H1 locs1 hp (by rw [← ht]; exact hB) hS1)
theorem m_cv {post : Mm → Prop} {a : Array Value} (hr : va_Run p l e RM s m args below meth c H locs cells slots mc ms (F0 m pc ls st0) rest (QV D cA bs post a) (Ab bs)) (hS : va_S (Ab bs) H0 H locs)
    (kk : ∀ (u : Mm) (H1 : Heap) (locs1 : List Loc), post u → mm D cA bs u H1 → va_S (Ab bs) H0 H1 locs1 → W p l e RM s m args below meth c H1 locs1 (cells + mc) (slots + ms) Q (F0 m (pc + 3) ls rest)) : W p l e RM s m args below meth c H locs cells slots Q (F0 m pc ls st0) :=
  va_callv hr hS (fun _ _ h => h) (fun _ h => h) (fun u t H1 locs1 ht _ hp hB _ _ hS1 => kk u H1 locs1 hp (by rw [← ht]; exact hB) hS1)
theorem m_co {post : Option Nat → Mm → Prop} {a : Array Value} (hr : va_Run p l e RM s m args below meth c H locs cells slots mc ms (F0 m pc ls st0) rest (QO D cA bs post a) (Ab bs)) (hS : va_S (Ab bs) H0 H locs)
    (kk : ∀ (o : Option Nat) (u : Mm) (H1 : Heap) (locs1 : List Loc), post o u → mm D cA bs u H1 → va_S (Ab bs) H0 H1 locs1 → W p l e RM s m args below meth c H1 locs1 (cells + mc) (slots + ms) Q (F0 m (pc + 3) ls (mrf bs o :: rest))) : W p l e RM s m args below meth c H locs cells slots Q (F0 m pc ls st0) :=
  va_callq hr hS (fun _ _ h => h) (fun _ h => h) (fun r u t H1 locs1 ht _ hp hB _ _ hS1 => by
    obtain ⟨o, rfl, ho⟩ := hp
    exact kk o u H1 locs1 ho (by rw [← ht]; exact hB) hS1)
/-- a method's end -/
theorem m_reti {post : Int32 → Mm → Prop} (hx : p.tables.exec = Jvm.exec) (hb : c.code = cc) (hr : meth.sig.returnType = some .int) (hlk : meth.locks = false) {v : Int32} (hM : mm D cA bs M H) (hS : va_S (Ab bs) s.heap H locs) (hp : post v M) (hdg : decode cc pc = .ok (.ireturn, 1)) : W p l e RM s m args below meth c H locs cells slots (MQ below (QI D cA bs post) args s cells slots (Ab bs)) (F0 m pc ls [.int v]) :=
  W.iret (v := v) hx hb hr (fun t ht _ => ⟨⟨v, M, rfl, hp, (show mm D cA bs M t.heap by rw [ht]; exact hM)⟩, hS.F ht⟩) hS.2.2 hdg
theorem m_retz {post : Int32 → Mm → Prop} (hx : p.tables.exec = Jvm.exec) (hb : c.code = cc) (hr : meth.sig.returnType = some .boolean) (hlk : meth.locks = false) {v : Int32} (hv : v = 0 ∨ v = 1) (hM : mm D cA bs M H) (hS : va_S (Ab bs) s.heap H locs) (hp : post v M) (hdg : decode cc pc = .ok (.ireturn, 1)) : W p l e RM s m args below meth c H locs cells slots (MQ below (QI D cA bs post) args s cells slots (Ab bs)) (F0 m pc ls [.int v]) :=
  W.zret (v := v) hx hb hr (by rcases hv with rfl | rfl <;> rfl) (fun t ht _ => ⟨⟨v, M, rfl, hp, (show mm D cA bs M t.heap by rw [ht]; exact hM)⟩, hS.F ht⟩) hS.2.2 hdg
theorem m_retv {post : Mm → Prop} (hx : p.tables.exec = Jvm.exec) (hb : c.code = cc) (hr : meth.sig.returnType = none) (hlk : meth.locks = false) (hM : mm D cA bs M H) (hS : va_S (Ab bs) s.heap H locs) (hp : post M) (hdg : decode cc pc = .ok (.return_, 1)) : W p l e RM s m args below meth c H locs cells slots (MQ below (QV D cA bs post) args s cells slots (Ab bs)) (F0 m pc ls []) :=
  W.vret hx hb hr (fun t ht _ => ⟨⟨M, rfl, hp, (show mm D cA bs M t.heap by rw [ht]; exact hM)⟩, hS.F ht⟩) hS.2.2 hdg
theorem m_retl {post : Int64 → Mm → Prop} (hx : p.tables.exec = Jvm.exec) (hb : c.code = cc) (hr : meth.sig.returnType = some .long) (hlk : meth.locks = false) {v : Int64} (hM : mm D cA bs M H) (hS : va_S (Ab bs) s.heap H locs) (hp : post v M) (hdg : decode cc pc = .ok (.lreturn, 1)) : W p l e RM s m args below meth c H locs cells slots (MQ below (QL D cA bs post) args s cells slots (Ab bs)) (F0 m pc ls [.long v]) :=
  W.lret (v := v) hx hb hr (fun t ht _ => ⟨⟨v, M, rfl, hp, (show mm D cA bs M t.heap by rw [ht]; exact hM)⟩, hS.F ht⟩) hS.2.2 hdg
theorem m_reto {post : Option Nat → Mm → Prop} (hx : p.tables.exec = Jvm.exec) (hb : c.code = cc) {rt : FieldType} (hr : meth.sig.returnType = some rt) (hrt : (∃ n, rt = .object n) ∨ ∃ t, rt = .array t) (hlk : meth.locks = false) (o : Option Nat) {v : Value} (hv : v = mrf bs o) (hM : mm D cA bs M H) (hS : va_S (Ab bs) s.heap H locs) (hp : post o M) (hdg : decode cc pc = .ok (.areturn, 1)) : W p l e RM s m args below meth c H locs cells slots (MQ below (QO D cA bs post) args s cells slots (Ab bs)) (F0 m pc ls [v]) := by
  subst hv
  refine W.aret hx hb hr hrt (by cases o with | none => exact Or.inl rfl | some a => exact Or.inr ⟨_, rfl⟩) (fun t ht _ => ⟨⟨o.map (fun a => ad bs a), M, rfl, ⟨o, rfl, hp⟩, (show mm D cA bs M t.heap by rw [ht]; exact hM)⟩, hS.F ht⟩) hS.2.2 hdg
/-- a method's beginning -/
theorem m_met (hy : plainName y.cls = true) {Qc : Array Value → State → Outcome → State → Prop} {av : List Value} (hav : (lg_sl av).length ≤ maxL)
    (body : ∀ (p : Program) (e : Env) (s : State) (m : MethodId) (below : List Frame) (meth : Method) (c : Code) (ls : Array Slot), Ev p s m av.toArray c bytes maxL y.cls D cA Z bs → meth.sig.returnType = ret → meth.locks = false → mm D cA bs M s.heap → va_S (Ab bs) s.heap s.heap [] → lv_has ls maxL (lv_args 0 av) →
      W p l e rm s m av.toArray below meth c s.heap [] 0 0 (MQ below Qc av.toArray s mc ms (Ab bs)) (F0 m 0 ls [])) : Met l y (.code y bytes maxL ret :: gw) rm (PreM D cA Z bs M av) Qc mc ms (Ab bs) := by
  refine Met.ofW (cc := bytes) (maxL := maxL) (ret := ret) hy rfl ?_
  intro p e s m args below meth c s₁ B hml hv
  obtain ⟨rfl, hCx, hM⟩ := hv
  have hts := atoms_spec (ws := .code y bytes maxL ret :: gw) B.pre
  have hown : s.vm.findClass y.cls = some m.cls := findClass_of_methodNamed B.named
  rw [lg_entry_eq]
  exact body p e s m below meth c _ ⟨⟨B.exec, B.bytes, hml, hown, fun w hw => hts w (List.mem_cons_of_mem _ hw)⟩, hCx⟩ B.returns B.notSynchronized hM va_S.rf (lv_entry av hav)
end MC
