/-! asked: tread, where, person -/
/-- the class has changed nothing that is told -/
def XF (J J1 : mJ) : Prop := ∀ c, (c < 66 ∨ 128 ≤ c ∨ (70 ≤ c ∧ c < 75)) → J1 c = J c
theorem XE_XF {J J1 : mJ} (h : XE J J1) : XF J J1 := fun c hc => h c (by omega)
theorem XF_refl {J : mJ} : XF J J := fun _ _ => rfl
theorem lf {α : Type} {post' : α → mJ → Prop} {J : mJ} {v w : α} (h : post' w J) (e : v = w) : post' v J := e ▸ h
theorem lf1 {α : Type} {post' : α → Prop} {v w : α} (h : post' w) (e : v = w) : post' v := e ▸ h
def pkF (f : Nat → Int) (a n w : Int) : Int := if 0 ≤ a ∧ a < n then f a.toNat else w
theorem x_pickT {J : mJ} {e : Nat} {g : Nat → Int} (hv : HV g) (hO : EvO J e g) {a w : Int} (j c : Nat) (hj : j < 9) (hc : c = e + 1 + j) {post' : Int → Prop} (h : post' (pkF ((gRun g).2 j) a ((gRun g).1 : Int) w)) : v_X11_pick J c 600 a (J e 2) w post' := by
  subst hc
  refine p_X11_pick (by decide) ?_
  have hn := gRun_le hv
  rw [hO.1.1]
  unfold pkF at h
  by_cases hc : 0 ≤ a ∧ a < ((gRun g).1 : Int)
  · rw [if_pos hc] at h; rw [if_pos ⟨hc.1, hc.2, by omega⟩, hO.1.2.1 j _ hj (by omega)]; exact h
  · rw [if_neg hc] at h; rw [if_neg (by omega)]; exact h
theorem x_spotAt {J : mJ} {e h : Nat} {g : Nat → Int} (hO : EvO J e g) {p t : Nat} (hp : (p : Int) < g 3) (hp6 : p < 6) (ht : t < 100) {post' : Int → Prop} (hq : post' (goT (gGo g) p t).2) : v_X2_spotAt J e h (p : Int) (t : Int) post' := by
  refine ⟨⟨by omega, by omega⟩, ⟨by omega, by omega⟩, p_X11_pick (by decide) ?_⟩
  rw [if_pos ⟨by omega, by omega, by omega⟩, show ((p : Int) * 100 + (t : Int)).toNat = p * 100 + t by omega, hO.2.2.1 p t hp ht]
  exact hq
theorem x_hasP {J : mJ} {h : Nat} {g : Nat → Int} (hv : HV g) (hr : HR J h g) {a : Int} {post' : Bool → Prop} (h0 : ¬ (0 ≤ a ∧ a < g 3) → post' false) (h1 : ∀ p : Nat, a = (p : Int) → (p : Int) < g 3 → p < 6 → post' true) : v_X3_hasPerson J h a post' := by
  have h6 := hv.2.2.2.1
  refine p_X3_hasPerson ?_
  rw [hr.1.2.2.2.1]
  by_cases c : 0 ≤ a ∧ a < g 3
  · rw [decide_eq_true c]; exact h1 a.toNat (by omega) (by omega) (by omega)
  · rw [decide_eq_false c]; exact h0 c
theorem x_hasF {J : mJ} {h : Nat} {g : Nat → Int} (hv : HV g) (hr : HR J h g) {a : Int} {post' : Bool → Prop} (h0 : ¬ (0 ≤ a ∧ a < g 2) → post' false) (h1 : ∀ p : Nat, a = (p : Int) → (p : Int) < g 2 → p < 6 → post' true) : v_X3_hasFlat J h a post' := by
  have h6 := hv.2.2.1
  refine p_X3_hasFlat ?_
  rw [hr.1.2.2.1]
  by_cases c : 0 ≤ a ∧ a < g 2
  · rw [decide_eq_true c]; exact h1 a.toNat (by omega) (by omega) (by omega)
  · rw [decide_eq_false c]; exact h0 c
theorem x_hasS {J : mJ} {h : Nat} {g : Nat → Int} (hv : HV g) (hr : HR J h g) {a : Int} {post' : Bool → Prop} (h0 : ¬ (0 ≤ a ∧ a < g 0) → post' false) (h1 : ∀ p : Nat, a = (p : Int) → (p : Int) < g 0 → p < 24 → post' true) : v_X3_hasStep J h a post' := by
  have h6 := hv.1
  refine p_X3_hasStep ?_
  rw [hr.1.1]
  by_cases c : 0 ≤ a ∧ a < g 0
  · rw [decide_eq_true c]; exact h1 a.toNat (by omega) (by omega) (by omega)
  · rw [decide_eq_false c]; exact h0 c
theorem n_isIn {a l m : Int} {post' : Bool → Prop} (h0 : ¬ (l ≤ a ∧ a ≤ m) → post' false) (h1 : l ≤ a ∧ a ≤ m → post' true) : v_X12_isIn a l m post' := by
  refine p_X12_isIn ?_
  by_cases c : l ≤ a ∧ a ≤ m
  · rw [decide_eq_true c]; exact h1 c
  · rw [decide_eq_false c]; exact h0 c
theorem n_isPerson {J : mJ} {b : Nat} {g u : Nat → Int} (h : MH J b g u) {a : Int} {post' : Bool → Prop} (h0 : ¬ (0 ≤ a ∧ a < g 3) → post' false) (h1 : ∀ p : Nat, a = (p : Int) → (p : Int) < g 3 → p < 6 → post' true) : v_X12_isPerson J 128 a post' := by
  have h6 := h.2.2.2.1.2.2.2.1
  refine p_X12_isPerson h.1 h.2.1 (by rw [h.2.2.1]; exact h6) ?_
  rw [h.2.2.1]
  by_cases c : 0 ≤ a ∧ a < g 3
  · rw [decide_eq_true c]; exact h1 a.toNat (by omega) (by omega) (by omega)
  · rw [decide_eq_false c]; exact h0 c
theorem n_isFlat {J : mJ} {b : Nat} {g u : Nat → Int} (h : MH J b g u) {a : Int} {post' : Bool → Prop} (h0 : ¬ (0 ≤ a ∧ a < g 2) → post' false) (h1 : ∀ p : Nat, a = (p : Int) → (p : Int) < g 2 → p < 6 → post' true) : v_X12_isFlat J 128 a post' := by
  have h6 := h.2.2.2.1.2.2.1
  refine p_X12_isFlat h.1 h.2.1 (by rw [h.2.2.1]; exact h6) ?_
  rw [h.2.2.1]
  by_cases c : 0 ≤ a ∧ a < g 2
  · rw [decide_eq_true c]; exact h1 a.toNat (by omega) (by omega) (by omega)
  · rw [decide_eq_false c]; exact h0 c
theorem n_isStep {J : mJ} {b : Nat} {g u : Nat → Int} (h : MH J b g u) {a : Int} {post' : Bool → Prop} (h0 : ¬ (0 ≤ a ∧ a < g 0) → post' false) (h1 : ∀ p : Nat, a = (p : Int) → (p : Int) < g 0 → p < 24 → post' true) : v_X12_isStep J 128 a post' := by
  have h6 := h.2.2.2.1.1
  refine p_X12_isStep h.1 h.2.1 (by rw [h.2.2.1]; exact ⟨by omega, h6.2⟩) ?_
  rw [h.2.2.1]
  by_cases c : 0 ≤ a ∧ a < g 0
  · rw [decide_eq_true c]; exact h1 a.toNat (by omega) (by omega) (by omega)
  · rw [decide_eq_false c]; exact h0 c
theorem n_isMinute {a : Int} {post' : Bool → Prop} (h0 : ¬ (0 ≤ a ∧ a < 100) → post' false) (h1 : ∀ t : Nat, a = (t : Int) → t < 100 → post' true) : v_X12_isMinute 128 a post' :=
  n_isIn (fun c => h0 (by omega)) (fun c => h1 a.toNat (by omega) (by omega))
theorem MF_run {J J1 J2 : mJ} (f1 : ∀ c, c ≠ 128 → J1 c = J c) (f3 : ∀ c, (c < 128 ∨ 128 < c) → (c < 132 ∨ 143 < c) → J2 c = J1 c) (hU : UV (J2 128)) : MF J J2 := ⟨fun c hc => by rw [f3 c (by omega) (by omega), f1 c (by omega)], hU⟩
theorem MF_one {J J1 : mJ} (f1 : ∀ c, c ≠ 128 → J1 c = J c) (hU : UV (J1 128)) : MF J J1 := ⟨fun c hc => f1 c (by omega), hU⟩
/-- tread -/
def aTread (A : Nat → Int) (a1 a2 a3 : Int) : Int := if 0 ≤ a1 ∧ a1 < A 0 then (if a2 = -1 then (if a3 = 0 then ((gRun (gH A a1.toNat)).1 : Int) else -2) else if 0 ≤ a3 ∧ a3 ≤ 7 then pkF ((gRun (gH A a1.toNat)).2 a3.toNat) a2 ((gRun (gH A a1.toNat)).1 : Int) (-2) else -2) else -2
theorem x_tread {J : mJ} {a1 a2 a3 : Int} (hI : TI J 1 (J 129)) (hE : InvE J) {post' : Int → mJ → Prop} (hq : ∀ J1, XF J J1 → InvE J1 → post' (aTread (J 129) a1 a2 a3) J1) : v_X11_tread J a1 a2 a3 post' := by
  unfold v_X11_tread
  refine x_eveningAt hI hE (fun c => ⟨fun _ => ?_, fun q c2 => (by cases c2)⟩) (fun k J1 ek hk hk2 hv hr hO hX hE1 => ⟨fun c2 => (by cases c2), fun q eq => ?_⟩)
  · have h := hq J XF_refl hE
    unfold aTread at h; rw [if_neg c] at h; exact h
  · cases eq
    have h := hq J1 (XE_XF hX) hE1
    subst ek
    unfold aTread at h
    rw [if_pos ⟨by omega, hk⟩, Int.toNat_natCast] at h
    refine ⟨fun c => ?_, fun c => ?_⟩
    · rw [if_neg c] at h
      refine ⟨fun e => by subst e; rw [if_pos (by omega)] at h; exact x_pickT hv hO 0 _ (by decide) rfl h, fun e => by subst e; rw [if_pos (by omega)] at h; exact x_pickT hv hO 1 _ (by decide) rfl h, fun e => by subst e; rw [if_pos (by omega)] at h; exact x_pickT hv hO 2 _ (by decide) rfl h, fun e => by subst e; rw [if_pos (by omega)] at h; exact x_pickT hv hO 3 _ (by decide) rfl h, fun e => by subst e; rw [if_pos (by omega)] at h; exact x_pickT hv hO 4 _ (by decide) rfl h, fun e => by subst e; rw [if_pos (by omega)] at h; exact x_pickT hv hO 5 _ (by decide) rfl h, fun e => by subst e; rw [if_pos (by omega)] at h; exact x_pickT hv hO 6 _ (by decide) rfl h, fun e => by subst e; rw [if_pos (by omega)] at h; exact x_pickT hv hO 7 _ (by decide) rfl h, fun e0 e1 e2 e3 e4 e5 e6 e7 => ?_⟩
      rw [if_neg (by omega)] at h; exact h
    · rw [if_pos c] at h
      refine ⟨fun e => ?_, fun e => ?_⟩
      · rw [if_neg e] at h; exact h
      · rw [if_pos e] at h; exact lf h hO.1.1
theorem m_tread {J : mJ} {a1 a2 a3 : Int} {t : Nat} (hI : TI J t (J 129)) (hU : UV (J 128)) {post' : Int → mJ → Prop} (hq : ∀ J1, MF J J1 → post' (aTread (J 129) a1 a2 a3) J1) : v_X12_tread J 128 a1 a2 a3 post' := by
  unfold v_X12_tread
  refine n_isHouse hI hU (fun c => ⟨fun c2 => Bool.noConfusion c2, fun _ => ?_⟩) (fun k J1 ek hk hk2 hM hp f1 f2 => ⟨fun _ => n_runs hM hp (fun J2 hR hM2 hp2 f3 f4 => ?_), fun c2 => Bool.noConfusion c2⟩)
  · have h := hq J (MF_refl hU)
    unfold aTread at h; rw [if_neg c] at h; exact h
  · have h := hq J2 (MF_run f1 f3 (UV_of hM2))
    subst ek
    unfold aTread at h
    rw [if_pos ⟨by omega, hk⟩, Int.toNat_natCast] at h
    have hn := gRun_le hM.2.2.2.1
    rw [hR.1.1]
    refine ⟨fun c => ⟨⟨by omega, by omega⟩, ?_⟩, fun c => ?_⟩
    · rw [if_neg c] at h
      unfold pkF at h
      refine n_isIn (fun cb => ⟨fun c2 => Bool.noConfusion c2, fun _ => ?_⟩) (fun cb => ⟨fun _ => ?_, fun c2 => Bool.noConfusion c2⟩)
      · split at h
        · rw [if_neg (by omega)] at h; exact h
        · exact h
      · refine ⟨fun e => by subst e; rw [if_pos (by omega), if_pos (by omega)] at h; exact ⟨⟨by omega, by omega⟩, lf h (hR.1.2 0 _ (by decide) (by omega))⟩, fun e => by subst e; rw [if_pos (by omega), if_pos (by omega)] at h; exact ⟨⟨by omega, by omega⟩, lf h (hR.1.2 1 _ (by decide) (by omega))⟩, fun e => by subst e; rw [if_pos (by omega), if_pos (by omega)] at h; exact ⟨⟨by omega, by omega⟩, lf h (hR.1.2 2 _ (by decide) (by omega))⟩, fun e => by subst e; rw [if_pos (by omega), if_pos (by omega)] at h; exact ⟨⟨by omega, by omega⟩, lf h (hR.1.2 3 _ (by decide) (by omega))⟩, fun e => by subst e; rw [if_pos (by omega), if_pos (by omega)] at h; exact ⟨⟨by omega, by omega⟩, lf h (hR.1.2 4 _ (by decide) (by omega))⟩, fun e => by subst e; rw [if_pos (by omega), if_pos (by omega)] at h; exact ⟨⟨by omega, by omega⟩, lf h (hR.1.2 5 _ (by decide) (by omega))⟩, fun e => by subst e; rw [if_pos (by omega), if_pos (by omega)] at h; exact ⟨⟨by omega, by omega⟩, lf h (hR.1.2 6 _ (by decide) (by omega))⟩, fun e => by subst e; rw [if_pos (by omega), if_pos (by omega)] at h; exact ⟨⟨by omega, by omega⟩, lf h (hR.1.2 7 _ (by decide) (by omega))⟩, fun e0 e1 e2 e3 e4 e5 e6 e7 => ?_⟩
        rw [if_neg (by omega)] at h; exact h
    · rw [if_pos c] at h
      refine ⟨fun e => ?_, fun e => ?_⟩
      · rw [if_neg e] at h; exact h
      · rw [if_pos e] at h; exact h
/-- where -/
def aWhere (A : Nat → Int) (a1 a2 a3 : Int) : Int := if (0 ≤ a1 ∧ a1 < A 0) ∧ (0 ≤ a2 ∧ a2 < gH A a1.toNat 3) ∧ 0 ≤ a3 ∧ a3 < 100 then (goT (gGo (gH A a1.toNat)) a2.toNat a3.toNat).2 else -2
theorem x_where {J : mJ} {a1 a2 a3 : Int} (hI : TI J 1 (J 129)) (hE : InvE J) {post' : Int → mJ → Prop} (hq : ∀ J1, XF J J1 → InvE J1 → post' (aWhere (J 129) a1 a2 a3) J1) : v_X11_where J a1 a2 a3 post' := by
  unfold v_X11_where
  refine x_eveningAt hI hE (fun c => ⟨fun _ => lf (hq J XF_refl hE) ?_, fun q c2 => (by cases c2)⟩) (fun k J1 ek hk hk2 hv hr hO hX hE1 => ⟨fun c2 => (by cases c2), fun q eq => ?_⟩)
  · unfold aWhere; rw [if_neg (fun c2 => c c2.1)]
  · cases eq
    have h := hq J1 (XE_XF hX) hE1
    subst ek
    unfold aWhere at h
    rw [Int.toNat_natCast] at h
    rw [hE_k]
    refine x_hasP hv hr (fun c => ⟨fun _ => ?_, fun c2 => Bool.noConfusion c2⟩) (fun p ep hp hp6 => ⟨fun c2 => Bool.noConfusion c2, fun _ => ⟨fun c => ?_, fun c => ⟨fun c2 => ?_, fun c2 => ?_⟩⟩⟩)
    · rw [if_neg (fun c2 => c c2.2.1)] at h; exact h
    · rw [if_neg (by omega)] at h; exact h
    · obtain ⟨t, rfl⟩ : ∃ t : Nat, a3 = (t : Int) := ⟨a3.toNat, by omega⟩
      subst ep
      rw [if_pos ⟨⟨by omega, by omega⟩, ⟨by omega, hp⟩, ⟨by omega, by omega⟩⟩, Int.toNat_natCast, Int.toNat_natCast] at h
      exact x_spotAt hO hp hp6 (by omega) h
    · rw [if_neg (by omega)] at h; exact h
theorem m_where {J : mJ} {a1 a2 a3 : Int} {t : Nat} (hI : TI J t (J 129)) (hU : UV (J 128)) {post' : Int → mJ → Prop} (hq : ∀ J1, MF J J1 → post' (aWhere (J 129) a1 a2 a3) J1) : v_X12_where J 128 a1 a2 a3 post' := by
  unfold v_X12_where
  refine n_isHouse hI hU (fun c => ⟨fun _ => lf (hq J (MF_refl hU)) ?_, fun c2 => Bool.noConfusion c2⟩) (fun k J1 ek hk hk2 hM hp f1 f2 => ⟨fun c2 => Bool.noConfusion c2, fun _ => ?_⟩)
  · unfold aWhere; rw [if_neg (fun c2 => c c2.1)]
  · have h1 := hq J1 (MF_one f1 (UV_of hM))
    subst ek
    unfold aWhere at h1
    rw [Int.toNat_natCast] at h1
    refine n_isPerson hM (fun c => ⟨fun _ => ?_, fun c2 => Bool.noConfusion c2⟩) (fun p ep hp3 hp6 => ⟨fun c2 => Bool.noConfusion c2, fun _ => n_isMinute (fun c => ⟨fun c2 => Bool.noConfusion c2, fun _ => ?_⟩) (fun m em hm => ⟨fun _ => n_runs hM hp (fun J2 hR hM2 hp2 f3 f4 => ?_), fun c2 => Bool.noConfusion c2⟩)⟩)
    · rw [if_neg (fun c2 => c c2.2.1)] at h1; exact h1
    · rw [if_neg (fun c2 => c c2.2.2)] at h1; exact h1
    · have h := hq J2 (MF_run f1 f3 (UV_of hM2))
      subst ep; subst em
      unfold aWhere at h
      rw [Int.toNat_natCast, if_pos ⟨⟨by omega, hk⟩, ⟨by omega, hp3⟩, ⟨by omega, by omega⟩⟩, Int.toNat_natCast, Int.toNat_natCast] at h
      refine ⟨⟨by omega, by omega⟩, ⟨by omega, by omega⟩, ⟨by omega, by omega⟩, lf h ?_⟩
      rw [show (100 * (p : Int) + (m : Int)).toNat = p * 100 + m by omega]
      exact hR.2.1 p m hp3 hm
/-- person -/
def bPerson (g : Nat → Int) (p : Nat) (w : Int) : Int := if 0 ≤ w ∧ w ≤ 5 then g (41 + 14 * p + w.toNat) else if 10 ≤ w ∧ w < 10 + g (46 + 14 * p) then g (47 + 14 * p + (w - 10).toNat) else if 100 ≤ w ∧ w < 200 then gShoe g p (w - 100) else if w = 6 then lasF (gRun g).2 (gRun g).1 (p : Int) else if w = 7 then (goT (gGo g) p 99).2 else -2
def aPerson (A : Nat → Int) (a1 a2 a3 : Int) : Int := if (0 ≤ a1 ∧ a1 < A 0) ∧ 0 ≤ a2 ∧ a2 < gH A a1.toNat 3 then bPerson (gH A a1.toNat) a2.toNat a3 else -2
theorem x_person {J : mJ} {a1 a2 a3 : Int} (hI : TI J 1 (J 129)) (hE : InvE J) {post' : Int → mJ → Prop} (hq : ∀ J1, XF J J1 → InvE J1 → post' (aPerson (J 129) a1 a2 a3) J1) : v_X11_person J a1 a2 a3 post' := by
  unfold v_X11_person
  refine x_eveningAt hI hE (fun c => ⟨fun _ => lf (hq J XF_refl hE) ?_, fun q c2 => (by cases c2)⟩) (fun k J1 ek hk hk2 hv hr hO hX hE1 => ⟨fun c2 => (by cases c2), fun q eq => ?_⟩)
  · unfold aPerson; rw [if_neg (fun c2 => c c2.1)]
  · cases eq
    have h := hq J1 (XE_XF hX) hE1
    subst ek
    unfold aPerson at h
    rw [Int.toNat_natCast] at h
    rw [hE_k]
    generalize gH (J 129) k = g at hv hr hO h
    refine x_hasP hv hr (fun c => ⟨fun c2 => Bool.noConfusion c2, fun _ => ?_⟩) (fun p ep hp hp6 => ⟨fun _ => ?_, fun c2 => Bool.noConfusion c2⟩)
    · rw [if_neg (fun c2 => c c2.2)] at h; exact h
    · subst ep
      rw [if_pos ⟨⟨by omega, hk⟩, by omega, hp⟩, Int.toNat_natCast] at h
      simp only [Int.toNat_natCast]
      have hr2 := hr
      obtain ⟨r4, r5, r6, r7, r8, r9, _⟩ := hr.2.2.2.1 p hp
      obtain ⟨_, _, _, _, h46, _⟩ := hv.2.2.2.2.2.2.2.1 p hp
      refine ⟨fun c1 => ⟨fun c2 => ⟨fun e => ⟨⟨by omega, by omega⟩, lf h (by subst e; unfold bPerson; rw [if_pos (by omega)]; exact r4.trans (congrArg g (by omega)))⟩, fun e => ⟨⟨by omega, by omega⟩, lf h (by subst e; unfold bPerson; rw [if_pos (by omega)]; exact r5.trans (congrArg g (by omega)))⟩, fun e => ⟨⟨by omega, by omega⟩, lf h (by subst e; unfold bPerson; rw [if_pos (by omega)]; exact r6.trans (congrArg g (by omega)))⟩, fun e => ⟨⟨by omega, by omega⟩, lf h (by subst e; unfold bPerson; rw [if_pos (by omega)]; exact r7.trans (congrArg g (by omega)))⟩, fun e => ⟨⟨by omega, by omega⟩, lf h (by subst e; unfold bPerson; rw [if_pos (by omega)]; exact r8.trans (congrArg g (by omega)))⟩, fun e => ⟨⟨by omega, by omega⟩, lf h (by subst e; unfold bPerson; rw [if_pos (by omega)]; exact r9.trans (congrArg g (by omega)))⟩, fun e => ⟨⟨by omega, by omega⟩, lf h (by subst e; unfold bPerson; rw [if_neg (by omega), if_neg (by omega), if_neg (by omega), if_pos rfl]; exact hO.2.2.2 p hp)⟩, fun e => x_spotAt (t := 99) hO hp hp6 (by decide) (lf h (by subst e; unfold bPerson; rw [if_neg (by omega), if_neg (by omega), if_neg (by omega), if_neg (by omega), if_pos rfl])), fun e0 e1 e2 e3 e4 e5 e6 e7 => lf h (by unfold bPerson; rw [if_neg (by omega), if_neg (by omega), if_neg (by omega), if_neg (by omega), if_neg (by omega)])⟩, fun c2 => ⟨⟨by omega, by omega⟩, ⟨by omega, by omega⟩, ?_⟩⟩, fun c1 => ⟨fun c2 => lf h (by unfold bPerson; rw [if_neg (by omega), if_neg (by omega), if_neg (by omega), if_neg (by omega), if_neg (by omega)]), fun c2 => ⟨⟨by omega, by omega⟩, x_shoeAt hv hr hp (lf h (by unfold bPerson; rw [if_neg (by omega), if_neg (by omega), if_pos (by omega)]))⟩⟩⟩
      obtain ⟨w, rfl⟩ : ∃ w : Nat, a3 = (w : Int) + 10 := ⟨(a3 - 10).toNat, by omega⟩
      rw [r9, show (w : Int) + 10 - 10 = (w : Int) by omega]
      refine ⟨fun c3 => lf h (by unfold bPerson; rw [if_neg (by omega), if_neg (by omega), if_neg (by omega), if_neg (by omega), if_neg (by omega)]), fun c3 => ⟨⟨by omega, by omega⟩, x_goalOf hv hr hp (by omega) (lf h ?_)⟩⟩
      unfold bPerson; rw [if_neg (by omega), if_pos (by omega)]; exact congrArg g (by omega)
theorem m_person {J : mJ} {a1 a2 a3 : Int} {t : Nat} (hI : TI J t (J 129)) (hU : UV (J 128)) {post' : Int → mJ → Prop} (hq : ∀ J1, MF J J1 → post' (aPerson (J 129) a1 a2 a3) J1) : v_X12_person J 128 a1 a2 a3 post' := by
  unfold v_X12_person
  refine n_isHouse hI hU (fun c => ⟨fun _ => lf (hq J (MF_refl hU)) ?_, fun c2 => Bool.noConfusion c2⟩) (fun k J1 ek hk hk2 hM hp f1 f2 => ⟨fun c2 => Bool.noConfusion c2, fun _ => ?_⟩)
  · unfold aPerson; rw [if_neg (fun c2 => c c2.1)]
  · have h1 := hq J1 (MF_one f1 (UV_of hM))
    subst ek
    unfold aPerson at h1
    rw [Int.toNat_natCast] at h1
    refine n_isPerson hM (fun c => ⟨fun c2 => Bool.noConfusion c2, fun _ => ?_⟩) (fun p ep hp3 hp6 => ⟨fun _ => ?_, fun c2 => Bool.noConfusion c2⟩)
    · rw [if_neg (fun c2 => c c2.2)] at h1; exact h1
    · subst ep
      rw [if_pos ⟨⟨by omega, hk⟩, by omega, hp3⟩, Int.toNat_natCast] at h1
      obtain ⟨_, _, _, _, h46, _⟩ := hM.2.2.2.1.2.2.2.2.2.2.2.1 p hp3
      have hR : ∀ w : Int, (w = 6 ∨ w = 7) → a3 = w → v_X12_person_103 128 (k : Int) (p : Int) a3 post' J1 := by
        intro w hw e
        unfold v_X12_person_103
        refine n_runs hM hp (fun J2 hR hM2 hp2 f3 f4 => ?_)
        have h := hq J2 (MF_run f1 f3 (UV_of hM2))
        unfold aPerson at h
        rw [Int.toNat_natCast, if_pos ⟨⟨by omega, hk⟩, by omega, hp3⟩, Int.toNat_natCast] at h
        simp only [Int.toNat_natCast]
        refine ⟨fun c => ⟨⟨by omega, by omega⟩, ⟨by omega, by omega⟩, ⟨by omega, by omega⟩, lf h ?_⟩, fun c => ⟨⟨by omega, by omega⟩, lf h ?_⟩⟩
        · rw [show (100 * (p : Int) + 99).toNat = p * 100 + 99 by omega]
          unfold bPerson; rw [if_neg (by omega), if_neg (by omega), if_neg (by omega), if_neg (by omega), if_pos (by omega)]
          exact hR.2.1 p 99 hp3 (by decide)
        · unfold bPerson; rw [if_neg (by omega), if_neg (by omega), if_neg (by omega), if_pos (by omega)]
          exact hR.2.2 p hp3
      refine n_isIn (fun c => ⟨fun _ => n_told hM p 5 (46 + 14 * p) rfl rfl ⟨by omega, by omega⟩ (by omega) ⟨⟨by omega, by omega⟩, n_isIn (fun c2 => ⟨fun _ => n_isIn (fun c3 => ⟨fun _ => ⟨fun e => hR 6 (Or.inl rfl) e, fun e => ⟨fun e7 => hR 7 (Or.inr rfl) e7, fun e7 => lf h1 ?_⟩⟩, fun c2 => Bool.noConfusion c2⟩) (fun c3 => ⟨fun c2 => Bool.noConfusion c2, fun _ => ⟨⟨by omega, by omega⟩, n_shoeOf hM hp3 (lf h1 ?_)⟩⟩), fun c2 => Bool.noConfusion c2⟩) (fun c2 => ⟨fun c2 => Bool.noConfusion c2, fun _ => ⟨⟨by omega, by omega⟩, ⟨by omega, by omega⟩, n_told hM p (a3 - 4).toNat (47 + 14 * p + (a3 - 10).toNat) rfl (by omega) ⟨by omega, by omega⟩ (by omega) (lf h1 ?_)⟩⟩)⟩, fun c2 => Bool.noConfusion c2⟩) (fun c => ⟨fun c2 => Bool.noConfusion c2, fun _ => n_told hM p a3.toNat (41 + 14 * p + a3.toNat) rfl (by omega) ⟨by omega, by omega⟩ (by omega) (lf h1 ?_)⟩)
      · unfold bPerson; rw [if_neg (by omega), if_neg (by omega), if_neg (by omega), if_neg (by omega), if_neg (by omega)]
      · unfold bPerson; rw [if_neg (by omega), if_neg (by omega), if_pos (by omega), mQ_plain hp.1 hp.2.2.2.1 hp.2.2.2.2.1]; rfl
      · unfold bPerson; rw [if_neg (by omega), if_pos (by omega)]
      · unfold bPerson; rw [if_pos (by omega)]
