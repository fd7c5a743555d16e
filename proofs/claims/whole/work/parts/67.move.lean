/-! how one goes on: the goal that is open, the step that is next -/
def opF (gl : Nat → Int) (on : Int) : Nat → Nat → Nat
  | 0, k => k
  | d + 1, k => if gl k = on then opF gl on d (k + 1) else k
theorem opF_rng (gl : Nat → Int) (on : Int) : ∀ d k, k ≤ opF gl on d k ∧ opF gl on d k ≤ k + d
  | 0, k => by simp [opF]
  | d + 1, k => by
    have ih := opF_rng gl on d (k + 1)
    rw [opF]; split <;> omega
/-- the number of the goal, from k on, that one on that step has still to go to; N goals in all -/
def opG (gl : Nat → Int) (on : Int) (N k : Nat) : Nat := opF gl on (N - k) k
def nxF (on to rise : Int) : Int := if to ≤ on then maxZ to (on - rise) else minZ to (on + rise)
theorem nxF_rng {on to rise m : Int} (h1 : 0 ≤ on ∧ on < m) (h2 : 0 ≤ to ∧ to < m) (h3 : 0 ≤ rise) : 0 ≤ nxF on to rise ∧ nxF on to rise < m := by
  unfold nxF maxZ minZ; split <;> split <;> omega
theorem x_goalOf {J : mJ} {h : Nat} {g : Nat → Int} (hv : HV g) (hr : HR J h g) {p k : Nat} (hp : (p : Int) < g 3) (hk : (k : Int) < g (46 + 14 * p)) {post' : Int → Prop} (hq : post' (g (47 + 14 * p + k))) : v_X3_goalOf J h (p : Int) (k : Int) post' := by
  have h3 := hv.2.2.2.1
  have hP := (hv.2.2.2.2.2.2.2.1 p hp).2.2.2.2.1
  have ei : ((p : Int) * 8 + (k : Int)).toNat = 8 * p + k := by omega
  unfold v_X3_goalOf
  rw [ei, (hr.2.2.2.1 p hp).2.2.2.2.2.2 k hk]
  exact ⟨⟨by omega, by omega⟩, ⟨by omega, by omega⟩, ⟨by omega, by omega⟩, hq⟩
theorem x_openGoal {J : mJ} {h : Nat} {g : Nat → Int} (hv : HV g) (hr : HR J h g) {p k : Nat} (hp : (p : Int) < g 3) (hk : (k : Int) ≤ g (46 + 14 * p)) {on : Int} {post' : Int → Prop} (hq : post' ((opG (fun q => g (47 + 14 * p + q)) on (g (46 + 14 * p)).toNat k : Nat) : Int)) : v_X3_openGoal J h (p : Int) (k : Int) on post' := by
  have h3 := hv.2.2.2.1
  have hP := (hv.2.2.2.2.2.2.2.1 p hp).2.2.2.2.1
  have hg := (hr.2.2.2.1 p hp).2.2.2.2.2.1
  unfold opG at hq
  intro ZZ hZ
  have key : ∀ d i : Nat, i + d = (g (46 + 14 * p)).toNat → post' ((opF (fun q => g (47 + 14 * p + q)) on d i : Nat) : Int) → ZZ (i : Int) := by
    intro d
    induction d with
    | zero =>
      intro i hi hpost
      apply hZ
      simp only [Int.toNat_natCast]
      rw [hg]
      exact ⟨⟨by omega, by omega⟩, fun _ => hpost, fun c => absurd (by omega) c⟩
    | succ d ih =>
      intro i hi hpost
      apply hZ
      simp only [Int.toNat_natCast]
      rw [hg]
      refine ⟨⟨by omega, by omega⟩, fun c => by omega, fun _ => x_goalOf hv hr hp (by omega) ⟨fun c => ?_, fun c => ⟨⟨by omega, by omega⟩, ?_⟩⟩⟩
      · rw [opF, if_neg c] at hpost; exact hpost
      · rintro _ rfl
        rw [opF, if_pos c] at hpost
        exact ih (i + 1) (by omega) hpost
  exact key _ k (by omega) hq
theorem x_nextStep {J : mJ} {h : Nat} {g : Nat → Int} (hv : HV g) (hr : HR J h g) {p k : Nat} (hp : (p : Int) < g 3) (hk : (k : Int) < g (46 + 14 * p)) {on : Int} (ho : 0 ≤ on ∧ on < 24) {post' : Int → Prop} (hq : post' (nxF on (g (47 + 14 * p + k)) (g (43 + 14 * p)))) : v_X3_nextStep J h (p : Int) on (k : Int) post' := by
  have h3 := hv.2.2.2.1
  have hR := (hv.2.2.2.2.2.2.2.1 p hp).2.2.1
  unfold nxF at hq
  refine x_goalOf hv hr hp hk ?_
  simp only [Int.toNat_natCast]
  rw [(hr.2.2.2.1 p hp).2.2.1]
  exact ⟨fun c => ⟨⟨by omega, by omega⟩, ⟨by omega, by omega⟩, (pif hq).1 c⟩, fun c => ⟨⟨by omega, by omega⟩, ⟨by omega, by omega⟩, (pif hq).2 c⟩⟩
theorem m_towards {on to rise : Int} (h1 : 0 ≤ on ∧ on < 24) (h2 : 0 ≤ to ∧ to < 24) (h3 : 1 ≤ rise ∧ rise ≤ 4) {post' : Int → Prop} (hq : post' (nxF on to rise)) : v_X12_towards on to rise post' := by
  unfold nxF maxZ minZ at hq
  refine ⟨fun c => ⟨⟨by omega, by omega⟩, fun c2 => ⟨⟨by omega, by omega⟩, ?_⟩, fun c2 => ?_⟩, fun c => ⟨⟨by omega, by omega⟩, fun c2 => ⟨⟨by omega, by omega⟩, ?_⟩, fun c2 => ?_⟩⟩
  · rw [if_pos c] at hq
    by_cases he : to < on - rise
    · rw [if_pos he] at hq; exact hq
    · rw [if_neg he] at hq; rw [show on - rise = to by omega]; exact hq
  · rw [if_pos c, if_neg (by omega)] at hq; exact hq
  · rw [if_neg c] at hq
    by_cases he : on + rise < to
    · rw [if_pos he] at hq; exact hq
    · rw [if_neg he] at hq; rw [show on + rise = to by omega]; exact hq
  · rw [if_neg c, if_neg (by omega)] at hq; exact hq
/-- one's walk: has one begun, where is one, at which goal; in minute t -/
def goF (gl : Nat → Int) (N : Nat) (begin start rise t on : Int) (k : Nat) : Bool × Int × Nat :=
  if N = 0 ∨ t < begin then (false, on, k)
  else if t = begin then (true, start, k)
  else if opG gl on N k < N then (true, nxF on (gl (opG gl on N k)) rise, opG gl on N k) else (false, on, opG gl on N k)
