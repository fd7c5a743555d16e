/-! the class: does one go in this minute -/
theorem up1_self {α : Type} {f : Nat → α} {k : Nat} {v : α} (h : f k = v) : up1 f k v = f := by
  funext j
  by_cases hj : j = k
  · subst hj; rw [up1_s, h]
  · rw [up1_n _ _ hj]
/-- goF of a person of the house g -/
def gGo (g : Nat → Int) (p : Nat) (t on : Int) (k : Nat) : Bool × Int × Nat := goF (fun q => g (47 + 14 * p + q)) (g (46 + 14 * p)).toNat (g (44 + 14 * p)) (g (45 + 14 * p)) (g (43 + 14 * p)) t on k
theorem x_goes {J : mJ} {e h p k : Nat} {g : Nat → Int} {t on : Int} (hv : HV g) (hr : HR J h g) (hne : ∀ k, k < 14 → ∀ j, j < 17 → h + k ≠ e + j) (hp : (p : Int) < g 3) (hon : J (e + 15) p = on) (hk : J (e + 16) p = (k : Int)) (hkN : (k : Int) ≤ g (46 + 14 * p)) (ho : 0 < g (46 + 14 * p) → g (44 + 14 * p) < t → 0 ≤ on ∧ on < 24) {post' : Bool → mJ → Prop}
    (hq : ∀ J1 : mJ, (∀ c, c ≠ e + 15 → c ≠ e + 16 → J1 c = J c) → J1 (e + 15) = up1 (J (e + 15)) p (gGo g p t on k).2.1 → J1 (e + 16) = up1 (J (e + 16)) p (((gGo g p t on k).2.2 : Nat) : Int) → post' (gGo g p t on k).1 J1) : v_X2_goes J e h (p : Int) t post' := by
  have h3 := hv.2.2.2.1
  obtain ⟨-, -, hrise, hbeg, hgoals, hiff, hst, -, hgl⟩ := hv.2.2.2.2.2.2.2.1 p hp
  obtain ⟨-, -, rR, rB, rS, rG, -⟩ := hr.2.2.2.1 p hp
  have hb : (0 : Int) ≤ (p : Int) ∧ (p : Int) < 6 := ⟨by omega, by omega⟩
  have same : ∀ b : Bool, gGo g p t on k = (b, on, k) → post' b J := by
    intro b hb'
    have := hq J (fun _ _ _ => rfl) (by rw [hb']; exact (up1_self hon).symm) (by rw [hb']; exact (up1_self hk).symm)
    rw [hb'] at this
    exact this
  unfold v_X2_goes v_X3_walks
  simp only [Int.toNat_natCast]
  rw [rG, rB, rS, hon, hk]
  refine ⟨hb, fun c => ⟨fun _ => same _ ?_, fun c2 => absurd c2 (by decide)⟩, fun c => ⟨fun c2 => absurd c2 (by decide), fun _ => ⟨hb, fun c2 => ⟨hb, fun c3 => ⟨hb, hb, ?_⟩, fun c3 => ⟨hb, hb, ?_⟩⟩, fun c2 => same _ ?_⟩⟩⟩
  · unfold gGo goF; rw [if_pos (Or.inl (by omega))]
  · have eg : gGo g p t on k = if opG (fun q => g (47 + 14 * p + q)) on (g (46 + 14 * p)).toNat k < (g (46 + 14 * p)).toNat then (true, nxF on (g (47 + 14 * p + opG (fun q => g (47 + 14 * p + q)) on (g (46 + 14 * p)).toNat k)) (g (43 + 14 * p)), opG (fun q => g (47 + 14 * p + q)) on (g (46 + 14 * p)).toNat k) else (false, on, opG (fun q => g (47 + 14 * p + q)) on (g (46 + 14 * p)).toNat k) := by
      unfold gGo goF
      rw [if_neg (by omega), if_neg c3]
    have hor := opF_rng (fun q => g (47 + 14 * p + q)) on ((g (46 + 14 * p)).toNat - k) k
    refine x_openGoal hv hr hp hkN ⟨hb, ?_⟩
    unfold opG at eg ⊢
    generalize opF (fun q => g (47 + 14 * p + q)) on ((g (46 + 14 * p)).toNat - k) k = m at eg hor ⊢
    intro J8 e8
    have hr8 : HR J8 h g := HR_frame (fun q hq' => by rw [e8]; exact up2_n _ _ _ (hne q hq' 16 (by decide))) hr
    have g8 : J8 (e + 16) p = (m : Int) := by rw [e8, up2_s, up1_s]
    have o8 : J8 (e + 15) p = on := by rw [e8, up2_n _ _ _ (by omega), hon]
    rw [g8, o8, (hr8.2.2.2.1 p hp).2.2.2.2.2.1]
    refine ⟨hb, hb, fun c4 => ⟨hb, hb, x_nextStep hv hr8 hp (by omega) (ho (by omega) (by omega)) ⟨hb, ?_⟩⟩, fun c4 => ?_⟩
    · intro J15 e15
      rw [if_pos (by omega)] at eg
      have := hq J15 (fun c a b => by rw [e15, up2_n _ _ _ a, e8, up2_n _ _ _ b]) (by rw [e15, up2_s, e8, up2_n _ _ _ (by omega), eg]) (by rw [e15, up2_n _ _ _ (by omega), e8, up2_s, eg])
      rw [eg] at this
      exact this
    · rw [if_neg (by omega)] at eg
      have := hq J8 (fun c a b => by rw [e8, up2_n _ _ _ b]) (by rw [e8, up2_n _ _ _ (by omega), eg]; exact (up1_self hon).symm) (by rw [e8, up2_s, eg])
      rw [eg] at this
      exact this
  · intro J18 e18
    have eg : gGo g p t on k = (true, g (45 + 14 * p), k) := by
      unfold gGo goF
      rw [if_neg (by omega), if_pos c3]
    have := hq J18 (fun c a b => by rw [e18, up2_n _ _ _ a]) (by rw [e18, up2_s, eg]) (by rw [e18, up2_n _ _ _ (by omega), eg]; exact (up1_self hk).symm)
    rw [eg] at this
    exact this
  · unfold gGo goF; rw [if_pos (Or.inr (by omega))]
