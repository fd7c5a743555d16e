/-! a line of a text, without the machine -/
abbrev Ft : Type := Int × Int
abbrev Dt : Type := (Nat → Int) × Int × Int
abbrev Sl : Type := Bool × Tk × Ft × (Nat → Int)
abbrev Gl : Type := Tk × Ft × (Nat → Int) × Nat
abbrev St : Type := Tk × Ft × Dt
def loT (l i : Nat) : Int := (tb_least (l * 4 + i)).toInt
def hiT (l i : Nat) : Int := (tb_most (l * 4 + i)).toInt
def slN (l : Nat) : Nat := (tb_slots l).toInt.toNat
def blm (w : Int) (p : Nat) (F : Ft) : Ft := if F.1 = 0 then (w, (p : Int)) else F
def wgF (l i : Nat) (c : Tk) (F : Ft) : Ft := if loT l i ≤ (nu c : Int) ∧ (nu c : Int) ≤ hiT l i then F else blm 2 (pl c) F
def slS (B : Nat → Nat) (N l : Nat) (s : Sl) (i : Nat) : Sl :=
  if s.1 = true then
    (if kd s.2.1 = 2 then (true, tkF B N (en s.2.1), wgF l i s.2.1 s.2.2.1, up1 s.2.2.2 i (nu s.2.1 : Int))
    else if l = 7 ∧ i = 3 ∧ kd s.2.1 = 3 then (true, tkF B N (en s.2.1), s.2.2.1, up1 s.2.2.2 i (-1))
    else (false, s.2.1, (1, (pl s.2.1 : Int)), s.2.2.2))
  else s
def slR (B : Nat → Nat) (N l : Nat) (s0 : Sl) : Nat → Sl
  | 0 => s0
  | i + 1 => slS B N l (slR B N l s0 i) i
def glS (B : Nat → Nat) (N : Nat) (s : Gl) : Gl :=
  if s.2.2.2 < 8 then (tkF B N (en s.1), wgF 5 3 s.1 s.2.1, up1 s.2.2.1 (3 + s.2.2.2) (nu s.1 : Int), s.2.2.2 + 1)
  else (tkF B N (en s.1), blm 3 (pl s.1) (wgF 5 3 s.1 s.2.1), s.2.2.1, s.2.2.2)
def glR (B : Nat → Nat) (N : Nat) : Nat → Gl → Gl
  | 0, s => s
  | d + 1, s => if kd s.1 = 2 then glR B N d (glS B N s) else s
def tlW (g : Nat → Int) (w : Nat) (v : Nat → Int) (n : Nat) : Nat → Int := fun j => if j = 44 + 14 * w then v 1 else if j = 45 + 14 * w then v 2 else if j = 46 + 14 * w then (n : Int) else if 47 + 14 * w ≤ j ∧ j < 47 + 14 * w + n then v (3 + (j - (47 + 14 * w))) else g j
def mxW (h : Int) (v : Nat → Int) : Nat → Int
  | 0 => h
  | k + 1 => maxZ (mxW h v k) (v (3 + k))
def up3 (g : Nat → Int) (j : Nat) (a b c : Int) : Nat → Int := up1 (up1 (up1 g j a) (j + 1) b) (j + 2) c
def tlF (l : Nat) (D : Dt) (v : Nat → Int) (n : Nat) : Dt :=
  if l = 0 then (up1 D.1 0 (v 0), D.2.1, D.2.2)
  else if l = 1 then (up1 D.1 1 (v 0), D.2.1, D.2.2)
  else if l = 2 then (up1 D.1 (5 + (v 0).toNat) (v 1), maxZ D.2.1 (v 0), D.2.2)
  else if l = 3 then (up1 (up1 (up1 D.1 (29 + 2 * (D.1 2).toNat) (v 0)) (30 + 2 * (D.1 2).toNat) (v 1)) 2 (D.1 2 + 1), maxZ D.2.1 (v 0), D.2.2)
  else if l = 4 then (up1 (up3 D.1 (41 + 14 * (D.1 3).toNat) (v 0) (v 1) (v 2)) 3 (D.1 3 + 1), D.2.1, D.2.2)
  else if l = 5 then (tlW D.1 (v 0).toNat v n, mxW (maxZ D.2.1 (v 2)) v n, maxZ D.2.2 (v 0))
  else if l = 6 then (up1 (up3 D.1 (125 + 3 * (D.1 4).toNat) (v 0) (v 1) (v 2)) 4 (D.1 4 + 1), D.2.1, maxZ D.2.2 (v 0))
  else (up1 (up1 (up3 D.1 (1 + 4 * (D.1 0).toNat) (v 0) (v 1) (v 2)) (4 + 4 * (D.1 0).toNat) (v 3)) 0 (D.1 0 + 1), D.2.1, D.2.2)
def flB (l : Nat) (g : Nat → Int) : Bool := decide (l = 3 ∧ 6 ≤ g 2 ∨ l = 4 ∧ 6 ≤ g 3 ∨ l = 6 ∧ 8 ≤ g 4 ∨ l = 7 ∧ 10 ≤ g 0)
def fl1 (l : Nat) (c : Tk) (F : Ft) (D : Dt) : Ft := if flB l D.1 = true then blm 3 (pl c) F else F
/-- behind the values of a line -/
def lnE (B : Nat → Nat) (N l : Nat) (D : Dt) (w : Gl) : St := if kd w.1 = 4 then (tkF B N (en w.1), w.2.1, if w.2.1.1 = 0 then tlF l D w.2.2.1 w.2.2.2 else D) else (w.1, (1, (pl w.1 : Int)), D)
def lnG (B : Nat → Nat) (N l : Nat) (s : Sl) : Gl := if l = 5 then glR B N N (s.2.1, s.2.2.1, s.2.2.2, 1) else (s.2.1, s.2.2.1, s.2.2.2, 1)
def lnB (B : Nat → Nat) (N l : Nat) (D : Dt) (s : Sl) : St := if s.1 = true then lnE B N l D (lnG B N l s) else (s.2.1, s.2.2.1, D)
def sl0 (B : Nat → Nat) (N l : Nat) (c : Tk) (F : Ft) (D : Dt) : Sl := (true, tkF B N (en c), fl1 l c F D, fun _ => 0)
def lineF (B : Nat → Nat) (N : Nat) (sort : Int) (st : St) : St :=
  if lnF sort st.1 = 8 then (st.1, (1, (pl st.1 : Int)), st.2.2)
  else lnB B N (lnF sort st.1) st.2.2 (slR B N (lnF sort st.1) (sl0 B N (lnF sort st.1) st.1 st.2.1 st.2.2) (slN (lnF sort st.1)))
def itF (B : Nat → Nat) (N : Nat) (sort : Int) : Nat → St → St
  | 0, s => s
  | d + 1, s => if kd s.1 = 0 ∨ s.2.1.1 = 1 then s else itF B N sort d (lineF B N sort s)
/-- tokens that can be -/
def TkV (B : Nat → Nat) (N : Nat) (c : Tk) : Prop := (pl c ≤ en c ∧ en c ≤ N) ∧ kd c ≤ 5 ∧ (kd c ≠ 0 → pl c < en c) ∧ (kd c = 2 → nu c ≤ 99) ∧ (kd c = 1 → wd c = wdF B (pl c) (en c - pl c)) ∧ (kd c = 0 → pl c = N)
theorem tkV_of {B : Nat → Nat} {N k : Nat} (h : k ≤ N) : TkV B N (tkF B N k) ∧ k ≤ pl (tkF B N k) := by
  obtain ⟨h1, h2, h3, h4, h5, h6⟩ := tk_in (B := B) h
  by_cases c : kd (tkF B N k) = 0
  · have := h2 c
    exact ⟨⟨by omega, h4, fun c2 => absurd c c2, h5, h6, fun _ => this.1⟩, h1⟩
  · have := h3 c
    exact ⟨⟨by omega, h4, fun _ => this.1, h5, h6, fun c2 => absurd c2 c⟩, h1⟩
/-- faults lie ahead of the token, as long as reading goes on -/
def FtV (c : Tk) (F : Ft) : Prop := F.1 = 0 ∨ (F.1 ≠ 1 ∧ F.2 < (pl c : Int))
def inR (l i : Nat) (x : Int) : Prop := (loT l i ≤ x ∧ x ≤ hiT l i) ∨ (l = 7 ∧ i = 3 ∧ x = -1)
theorem blm_0 {w : Int} {p : Nat} {F : Ft} (hw : w ≠ 0) : (blm w p F).1 ≠ 0 := by
  unfold blm; split
  · exact hw
  · next h => exact h
theorem blm_V {w : Int} {c c' : Tk} {F : Ft} (hw : w ≠ 0 ∧ w ≠ 1) (h : FtV c F) (hc : pl c < pl c') : FtV c' (blm w (pl c) F) := by
  unfold blm; split
  · exact Or.inr ⟨hw.2, by show (pl c : Int) < _; omega⟩
  · next h2 =>
    rcases h with h | h
    · exact absurd h h2
    · exact Or.inr ⟨h.1, by omega⟩
theorem FtV_up {c c' : Tk} {F : Ft} (h : FtV c F) (hc : pl c ≤ pl c') : FtV c' F := by
  rcases h with h | h
  · exact Or.inl h
  · exact Or.inr ⟨h.1, by omega⟩
theorem wgF_V {l i : Nat} {c c' : Tk} {F : Ft} (h : FtV c F) (hc : pl c < pl c') : FtV c' (wgF l i c F) := by
  unfold wgF; split
  · exact FtV_up h (by omega)
  · exact blm_V (by decide) h hc
theorem wgF_0 {l i : Nat} {c : Tk} {F : Ft} (h : (wgF l i c F).1 = 0) : F.1 = 0 ∧ loT l i ≤ (nu c : Int) ∧ (nu c : Int) ≤ hiT l i := by
  unfold wgF at h
  split at h
  · next c1 => exact ⟨h, c1⟩
  · exact absurd h (blm_0 (by decide))
/-- what holds of the values read so far -/
def SlV (B : Nat → Nat) (N l : Nat) (k0 : Nat) (i : Nat) (s : Sl) : Prop := TkV B N s.2.1 ∧ k0 ≤ pl s.2.1 ∧ (s.1 = true → FtV s.2.1 s.2.2.1 ∧ (s.2.2.1.1 = 0 → ∀ j, j < i → inR l j (s.2.2.2 j))) ∧ (s.1 = false → s.2.2.1 = (1, (pl s.2.1 : Int)))
theorem slS_V {B : Nat → Nat} {N l k0 i : Nat} {s : Sl} (h : SlV B N l k0 i s) : SlV B N l k0 (i + 1) (slS B N l s i) := by
  obtain ⟨⟨t1, t2, t3, t4, t5, t6⟩, h2, h3, h4⟩ := h
  obtain ⟨n1, n2⟩ := tkV_of (B := B) t1.2
  unfold slS
  by_cases c : s.1 = true
  · rw [if_pos c]
    obtain ⟨h3a, h3b⟩ := h3 c
    by_cases c2 : kd s.2.1 = 2
    · rw [if_pos c2]
      have a := t3 (by omega)
      refine ⟨n1, by show k0 ≤ pl (tkF B N (en s.2.1)); omega, fun _ => ⟨wgF_V h3a (by show pl s.2.1 < pl (tkF B N (en s.2.1)); omega), fun hz j hj => ?_⟩, fun h => Bool.noConfusion h⟩
      obtain ⟨z1, z2⟩ := wgF_0 hz
      show inR l j (up1 s.2.2.2 i (nu s.2.1 : Int) j)
      by_cases e : j = i
      · subst e; rw [up1_s]; exact Or.inl z2
      · rw [up1_n _ _ e]; exact h3b z1 j (by omega)
    · rw [if_neg c2]
      by_cases c3 : l = 7 ∧ i = 3 ∧ kd s.2.1 = 3
      · rw [if_pos c3]
        have a := t3 (by omega)
        refine ⟨n1, by show k0 ≤ pl (tkF B N (en s.2.1)); omega, fun _ => ⟨FtV_up h3a (by show pl s.2.1 ≤ pl (tkF B N (en s.2.1)); omega), fun hz j hj => ?_⟩, fun h => Bool.noConfusion h⟩
        show inR l j (up1 s.2.2.2 i (-1) j)
        by_cases e : j = i
        · subst e; rw [up1_s]; exact Or.inr ⟨c3.1, c3.2.1, rfl⟩
        · rw [up1_n _ _ e]; exact h3b hz j (by omega)
      · rw [if_neg c3]
        exact ⟨⟨t1, t2, t3, t4, t5, t6⟩, h2, fun h => Bool.noConfusion h, fun _ => rfl⟩
  · rw [if_neg c]
    exact ⟨⟨t1, t2, t3, t4, t5, t6⟩, h2, fun h => absurd h c, h4⟩
theorem slR_V {B : Nat → Nat} {N l k0 : Nat} {s : Sl} (h : SlV B N l k0 0 s) : ∀ i, SlV B N l k0 i (slR B N l s i)
  | 0 => h
  | i + 1 => slS_V (slR_V h i)
def GlV (B : Nat → Nat) (N : Nat) (k0 : Nat) (v0 : Nat → Int) (w : Gl) : Prop := TkV B N w.1 ∧ k0 ≤ pl w.1 ∧ FtV w.1 w.2.1 ∧ (1 ≤ w.2.2.2 ∧ w.2.2.2 ≤ 8) ∧ (∀ j, j < 3 → w.2.2.1 j = v0 j) ∧ (w.2.1.1 = 0 → ∀ k, k < w.2.2.2 → inR 5 3 (w.2.2.1 (3 + k)))
theorem glS_V {B : Nat → Nat} {N k0 : Nat} {v0 : Nat → Int} {w : Gl} (hk : kd w.1 = 2) (h : GlV B N k0 v0 w) : GlV B N k0 v0 (glS B N w) ∧ en w.1 < en (glS B N w).1 ∨ GlV B N k0 v0 (glS B N w) ∧ kd (glS B N w).1 ≠ 2 := by
  obtain ⟨⟨t1, t2, t3, t4, t5, t6⟩, h2, h3, h4, h5, h6⟩ := h
  obtain ⟨n1, n2⟩ := tkV_of (B := B) t1.2
  have a := t3 (by omega)
  have key : GlV B N k0 v0 (glS B N w) ∧ (glS B N w).1 = tkF B N (en w.1) := by
    unfold glS
    by_cases c : w.2.2.2 < 8
    · rw [if_pos c]
      refine ⟨⟨n1, by show k0 ≤ pl (tkF B N (en w.1)); omega, wgF_V h3 (by show pl w.1 < pl (tkF B N (en w.1)); omega), by show 1 ≤ w.2.2.2 + 1 ∧ w.2.2.2 + 1 ≤ 8; omega, fun j hj => ?_, fun hz k hk => ?_⟩, rfl⟩
      · show up1 w.2.2.1 (3 + w.2.2.2) _ j = _
        rw [up1_n _ _ (by omega)]; exact h5 j hj
      · obtain ⟨z1, z2⟩ := wgF_0 hz
        show inR 5 3 (up1 w.2.2.1 (3 + w.2.2.2) _ (3 + k))
        change k < w.2.2.2 + 1 at hk
        by_cases e : k = w.2.2.2
        · subst e; rw [up1_s]; exact Or.inl z2
        · rw [up1_n _ _ (by omega)]; exact h6 z1 k (by omega)
    · rw [if_neg c]
      refine ⟨⟨n1, by show k0 ≤ pl (tkF B N (en w.1)); omega, ?_, h4, h5, fun hz => absurd hz (blm_0 (by decide))⟩, rfl⟩
      refine FtV_up (c := (0, pl w.1 + 1, 0, 0, 0)) ?_ (by show pl w.1 + 1 ≤ pl (tkF B N (en w.1)); omega)
      unfold blm
      split
      · exact Or.inr ⟨by show (3 : Int) ≠ 1; decide, by show ((pl w.1 : Nat) : Int) < ((pl w.1 + 1 : Nat) : Int); omega⟩
      · exact wgF_V h3 (by show pl w.1 < pl w.1 + 1; omega)
  by_cases c : kd (glS B N w).1 = 2
  · refine Or.inl ⟨key.1, ?_⟩
    have := key.1.1.2.2.1 (by omega)
    rw [key.2] at this ⊢
    omega
  · exact Or.inr ⟨key.1, c⟩
theorem glR_V {B : Nat → Nat} {N k0 : Nat} {v0 : Nat → Int} : ∀ d (w : Gl), GlV B N k0 v0 w → GlV B N k0 v0 (glR B N d w)
  | 0, w, h => h
  | d + 1, w, h => by
    rw [glR]; split
    · next c => exact glR_V d _ ((glS_V c h).elim (fun x => x.1) (fun x => x.1))
    · exact h
theorem glR_end {B : Nat → Nat} {N k0 : Nat} {v0 : Nat → Int} : ∀ d (w : Gl), GlV B N k0 v0 w → N + 1 - en w.1 ≤ d → kd (glR B N d w).1 ≠ 2
  | 0, w, h, hd => by have := h.1.1.2; omega
  | d + 1, w, h, hd => by
    rw [glR]; split
    · next c =>
      have e := h.1.1.2
      rcases glS_V c h with x | x
      · exact glR_end d _ x.1 (by omega)
      · by_cases c2 : N + 1 - en (glS B N w).1 ≤ d
        · exact glR_end d _ x.1 c2
        · cases d with
          | zero => rw [glR]; exact x.2
          | succ d => rw [glR, if_neg x.2]; exact x.2
    · next c => exact c
/-- houses and readings under way -/
def WkV (g : Nat → Int) (hs hp : Int) (p : Nat) : Prop := (g (44 + 14 * p) = -1 ∧ g (45 + 14 * p) = -1 ∧ g (46 + 14 * p) = 0) ∨ ((0 ≤ g (44 + 14 * p) ∧ g (44 + 14 * p) ≤ 60) ∧ (0 ≤ g (45 + 14 * p) ∧ g (45 + 14 * p) ≤ hs) ∧ (1 ≤ g (46 + 14 * p) ∧ g (46 + 14 * p) ≤ 8) ∧ (p : Int) ≤ hp ∧ ∀ k : Nat, (k : Int) < g (46 + 14 * p) → 0 ≤ g (47 + 14 * p + k) ∧ g (47 + 14 * p + k) ≤ hs)
def HVp (g : Nat → Int) (hs hp : Int) : Prop := ((2 ≤ g 0 ∧ g 0 ≤ 24) ∧ (0 ≤ g 1 ∧ g 1 ≤ 99) ∧ (0 ≤ g 2 ∧ g 2 ≤ 6) ∧ (0 ≤ g 3 ∧ g 3 ≤ 6) ∧ (0 ≤ g 4 ∧ g 4 ≤ 8)) ∧ (∀ s : Nat, s < 24 → 0 ≤ g (5 + s) ∧ g (5 + s) ≤ 9) ∧ (∀ f : Nat, (f : Int) < g 2 → (0 ≤ g (29 + 2 * f) ∧ g (29 + 2 * f) ≤ hs) ∧ (0 ≤ g (30 + 2 * f) ∧ g (30 + 2 * f) ≤ 9)) ∧ (∀ p : Nat, (p : Int) < g 3 → (0 ≤ g (41 + 14 * p) ∧ g (41 + 14 * p) ≤ 9) ∧ (1 ≤ g (42 + 14 * p) ∧ g (42 + 14 * p) ≤ 9) ∧ (1 ≤ g (43 + 14 * p) ∧ g (43 + 14 * p) ≤ 4)) ∧ (∀ p : Nat, p < 6 → WkV g hs hp p) ∧ (∀ c : Nat, (c : Int) < g 4 → (0 ≤ g (125 + 3 * c) ∧ g (125 + 3 * c) ≤ hp) ∧ (0 ≤ g (126 + 3 * c) ∧ g (126 + 3 * c) ≤ 99) ∧ (0 ≤ g (127 + 3 * c) ∧ g (127 + 3 * c) ≤ 9))
theorem HVp_HV {g : Nat → Int} {hs hp : Int} (h : HVp g hs hp) (h1 : hs < g 0) (h2 : hp < g 3) : HV g := by
  obtain ⟨⟨a0, a1, a2, a3, a4⟩, a5, a6, a7, a8, a9⟩ := h
  refine ⟨a0, a1, a2, a3, a4, a5, fun f hf => ?_, fun p hp' => ?_, fun c hc => ?_⟩
  · have := a6 f hf; omega
  · obtain ⟨b1, b2, b3⟩ := a7 p hp'
    rcases a8 p (by omega) with ⟨w1, w2, w3⟩ | ⟨w1, w2, w3, w4, w5⟩
    · exact ⟨b1, b2, b3, by omega, by omega, by omega, fun h => by omega, fun _ => w2, fun k hk => by omega⟩
    · exact ⟨b1, b2, b3, by omega, by omega, by omega, fun h => by omega, fun h => by omega, fun k hk => by have := w5 k hk; omega⟩
  · have := a9 c hc; omega
theorem WkV_mono {g g' : Nat → Int} {hs hp hs' hp' : Int} {p : Nat} (h : WkV g hs hp p) (e : ∀ j, 44 + 14 * p ≤ j → j < 55 + 14 * p → g' j = g j) (h1 : hs ≤ hs') (h2 : hp ≤ hp') : WkV g' hs' hp' p := by
  unfold WkV
  rw [e (44 + 14 * p) (by omega) (by omega), e (45 + 14 * p) (by omega) (by omega), e (46 + 14 * p) (by omega) (by omega)]
  rcases h with h | ⟨w1, w2, w3, w4, w5⟩
  · exact Or.inl h
  · refine Or.inr ⟨w1, by omega, w3, by omega, fun k hk => ?_⟩
    rw [e (47 + 14 * p + k) (by omega) (by omega)]
    have := w5 k hk; omega
theorem maxZ_ge (a b : Int) : a ≤ maxZ a b ∧ b ≤ maxZ a b := by unfold maxZ; split <;> omega
theorem mxW_ge (h : Int) (v : Nat → Int) : ∀ n, h ≤ mxW h v n ∧ ∀ k, k < n → v (3 + k) ≤ mxW h v n
  | 0 => ⟨Int.le_refl _, fun k hk => absurd hk (Nat.not_lt_zero _)⟩
  | n + 1 => by
    obtain ⟨h1, h2⟩ := mxW_ge h v n
    have := maxZ_ge (mxW h v n) (v (3 + n))
    rw [mxW]
    refine ⟨by omega, fun k hk => ?_⟩
    by_cases e : k = n
    · subst e; exact this.2
    · have := h2 k (by omega); omega
/-- what is told by a good line can be -/
def DtV (sort : Int) (D : Dt) : Prop := (sort = 0 → HVp D.1 D.2.1 D.2.2) ∧ (¬ sort = 0 → RdV D.1)
theorem up1_rd {g : Nat → Int} {i j : Nat} {v : Int} (h : j ≠ i) : up1 g i v j = g j := up1_n g v h
theorem tl_V {sort : Int} {l n : Nat} {D : Dt} {v : Nat → Int} (hl : l < 8) (hs : sort = 0 ↔ l < 7) (hD : DtV sort D) (hf : flB l D.1 = false) (hv : ∀ j, j < slN l → inR l j (v j)) (hn : 1 ≤ n ∧ n ≤ 8) (hg : ∀ k, k < n → l = 5 → inR 5 3 (v (3 + k))) : DtV sort (tlF l D v n) := by
  obtain ⟨g, hs', hp'⟩ := D
  unfold flB at hf
  rw [decide_eq_false_iff_not] at hf
  change ¬ (l = 3 ∧ 6 ≤ g 2 ∨ l = 4 ∧ 6 ≤ g 3 ∨ l = 6 ∧ 8 ≤ g 4 ∨ l = 7 ∧ 10 ≤ g 0) at hf
  have rng : ∀ j, j < slN l → ∀ a b : Int, loT l j = a → hiT l j = b → (l ≠ 7 ∨ j ≠ 3) → a ≤ v j ∧ v j ≤ b := fun j hj a b ea eb hne => by
    rcases hv j hj with h | h
    · rw [ea, eb] at h; exact h
    · omega
  unfold tlF
  by_cases l7 : l < 7
  · have s0 : sort = 0 := hs.mpr l7
    have hH : HVp g hs' hp' := hD.1 s0
    obtain ⟨⟨a0, a1, a2, a3, a4⟩, a5, a6, a7, a8, a9⟩ := hH
    change 2 ≤ g 0 ∧ g 0 ≤ 24 at a0
    change 0 ≤ g 1 ∧ g 1 ≤ 99 at a1
    change 0 ≤ g 2 ∧ g 2 ≤ 6 at a2
    change 0 ≤ g 3 ∧ g 3 ≤ 6 at a3
    change 0 ≤ g 4 ∧ g 4 ≤ 8 at a4
    refine ⟨fun _ => ?_, fun c => absurd s0 c⟩
    have cases : l = 0 ∨ l = 1 ∨ l = 2 ∨ l = 3 ∨ l = 4 ∨ l = 5 ∨ l = 6 := by omega
    rcases cases with rfl | rfl | rfl | rfl | rfl | rfl | rfl
    · have r0 := rng 0 (by decide) 2 24 (by decide) (by decide) (by omega)
      rw [if_pos rfl]
      show HVp (up1 g 0 (v 0)) hs' hp'
      refine ⟨⟨by rw [up1_s]; exact r0, by rw [up1_rd (by decide)]; exact a1, by rw [up1_rd (by decide)]; exact a2, by rw [up1_rd (by decide)]; exact a3, by rw [up1_rd (by decide)]; exact a4⟩, fun s hs => by rw [up1_rd (by omega)]; exact a5 s hs, fun f hf => ?_, fun p hp => ?_, fun p hp => WkV_mono (a8 p hp) (fun j h1 h2 => up1_rd (by omega)) (Int.le_refl _) (Int.le_refl _), fun c hc => ?_⟩
      · rw [up1_rd (by decide)] at hf; rw [up1_rd (by omega), up1_rd (by omega)]; exact a6 f hf
      · rw [up1_rd (by decide)] at hp; rw [up1_rd (by omega), up1_rd (by omega), up1_rd (by omega)]; exact a7 p hp
      · rw [up1_rd (by decide)] at hc; rw [up1_rd (by omega), up1_rd (by omega), up1_rd (by omega)]; exact a9 c hc
    · have r0 := rng 0 (by decide) 0 99 (by decide) (by decide) (by omega)
      rw [if_neg (by decide), if_pos rfl]
      show HVp (up1 g 1 (v 0)) hs' hp'
      refine ⟨⟨by rw [up1_rd (by decide)]; exact a0, by rw [up1_s]; exact r0, by rw [up1_rd (by decide)]; exact a2, by rw [up1_rd (by decide)]; exact a3, by rw [up1_rd (by decide)]; exact a4⟩, fun s hs => by rw [up1_rd (by omega)]; exact a5 s hs, fun f hf => ?_, fun p hp => ?_, fun p hp => WkV_mono (a8 p hp) (fun j h1 h2 => up1_rd (by omega)) (Int.le_refl _) (Int.le_refl _), fun c hc => ?_⟩
      · rw [up1_rd (by decide)] at hf; rw [up1_rd (by omega), up1_rd (by omega)]; exact a6 f hf
      · rw [up1_rd (by decide)] at hp; rw [up1_rd (by omega), up1_rd (by omega), up1_rd (by omega)]; exact a7 p hp
      · rw [up1_rd (by decide)] at hc; rw [up1_rd (by omega), up1_rd (by omega), up1_rd (by omega)]; exact a9 c hc
    · have r0 := rng 0 (by decide) 0 23 (by decide) (by decide) (by omega)
      have r1 := rng 1 (by decide) 0 9 (by decide) (by decide) (by omega)
      have mg := maxZ_ge hs' (v 0)
      rw [if_neg (by decide), if_neg (by decide), if_pos rfl]
      show HVp (up1 g (5 + (v 0).toNat) (v 1)) (maxZ hs' (v 0)) hp'
      refine ⟨⟨by rw [up1_rd (by omega)]; exact a0, by rw [up1_rd (by omega)]; exact a1, by rw [up1_rd (by omega)]; exact a2, by rw [up1_rd (by omega)]; exact a3, by rw [up1_rd (by omega)]; exact a4⟩, fun s hs => ?_, fun f hf => ?_, fun p hp => ?_, fun p hp => WkV_mono (a8 p hp) (fun j h1 h2 => up1_rd (by omega)) mg.1 (Int.le_refl _), fun c hc => ?_⟩
      · by_cases e : s = (v 0).toNat
        · rw [e, up1_s]; exact r1
        · rw [up1_rd (by omega)]; exact a5 s hs
      · rw [up1_rd (by omega)] at hf; rw [up1_rd (by omega), up1_rd (by omega)]; have := a6 f hf; change (0 ≤ g (29 + 2 * f) ∧ g (29 + 2 * f) ≤ hs') ∧ _ at this; omega
      · rw [up1_rd (by omega)] at hp; rw [up1_rd (by omega), up1_rd (by omega), up1_rd (by omega)]; exact a7 p hp
      · rw [up1_rd (by omega)] at hc; rw [up1_rd (by omega), up1_rd (by omega), up1_rd (by omega)]; exact a9 c hc
    · have r0 := rng 0 (by decide) 0 23 (by decide) (by decide) (by omega)
      have r1 := rng 1 (by decide) 0 9 (by decide) (by decide) (by omega)
      have mg := maxZ_ge hs' (v 0)
      rw [if_neg (by decide), if_neg (by decide), if_neg (by decide), if_pos rfl]
      show HVp (up1 (up1 (up1 g (29 + 2 * (g 2).toNat) (v 0)) (30 + 2 * (g 2).toNat) (v 1)) 2 (g 2 + 1)) (maxZ hs' (v 0)) hp'
      have k3 : ∀ j, j ≠ 2 → j ≠ 29 + 2 * (g 2).toNat → j ≠ 30 + 2 * (g 2).toNat → up1 (up1 (up1 g (29 + 2 * (g 2).toNat) (v 0)) (30 + 2 * (g 2).toNat) (v 1)) 2 (g 2 + 1) j = g j := fun j h1 h2 h3 => by rw [up1_rd h1, up1_rd h3, up1_rd h2]
      refine ⟨⟨by rw [k3 0 (by omega) (by omega) (by omega)]; exact a0, by rw [k3 1 (by omega) (by omega) (by omega)]; exact a1, by rw [up1_s]; omega, by rw [k3 3 (by omega) (by omega) (by omega)]; exact a3, by rw [k3 4 (by omega) (by omega) (by omega)]; exact a4⟩, fun s hs => by rw [k3 _ (by omega) (by omega) (by omega)]; exact a5 s hs, fun f hf => ?_, fun p hp => ?_, fun p hp => WkV_mono (a8 p hp) (fun j h1 h2 => k3 j (by omega) (by omega) (by omega)) mg.1 (Int.le_refl _), fun c hc => ?_⟩
      · rw [up1_s] at hf
        by_cases e : f = (g 2).toNat
        · rw [e, up1_rd (by omega), up1_rd (by omega), up1_s, up1_rd (by omega), up1_s]; omega
        · rw [k3 _ (by omega) (by omega) (by omega), k3 _ (by omega) (by omega) (by omega)]; have := a6 f (by show (f : Int) < g 2; omega); change (0 ≤ g (29 + 2 * f) ∧ g (29 + 2 * f) ≤ hs') ∧ _ at this; omega
      · rw [k3 3 (by omega) (by omega) (by omega)] at hp; rw [k3 _ (by omega) (by omega) (by omega), k3 _ (by omega) (by omega) (by omega), k3 _ (by omega) (by omega) (by omega)]; exact a7 p hp
      · rw [k3 4 (by omega) (by omega) (by omega)] at hc; rw [k3 _ (by omega) (by omega) (by omega), k3 _ (by omega) (by omega) (by omega), k3 _ (by omega) (by omega) (by omega)]; exact a9 c hc
    · have r0 := rng 0 (by decide) 0 9 (by decide) (by decide) (by omega)
      have r1 := rng 1 (by decide) 1 9 (by decide) (by decide) (by omega)
      have r2 := rng 2 (by decide) 1 4 (by decide) (by decide) (by omega)
      rw [if_neg (by decide), if_neg (by decide), if_neg (by decide), if_neg (by decide), if_pos rfl]
      show HVp (up1 (up3 g (41 + 14 * (g 3).toNat) (v 0) (v 1) (v 2)) 3 (g 3 + 1)) hs' hp'
      unfold up3
      have k3 : ∀ j, j ≠ 3 → j ≠ 41 + 14 * (g 3).toNat → j ≠ 41 + 14 * (g 3).toNat + 1 → j ≠ 41 + 14 * (g 3).toNat + 2 → up1 (up1 (up1 (up1 g (41 + 14 * (g 3).toNat) (v 0)) (41 + 14 * (g 3).toNat + 1) (v 1)) (41 + 14 * (g 3).toNat + 2) (v 2)) 3 (g 3 + 1) j = g j := fun j h1 h2 h3 h4 => by rw [up1_rd h1, up1_rd h4, up1_rd h3, up1_rd h2]
      refine ⟨⟨by rw [k3 0 (by omega) (by omega) (by omega) (by omega)]; exact a0, by rw [k3 1 (by omega) (by omega) (by omega) (by omega)]; exact a1, by rw [k3 2 (by omega) (by omega) (by omega) (by omega)]; exact a2, by rw [up1_s]; omega, by rw [k3 4 (by omega) (by omega) (by omega) (by omega)]; exact a4⟩, fun s hs => by rw [k3 _ (by omega) (by omega) (by omega) (by omega)]; exact a5 s hs, fun f hf => ?_, fun p hp => ?_, fun p hp => WkV_mono (a8 p hp) (fun j h1 h2 => k3 j (by omega) (by omega) (by omega) (by omega)) (Int.le_refl _) (Int.le_refl _), fun c hc => ?_⟩
      · rw [k3 2 (by omega) (by omega) (by omega) (by omega)] at hf; rw [k3 _ (by omega) (by omega) (by omega) (by omega), k3 _ (by omega) (by omega) (by omega) (by omega)]; exact a6 f hf
      · rw [up1_s] at hp
        by_cases e : p = (g 3).toNat
        · rw [e, up1_rd (by omega), up1_rd (by omega), up1_rd (by omega), up1_s, up1_rd (by omega), up1_rd (by omega), show 42 + 14 * (g 3).toNat = 41 + 14 * (g 3).toNat + 1 by omega, up1_s, up1_rd (by omega), show 43 + 14 * (g 3).toNat = 41 + 14 * (g 3).toNat + 2 by omega, up1_s]; omega
        · rw [k3 _ (by omega) (by omega) (by omega) (by omega), k3 _ (by omega) (by omega) (by omega) (by omega), k3 _ (by omega) (by omega) (by omega) (by omega)]; exact a7 p (by show (p : Int) < g 3; omega)
      · rw [k3 4 (by omega) (by omega) (by omega) (by omega)] at hc; rw [k3 _ (by omega) (by omega) (by omega) (by omega), k3 _ (by omega) (by omega) (by omega) (by omega), k3 _ (by omega) (by omega) (by omega) (by omega)]; exact a9 c hc
    · have r0 := rng 0 (by decide) 0 5 (by decide) (by decide) (by omega)
      have r1 := rng 1 (by decide) 0 60 (by decide) (by decide) (by omega)
      have r2 := rng 2 (by decide) 0 23 (by decide) (by decide) (by omega)
      have rk : ∀ k, k < n → 0 ≤ v (3 + k) ∧ v (3 + k) ≤ 23 := fun k hk => by
        rcases hg k hk rfl with h | h
        · exact h
        · omega
      have mg := maxZ_ge hs' (v 2)
      have mp := maxZ_ge hp' (v 0)
      obtain ⟨mw1, mw2⟩ := mxW_ge (maxZ hs' (v 2)) v n
      rw [if_neg (by decide), if_neg (by decide), if_neg (by decide), if_neg (by decide), if_neg (by decide), if_pos rfl]
      show HVp (tlW g (v 0).toNat v n) (mxW (maxZ hs' (v 2)) v n) (maxZ hp' (v 0))
      have k3 : ∀ j, (j < 44 + 14 * (v 0).toNat ∨ 55 + 14 * (v 0).toNat ≤ j) → tlW g (v 0).toNat v n j = g j := fun j hj => by unfold tlW; rw [if_neg (by omega), if_neg (by omega), if_neg (by omega), if_neg (by omega)]
      refine ⟨⟨by rw [k3 0 (by omega)]; exact a0, by rw [k3 1 (by omega)]; exact a1, by rw [k3 2 (by omega)]; exact a2, by rw [k3 3 (by omega)]; exact a3, by rw [k3 4 (by omega)]; exact a4⟩, fun s hs => by rw [k3 _ (by omega)]; exact a5 s hs, fun f hf => ?_, fun p hp => ?_, fun p hp => ?_, fun c hc => ?_⟩
      · rw [k3 2 (by omega)] at hf; rw [k3 _ (by omega), k3 _ (by omega)]; have := a6 f hf; change (0 ≤ g (29 + 2 * f) ∧ g (29 + 2 * f) ≤ hs') ∧ _ at this; omega
      · rw [k3 3 (by omega)] at hp; rw [k3 _ (by omega), k3 _ (by omega), k3 _ (by omega)]; exact a7 p hp
      · by_cases e : p = (v 0).toNat
        · rw [e]
          refine Or.inr ?_
          have e1 : tlW g (v 0).toNat v n (44 + 14 * (v 0).toNat) = v 1 := by unfold tlW; rw [if_pos rfl]
          have e2 : tlW g (v 0).toNat v n (45 + 14 * (v 0).toNat) = v 2 := by unfold tlW; rw [if_neg (by omega), if_pos rfl]
          have e3 : tlW g (v 0).toNat v n (46 + 14 * (v 0).toNat) = (n : Int) := by unfold tlW; rw [if_neg (by omega), if_neg (by omega), if_pos rfl]
          rw [e1, e2, e3]
          refine ⟨r1, by omega, by omega, by omega, fun k hk => ?_⟩
          have e4 : tlW g (v 0).toNat v n (47 + 14 * (v 0).toNat + k) = v (3 + k) := by unfold tlW; rw [if_neg (by omega), if_neg (by omega), if_neg (by omega), if_pos (by omega), show 47 + 14 * (v 0).toNat + k - (47 + 14 * (v 0).toNat) = k by omega]
          rw [e4]
          have := rk k (by omega)
          have := mw2 k (by omega)
          omega
        · exact WkV_mono (a8 p hp) (fun j h1 h2 => k3 j (by omega)) (by show hs' ≤ _; omega) mp.1
      · rw [k3 4 (by omega)] at hc; rw [k3 _ (by omega), k3 _ (by omega), k3 _ (by omega)]; have := a9 c hc; change (0 ≤ g (125 + 3 * c) ∧ g (125 + 3 * c) ≤ hp') ∧ _ at this; omega
    · have r0 := rng 0 (by decide) 0 5 (by decide) (by decide) (by omega)
      have r1 := rng 1 (by decide) 0 99 (by decide) (by decide) (by omega)
      have r2 := rng 2 (by decide) 0 9 (by decide) (by decide) (by omega)
      have mp := maxZ_ge hp' (v 0)
      rw [if_neg (by decide), if_neg (by decide), if_neg (by decide), if_neg (by decide), if_neg (by decide), if_neg (by decide), if_pos rfl]
      show HVp (up1 (up3 g (125 + 3 * (g 4).toNat) (v 0) (v 1) (v 2)) 4 (g 4 + 1)) hs' (maxZ hp' (v 0))
      unfold up3
      have k3 : ∀ j, j ≠ 4 → j ≠ 125 + 3 * (g 4).toNat → j ≠ 125 + 3 * (g 4).toNat + 1 → j ≠ 125 + 3 * (g 4).toNat + 2 → up1 (up1 (up1 (up1 g (125 + 3 * (g 4).toNat) (v 0)) (125 + 3 * (g 4).toNat + 1) (v 1)) (125 + 3 * (g 4).toNat + 2) (v 2)) 4 (g 4 + 1) j = g j := fun j h1 h2 h3 h4 => by rw [up1_rd h1, up1_rd h4, up1_rd h3, up1_rd h2]
      refine ⟨⟨by rw [k3 0 (by omega) (by omega) (by omega) (by omega)]; exact a0, by rw [k3 1 (by omega) (by omega) (by omega) (by omega)]; exact a1, by rw [k3 2 (by omega) (by omega) (by omega) (by omega)]; exact a2, by rw [k3 3 (by omega) (by omega) (by omega) (by omega)]; exact a3, by rw [up1_s]; omega⟩, fun s hs => by rw [k3 _ (by omega) (by omega) (by omega) (by omega)]; exact a5 s hs, fun f hf => ?_, fun p hp => ?_, fun p hp => WkV_mono (a8 p hp) (fun j h1 h2 => k3 j (by omega) (by omega) (by omega) (by omega)) (Int.le_refl _) mp.1, fun c hc => ?_⟩
      · rw [k3 2 (by omega) (by omega) (by omega) (by omega)] at hf; rw [k3 _ (by omega) (by omega) (by omega) (by omega), k3 _ (by omega) (by omega) (by omega) (by omega)]; exact a6 f hf
      · rw [k3 3 (by omega) (by omega) (by omega) (by omega)] at hp; rw [k3 _ (by omega) (by omega) (by omega) (by omega), k3 _ (by omega) (by omega) (by omega) (by omega), k3 _ (by omega) (by omega) (by omega) (by omega)]; exact a7 p hp
      · rw [up1_s] at hc
        by_cases e : c = (g 4).toNat
        · rw [e, up1_rd (by omega), up1_rd (by omega), up1_rd (by omega), up1_s, up1_rd (by omega), up1_rd (by omega), show 126 + 3 * (g 4).toNat = 125 + 3 * (g 4).toNat + 1 by omega, up1_s, up1_rd (by omega), show 127 + 3 * (g 4).toNat = 125 + 3 * (g 4).toNat + 2 by omega, up1_s]; omega
        · rw [k3 _ (by omega) (by omega) (by omega) (by omega), k3 _ (by omega) (by omega) (by omega) (by omega), k3 _ (by omega) (by omega) (by omega) (by omega)]; have := a9 c (by show (c : Int) < g 4; omega); change (0 ≤ g (125 + 3 * c) ∧ g (125 + 3 * c) ≤ hp') ∧ _ at this; omega
  · have e7 : l = 7 := by omega
    subst e7
    have s0 : ¬ sort = 0 := fun h => l7 (hs.mp h)
    refine ⟨fun c => absurd c s0, fun _ => ?_⟩
    have hH : RdV g := hD.2 s0
    obtain ⟨a0, a1⟩ := hH
    change 0 ≤ g 0 ∧ g 0 ≤ 10 at a0
    have r0 := rng 0 (by decide) 0 5 (by decide) (by decide) (by omega)
    have r1 := rng 1 (by decide) 0 99 (by decide) (by decide) (by omega)
    have r2 := rng 2 (by decide) 0 9 (by decide) (by decide) (by omega)
    have r3 : -1 ≤ v 3 ∧ v 3 ≤ 9 := by
      rcases hv 3 (by decide) with h | h
      · have e1 : loT 7 3 = 0 := by decide
        have e2 : hiT 7 3 = 9 := by decide
        rw [e1, e2] at h; omega
      · omega
    rw [if_neg (by decide), if_neg (by decide), if_neg (by decide), if_neg (by decide), if_neg (by decide), if_neg (by decide), if_neg (by decide)]
    show RdV (up1 (up1 (up3 g (1 + 4 * (g 0).toNat) (v 0) (v 1) (v 2)) (4 + 4 * (g 0).toNat) (v 3)) 0 (g 0 + 1))
    unfold up3
    refine ⟨by rw [up1_s]; omega, fun k hk => ?_⟩
    rw [up1_s] at hk
    by_cases e : k = (g 0).toNat
    · rw [e, up1_rd (by omega), up1_rd (by omega), up1_rd (by omega), up1_rd (by omega), up1_s, up1_rd (by omega), up1_rd (by omega), up1_rd (by omega), show 2 + 4 * (g 0).toNat = 1 + 4 * (g 0).toNat + 1 by omega, up1_s, up1_rd (by omega), up1_rd (by omega), show 3 + 4 * (g 0).toNat = 1 + 4 * (g 0).toNat + 2 by omega, up1_s, up1_rd (by omega), up1_s]; omega
    · have k3 : ∀ j, j ≠ 0 → (j < 1 + 4 * (g 0).toNat) → up1 (up1 (up1 (up1 (up1 g (1 + 4 * (g 0).toNat) (v 0)) (1 + 4 * (g 0).toNat + 1) (v 1)) (1 + 4 * (g 0).toNat + 2) (v 2)) (4 + 4 * (g 0).toNat) (v 3)) 0 (g 0 + 1) j = g j := fun j h1 h2 => by rw [up1_rd h1, up1_rd (by omega), up1_rd (by omega), up1_rd (by omega), up1_rd (by omega)]
      rw [k3 _ (by omega) (by omega), k3 _ (by omega) (by omega), k3 _ (by omega) (by omega), k3 _ (by omega) (by omega)]; exact a1 k (by show (k : Int) < g 0; omega)
