/-! the class reads a text -/
theorem x_isFullA {J : mJ} {l : Int} {post' : Bool → Prop} (h : ∀ b, post' b) : v_X5_isFull J 44 2 l post' := by
  unfold v_X5_isFull
  exact ⟨fun _ => ⟨fun _ => h _, fun _ => h _⟩, fun _ => ⟨fun _ => h _, fun _ => h _⟩, fun _ => h _, fun _ => ⟨fun _ => h _, fun _ => h _⟩, fun _ => ⟨fun _ => h _, fun _ => h _⟩, fun _ _ _ _ _ => h _⟩
theorem CDd_frame {J J1 : mJ} {sort : Int} {D : Dt} (h : ∀ x, 45 ≤ x → x ≤ 63 → J1 x = J x) (h12 : J1 44 12 = J 44 12) (h13 : J1 44 13 = J 44 13) (hD : CDd J sort D) : CDd J1 sort D := by
  refine ⟨fun s => ?_, fun s => ?_⟩
  · obtain ⟨a, b, c⟩ := hD.1 s
    exact ⟨HR6_frame (fun k hk => h _ (by omega) (by omega)) a, by rw [h12]; exact b, by rw [h13]; exact c⟩
  · exact RdR_frame (fun k hk => h _ (by omega) (by omega)) (hD.2 s)
theorem CS_CM {J0 J : mJ} {B : Nat → Nat} {N : Nat} {sort : Int} {c : Tk} {F : Ft} {D : Dt} (h : CS J0 J B N sort (c, F, D)) : CM J J B N c F := ⟨h.1, h.2.1, h.2.2.1, fun _ _ _ => rfl, rfl, rfl⟩
theorem CS_bad {J0 J J1 : mJ} {B : Nat → Nat} {N : Nat} {sort : Int} {c c' : Tk} {F F' : Ft} {D D' : Dt} (h : CS J0 J B N sort (c, F, D)) (h1 : CM J J1 B N c' F') (hF : F'.1 ≠ 0) : CS J0 J1 B N sort (c', F', D') := ⟨h1.1, h1.2.1, h1.2.2.1, fun h => absurd h hF, fun x hx => by rw [h1.2.2.2.1 x (by omega) (by omega)]; exact h.2.2.2.2 x hx⟩
theorem x_readLine {J0 J : mJ} {B : Nat → Nat} {N : Nat} {sort : Int} {st : St} (hsi : ir sort) (h : CS J0 J B N sort st) (hV : StV B N sort st) (h1 : st.2.1.1 ≠ 1) (hk : kd st.1 ≠ 0) {post' : mJ → Prop} (hq : ∀ J1, CS J0 J1 B N sort (lineF B N sort st) → post' J1) : v_X5_readLine J 44 2 sort post' := by
  obtain ⟨c, F, D⟩ := st
  obtain ⟨hc, hF, hD⟩ := hV
  change TkV B N c at hc
  change F.1 ≠ 1 at h1
  change F.1 = 1 ∨ FtV c F at hF
  change F.1 = 0 → DtV sort D at hD
  change kd c ≠ 0 at hk
  have hF : FtV c F := hF.resolve_left h1
  have hM := CS_CM h
  unfold lineF at hq
  change ∀ J1, CS J0 J1 B N sort (if lnF sort c = 8 then (c, (1, (pl c : Int)), D) else lnB B N (lnF sort c) D (slR B N (lnF sort c) (sl0 B N (lnF sort c) c F D) (slN (lnF sort c)))) → post' J1 at hq
  unfold v_X5_readLine
  refine x_lineAtToken h.2.2.1 h.1 hc.1.1 hc.1.2 hc.2.1 hc.2.2.2.2.1 hsi ?_
  by_cases c8 : lnF sort c = 8
  · rw [if_pos c8] at hq ⊢
    exact ⟨fun c1 => absurd rfl c1, fun _ => x_breakOff hM (fun J1 m1 => hq J1 (CS_bad h m1 (by show (1 : Int) ≠ 0; decide)))⟩
  · rw [if_neg c8] at hq ⊢
    obtain ⟨l8, ls, lk⟩ := lnF_8 c8
    generalize lnF sort c = l at *
    have sv0 := sl0_V (l := l) (D := D) hc hk hF
    have sv := slR_V sv0 (slN l)
    have f0 := sl_F0 (B := B) (N := N) (l := l) (s0 := sl0 B N l c F D) (slN l)
    have n6 := h.2.2.1.1
    have go : ∀ J3, CM J J3 B N c (fl1 l c F D) → v_X5_readLine_33 44 2 sort post' J3 (l : Int) := by
      intro J3 m3
      unfold v_X5_readLine_33
      refine x_next m3 hc.1.2 (fun J5 m5 _ _ => ?_)
      have k77 : (slR B N l (sl0 B N l c F D) (slN l)).1 = true → ∀ J1, CM J J1 B N (lnG B N l (slR B N l (sl0 B N l c F D) (slN l))).1 (lnG B N l (slR B N l (sl0 B N l c F D) (slN l))).2.1 → (l = 5 → J1 44 11 = ((lnG B N l (slR B N l (sl0 B N l c F D) (slN l))).2.2.2 : Int)) → (∀ j, j < slN l ∨ (l = 5 ∧ j < 3 + (lnG B N l (slR B N l (sl0 B N l c F D) (slN l))).2.2.2) → J1 64 j = (lnG B N l (slR B N l (sl0 B N l c F D) (slN l))).2.2.1 j) → v_X5_readLine_77 44 2 sort post' J1 (l : Int) := by
        intro al J1 m1 e11 ev
        unfold lnB at hq
        rw [if_pos al] at hq
        have lg := lnG_V l8 sv al
        generalize slR B N l (sl0 B N l c F D) (slN l) = s at *
        have gz : (lnG B N l s).2.1.1 = 0 → s.2.2.1.1 = 0 := by
          intro hz
          unfold lnG at hz
          split at hz
          · exact gl_F0 N _ hz
          · exact hz
        have w1 : TkV B N (lnG B N l s).1 := by
          rcases lg with g | ⟨_, g⟩
          · exact g.1
          · rw [g]; exact sv.1
        have w2 : (lnG B N l s).2.1.1 = 0 → (∀ j, j < slN l → inR l j ((lnG B N l s).2.2.1 j)) ∧ (1 ≤ (lnG B N l s).2.2.2 ∧ (lnG B N l s).2.2.2 ≤ 8) := by
          intro hz
          have hs0 := gz hz
          rcases lg with g | ⟨_, g⟩
          · have gn := g.2.2.2.1.1
            refine ⟨fun j hj => ?_, g.2.2.2.1⟩
            by_cases e5 : l = 5
            · subst e5
              by_cases j3 : j < 3
              · rw [g.2.2.2.2.1 j j3]; exact (sv.2.2.1 al).2 hs0 j hj
              · have : slN 5 = 4 := by decide
                rw [show j = 3 + 0 by omega]; exact g.2.2.2.2.2 hz 0 (by omega)
            · unfold lnG; rw [if_neg e5]; exact (sv.2.2.1 al).2 hs0 j hj
          · rw [g]; exact ⟨fun j hj => (sv.2.2.1 al).2 hs0 j hj, by show 1 ≤ 1 ∧ 1 ≤ 8; decide⟩
        generalize lnG B N l s = w at *
        unfold lnE at hq
        unfold v_X5_readLine_77
        rw [m1.1.2.1]
        refine ⟨fun c4 => ?_, fun c4 => ?_⟩
        · rw [if_pos (by omega)] at hq
          refine x_next m1 w1.1.2 (fun J13 m13 e64 e1113 => ?_)
          rw [m13.2.1.1]
          refine ⟨fun cz => ?_, fun cz => ?_⟩
          · refine hq J13 ⟨m13.1, m13.2.1, m13.2.2.1, fun hz => absurd hz cz, fun x hx => by rw [m13.2.2.2.1 x (by omega) (by omega)]; exact h.2.2.2.2 x hx⟩
          · rw [if_pos cz] at hq
            obtain ⟨z1, z2⟩ := fl1_0 (f0 (gz cz))
            obtain ⟨w2a, w2b⟩ := w2 cz
            have cd : CDd J13 sort D := CDd_frame (fun x h1 h2 => m13.2.2.2.1 x (by omega) (by omega)) m13.2.2.2.2.1 m13.2.2.2.2.2 (h.2.2.2.1 z1)
            refine x_tell l8 ls cd (hD z1) z2 (fun j hj => ⟨w2a j hj, by rw [e64]; exact ev j (Or.inl hj)⟩) w2b (fun e5 => by rw [e1113]; exact e11 e5) (fun e5 k hk => by rw [e64]; exact ev _ (Or.inr ⟨e5, by omega⟩)) (fun J14 tp => hq J14 ?_)
            obtain ⟨t1, t2, t3⟩ := tp
            obtain ⟨⟨tk1, tk2, tk3, tk4⟩, ff, ⟨tp1, tp2, tp3⟩, fr, _⟩ := m13
            refine ⟨⟨by rw [t2 6 (by decide)]; exact tk1, by rw [t2 7 (by decide)]; exact tk2, by rw [t2 8 (by decide)]; exact tk3, by rw [t2 9 (by decide)]; exact tk4⟩, by rw [t2 2 (by decide), t2 3 (by decide)]; exact ff, ⟨tp1, by rw [t3 2 (by decide)]; exact tp2, by rw [t2 5 (by decide)]; exact tp3⟩, fun _ => t1, fun x hx => ?_⟩
            rw [t3 x (by omega), fr x (by omega) (by omega)]; exact h.2.2.2.2 x hx
        · rw [if_neg (by omega)] at hq
          exact x_breakOff m1 (fun J2 m2 => hq J2 (CS_bad h m2 (by show (1 : Int) ≠ 0; decide)))
      refine x_slots (v := fun _ => 0) (k0 := en c) l8 m5 sv0 (fun dead J1 F1 m1 => ?_) (fun al J1 m1 ev => ?_)
      · unfold v_X5_readLine_57
        refine x_breakOff m1 (fun J2 m2 => hq J2 ?_)
        unfold lnB
        change (slR B N l (sl0 B N l c F D) (slN l)).1 = false at dead
        rw [if_neg (by rw [dead]; decide), sv.2.2.2 dead]
        exact CS_bad h m2 (by show (1 : Int) ≠ 0; decide)
      · change (slR B N l (sl0 B N l c F D) (slN l)).1 = true at al
        change CM J J1 B N (slR B N l (sl0 B N l c F D) (slN l)).2.1 (slR B N l (sl0 B N l c F D) (slN l)).2.2.1 at m1
        change ∀ j, j < slN l → J1 64 j = (slR B N l (sl0 B N l c F D) (slN l)).2.2.2 j at ev
        have k77 := k77 al
        unfold v_X5_readLine_68
        refine ⟨fun c5 => k77 J1 ?_ (fun e5 => by omega) (fun j hj => ?_), fun c5 => ?_⟩
        · unfold lnG; rw [if_neg (by omega)]; exact m1
        · unfold lnG; rw [if_neg (by omega)]; exact ev j (by omega)
        · have e5 : l = 5 := by omega
          subst e5
          unfold lnG at k77
          rw [if_pos rfl] at k77
          obtain ⟨sv1, sv2, sv3, sv4⟩ := sv
          obtain ⟨sv3a, sv3b⟩ := sv3 al
          have s4 : slN 5 = 4 := by decide
          refine x_goals (k0 := en c) m1 ⟨sv1, sv2, sv3a, by show 1 ≤ 1 ∧ 1 ≤ 8; decide, fun _ _ => rfl, fun hz k hk => ?_⟩ (fun j hj => ev j (by omega)) (fun J2 m2 e2 ev2 => k77 J2 m2 (fun _ => e2) (fun j hj => ev2 j ?_))
          · change k < 1 at hk
            rw [show k = 0 by omega]
            exact sv3b hz 3 (by decide)
          · rcases hj with hj | hj
            · have g1 : 1 ≤ (glR B N N ((slR B N 5 (sl0 B N 5 c F D) (slN 5)).2.1, (slR B N 5 (sl0 B N 5 c F D) (slN 5)).2.2.1, (slR B N 5 (sl0 B N 5 c F D) (slN 5)).2.2.2, 1)).2.2.2 := (glR_V (k0 := en c) (v0 := (slR B N 5 (sl0 B N 5 c F D) (slN 5)).2.2.2) N _ ⟨sv1, sv2, sv3a, by show 1 ≤ 1 ∧ 1 ≤ 8; decide, fun _ _ => rfl, fun hz k hk => by
                change k < 1 at hk
                rw [show k = 0 by omega]
                exact sv3b hz 3 (by decide)⟩).2.2.2.1.1
              omega
            · exact hj.2
    have nf : F.1 ≠ 0 → fl1 l c F D = F := fun hz => by
      unfold fl1 blm; rw [if_neg hz]; split <;> rfl
    refine ⟨fun _ => ?_, fun c1 => by omega⟩
    by_cases hz : F.1 = 0
    · refine x_isFull l8 ls (h.2.2.2.1 hz) ⟨fun cb => ?_, fun cb => ?_⟩
      · refine go J ?_
        unfold fl1; rw [if_neg (by rw [cb]; decide)]; exact hM
      · rw [h.1.2.2.1]
        refine x_blame hM (fun J3 m3 _ _ => go J3 ?_)
        unfold fl1; rw [if_pos cb]; exact m3
    · refine x_isFullA (fun b => ⟨fun _ => go J (by rw [nf hz]; exact hM), fun _ => ?_⟩)
      rw [h.1.2.2.1]
      refine x_blame hM (fun J3 m3 _ _ => go J3 ?_)
      rw [nf hz]
      unfold blm at m3
      rw [if_neg hz] at m3; exact m3
/-- an empty house or reading -/
def clF (sort : Int) : Nat → Int := fun j => if sort = 0 then (if j = 0 then 12 else if j = 1 then 60 else if 41 ≤ j ∧ j < 125 ∧ ((j - 41) % 14 = 3 ∨ (j - 41) % 14 = 4) then -1 else 0) else 0
def st0 (B : Nat → Nat) (N : Nat) (sort : Int) : St := (tkF B N 0, (0, -1), (clF sort, -1, -1))
theorem cl_V (sort : Int) : DtV sort (clF sort, -1, -1) := by
  refine ⟨fun s => ?_, fun s => ?_⟩
  · show HVp (clF sort) (-1) (-1)
    have e : clF sort = fun j => if j = 0 then 12 else if j = 1 then 60 else if 41 ≤ j ∧ j < 125 ∧ ((j - 41) % 14 = 3 ∨ (j - 41) % 14 = 4) then -1 else 0 := by funext j; unfold clF; rw [if_pos s]
    rw [e]
    refine ⟨by decide, fun s hs => ?_, fun f hf => ?_, fun p hp => ?_, fun p hp => Or.inl ⟨?_, ?_, ?_⟩, fun c hc => ?_⟩
    · show 0 ≤ (if 5 + s = 0 then (12 : Int) else if 5 + s = 1 then 60 else if 41 ≤ 5 + s ∧ _ then -1 else 0) ∧ (if 5 + s = 0 then (12 : Int) else if 5 + s = 1 then 60 else if 41 ≤ 5 + s ∧ _ then -1 else 0) ≤ 9
      rw [if_neg (by omega), if_neg (by omega), if_neg (by omega)]; decide
    · change (f : Int) < 0 at hf; omega
    · change (p : Int) < 0 at hp; omega
    · show (if 44 + 14 * p = 0 then (12 : Int) else if 44 + 14 * p = 1 then 60 else if 41 ≤ 44 + 14 * p ∧ 44 + 14 * p < 125 ∧ ((44 + 14 * p - 41) % 14 = 3 ∨ (44 + 14 * p - 41) % 14 = 4) then -1 else 0) = -1
      rw [if_neg (by omega), if_neg (by omega), if_pos (by omega)]
    · show (if 45 + 14 * p = 0 then (12 : Int) else if 45 + 14 * p = 1 then 60 else if 41 ≤ 45 + 14 * p ∧ 45 + 14 * p < 125 ∧ ((45 + 14 * p - 41) % 14 = 3 ∨ (45 + 14 * p - 41) % 14 = 4) then -1 else 0) = -1
      rw [if_neg (by omega), if_neg (by omega), if_pos (by omega)]
    · show (if 46 + 14 * p = 0 then (12 : Int) else if 46 + 14 * p = 1 then 60 else if 41 ≤ 46 + 14 * p ∧ 46 + 14 * p < 125 ∧ ((46 + 14 * p - 41) % 14 = 3 ∨ (46 + 14 * p - 41) % 14 = 4) then -1 else 0) = 0
      rw [if_neg (by omega), if_neg (by omega), if_neg (by omega)]
    · change (c : Int) < 0 at hc; omega
  · show RdV (clF sort)
    have e : clF sort = fun _ => 0 := by funext j; unfold clF; rw [if_neg s]
    rw [e]
    exact ⟨by decide, fun k hk => by change (k : Int) < 0 at hk; omega⟩
theorem st0_V (B : Nat → Nat) (N : Nat) (sort : Int) : StV B N sort (st0 B N sort) := ⟨(tkV_of (Nat.zero_le _)).1, Or.inr (Or.inl rfl), fun _ => cl_V sort⟩
/-- the state behind all lines, and the last fault -/
def stE (B : Nat → Nat) (N : Nat) (sort : Int) : St := itF B N sort (N + 1) (st0 B N sort)
def stF (N : Nat) (sort : Int) (st : St) : Ft := if sort = 0 ∧ (st.2.2.1 0 ≤ st.2.2.2.1 ∨ st.2.2.1 3 ≤ st.2.2.2.2) then blm 4 N st.2.1 else st.2.1
theorem it_V {B : Nat → Nat} {N : Nat} {sort : Int} : ∀ d (st : St), StV B N sort st → StV B N sort (itF B N sort d st)
  | 0, st, h => h
  | d + 1, st, h => by
    rw [itF]; split
    · exact h
    · next c => exact it_V d _ (line_V h (fun e => c (Or.inr e)) (fun e => c (Or.inl e))).1
theorem x_read {J : mJ} {B : Nat → Nat} {N : Nat} {sort : Int} (hsi : ir sort) (hN : N ≤ 600) (hT : ∀ i, i < 600 → B i ≤ 255 ∧ J 2 i = sb (B i : Int)) {post' : mJ → Prop} (hq : ∀ J1, (J1 44 2 = (stF N sort (stE B N sort)).1 ∧ J1 44 3 = (stF N sort (stE B N sort)).2) → ((stF N sort (stE B N sort)).1 = 0 → CDd J1 sort (stE B N sort).2.2) → (∀ x, (x < 44 ∨ 64 < x) → J1 x = J x) → post' J1) : v_X5_read J 44 2 sort (N : Int) post' := by
  unfold v_X5_read
  rintro J1 rfl J2 rfl J3 rfl J4 rfl J5 rfl J6 rfl
  have emin : minZ (N : Int) 600 = (N : Int) := by unfold minZ; split <;> omega
  rw [emin]
  generalize hJ6 : up2 (up2 (up2 (up2 (up2 (up2 J 44 5 (N : Int)) 44 6 0) 44 2 0) 44 3 (-1)) 44 12 (-1)) 44 13 (-1) = J6
  have a44 : ∀ x, x ≠ 44 → J6 x = J x := fun x hx => by rw [← hJ6, u2n hx, u2n hx, u2n hx, u2n hx, u2n hx, u2n hx]
  have c5 : J6 44 5 = (N : Int) ∧ J6 44 6 = 0 ∧ J6 44 2 = 0 ∧ J6 44 3 = -1 ∧ J6 44 12 = -1 ∧ J6 44 13 = -1 := by
    rw [← hJ6]
    refine ⟨?_, ?_, ?_, ?_, ?_, ?_⟩ <;> simp [up2_s, up1]
  unfold v_X3_clear
  rintro J7 rfl J8 rfl J9 rfl J10 rfl J11 rfl
  generalize hJ11 : up2 (up2 (up2 (up2 (up2 J6 (44 + 1) 0 12) (44 + 1) 1 60) (44 + 1) 2 0) (44 + 1) 3 0) (44 + 1) 4 0 = J11
  have b45 : ∀ x, x ≠ 45 → J11 x = J6 x := fun x hx => by rw [← hJ11, u2n hx, u2n hx, u2n hx, u2n hx, u2n hx]
  have b4 : J11 45 0 = 12 ∧ J11 45 1 = 60 ∧ J11 45 2 = 0 ∧ J11 45 3 = 0 ∧ J11 45 4 = 0 := by
    rw [← hJ11, show (45 : Nat) = 44 + 1 from rfl]
    refine ⟨?_, ?_, ?_, ?_, ?_⟩ <;> simp [up2_s, up1]
  refine p_fill (by decide) (p_fill (by decide) (p_fill (by decide) (p_fill (by decide) ?_)))
  rintro J8 rfl
  generalize hJ8 : up2 (fillZ (fillZ (fillZ (fillZ J11 (44 + 1 + 1) 24 0) (44 + 1 + 7) 6 (-1)) (44 + 1 + 8) 6 (-1)) (44 + 1 + 9) 6 0) (44 + 15) 0 0 = J8
  have k : ∀ x, x ≠ 46 → x ≠ 52 → x ≠ 53 → x ≠ 54 → x ≠ 59 → J8 x = J11 x := fun x h1 h2 h3 h4 h5 => by rw [← hJ8, u2n h5, fillZ_n h4, fillZ_n h3, fillZ_n h2, fillZ_n h1]
  have k46 : ∀ i, i < 24 → J8 46 i = 0 := fun i hi => by rw [← hJ8, u2n (by decide), fillZ_n (by decide), fillZ_n (by decide), fillZ_n (by decide)]; exact fillZ_s hi
  have k52 : ∀ i, i < 6 → J8 52 i = -1 := fun i hi => by rw [← hJ8, u2n (by decide), fillZ_n (by decide), fillZ_n (by decide)]; exact fillZ_s hi
  have k53 : ∀ i, i < 6 → J8 53 i = -1 := fun i hi => by rw [← hJ8, u2n (by decide), fillZ_n (by decide)]; exact fillZ_s hi
  have k54 : ∀ i, i < 6 → J8 54 i = 0 := fun i hi => by rw [← hJ8, u2n (by decide)]; exact fillZ_s hi
  have k59 : J8 59 0 = 0 := by rw [← hJ8]; exact up2_at _ _ _ _
  have k44 : J8 44 = J6 44 := by rw [k 44 (by decide) (by decide) (by decide) (by decide) (by decide), b45 44 (by decide)]
  have k45 : J8 45 = J11 45 := k 45 (by decide) (by decide) (by decide) (by decide) (by decide)
  have fr8 : ∀ x, (x < 44 ∨ 64 < x) → J8 x = J x := fun x hx => by rw [k x (by omega) (by omega) (by omega) (by omega) (by omega), b45 x (by omega), a44 x (by omega)]
  have tp8 : TpC J8 B N := ⟨hN, by rw [fr8 2 (by omega)]; exact hT, by rw [k44]; exact c5.1⟩
  have cd8 : CDd J8 sort (clF sort, -1, -1) := by
    refine ⟨fun s => ⟨?_, by rw [k44]; exact c5.2.2.2.2.1, by rw [k44]; exact c5.2.2.2.2.2⟩, fun s => ?_⟩
    · show HR6 J8 45 (clF sort)
      have e : clF sort = fun j => if j = 0 then 12 else if j = 1 then 60 else if 41 ≤ j ∧ j < 125 ∧ ((j - 41) % 14 = 3 ∨ (j - 41) % 14 = 4) then -1 else 0 := by funext j; unfold clF; rw [if_pos s]
      rw [e]
      refine ⟨by rw [k45]; exact b4, fun s hs => ?_, fun f hf => ?_, fun p hp => ?_, fun p hp => ⟨?_, ?_, ?_, fun q hq => ?_⟩, fun c hc => ?_⟩
      · show J8 46 s = if 5 + s = 0 then (12 : Int) else if 5 + s = 1 then 60 else if 41 ≤ 5 + s ∧ _ then -1 else 0
        rw [if_neg (by omega), if_neg (by omega), if_neg (by omega)]; exact k46 s hs
      · change (f : Int) < 0 at hf; omega
      · change (p : Int) < 0 at hp; omega
      · show J8 52 p = if 44 + 14 * p = 0 then (12 : Int) else if 44 + 14 * p = 1 then 60 else if 41 ≤ 44 + 14 * p ∧ 44 + 14 * p < 125 ∧ ((44 + 14 * p - 41) % 14 = 3 ∨ (44 + 14 * p - 41) % 14 = 4) then -1 else 0
        rw [if_neg (by omega), if_neg (by omega), if_pos (by omega)]; exact k52 p hp
      · show J8 53 p = if 45 + 14 * p = 0 then (12 : Int) else if 45 + 14 * p = 1 then 60 else if 41 ≤ 45 + 14 * p ∧ 45 + 14 * p < 125 ∧ ((45 + 14 * p - 41) % 14 = 3 ∨ (45 + 14 * p - 41) % 14 = 4) then -1 else 0
        rw [if_neg (by omega), if_neg (by omega), if_pos (by omega)]; exact k53 p hp
      · show J8 54 p = if 46 + 14 * p = 0 then (12 : Int) else if 46 + 14 * p = 1 then 60 else if 41 ≤ 46 + 14 * p ∧ 46 + 14 * p < 125 ∧ ((46 + 14 * p - 41) % 14 = 3 ∨ (46 + 14 * p - 41) % 14 = 4) then -1 else 0
        rw [if_neg (by omega), if_neg (by omega), if_neg (by omega)]; exact k54 p hp
      · change (q : Int) < (if 46 + 14 * p = 0 then (12 : Int) else if 46 + 14 * p = 1 then 60 else if 41 ≤ 46 + 14 * p ∧ 46 + 14 * p < 125 ∧ ((46 + 14 * p - 41) % 14 = 3 ∨ (46 + 14 * p - 41) % 14 = 4) then -1 else 0) at hq
        rw [if_neg (by omega), if_neg (by omega), if_neg (by omega)] at hq; omega
      · change (c : Int) < 0 at hc; omega
    · show RdR J8 59 (clF sort)
      have e : clF sort = fun _ => 0 := by funext j; unfold clF; rw [if_neg s]
      rw [e]
      exact ⟨k59, fun q hq => by change (q : Int) < 0 at hq; omega⟩
  refine x_nextToken (k := 0) tp8 (by rw [k44]; exact c5.2.1) (Nat.zero_le _) (fun J9 tk9 fc9 => ?_)
  have s9 : CS J J9 B N sort (st0 B N sort) := ⟨tk9, ⟨by rw [fc9.2 2 (by omega), k44]; exact c5.2.2.1, by rw [fc9.2 3 (by omega), k44]; exact c5.2.2.2.1⟩, TpC_fr fc9 tp8, fun _ => CDd_frame (fun x h1 h2 => fc9.1 x (by omega)) (fc9.2 12 (by omega)) (fc9.2 13 (by omega)) cd8, fun x hx => by rw [fc9.1 x (by omega)]; exact fr8 x hx⟩
  have fin : ∀ J10, CS J J10 B N sort (stE B N sort) → v_X5_read_93 44 2 sort (N : Int) post' J10 := by
    intro J10 s10
    generalize stE B N sort = st at *
    obtain ⟨c, F, D⟩ := st
    obtain ⟨t1, t2, t3, t4, t5⟩ := s10
    unfold stF at hq
    change ∀ J1, (J1 44 2 = (if sort = 0 ∧ (D.1 0 ≤ D.2.1 ∨ D.1 3 ≤ D.2.2) then blm 4 N F else F).1 ∧ J1 44 3 = (if sort = 0 ∧ (D.1 0 ≤ D.2.1 ∨ D.1 3 ≤ D.2.2) then blm 4 N F else F).2) → ((if sort = 0 ∧ (D.1 0 ≤ D.2.1 ∨ D.1 3 ≤ D.2.2) then blm 4 N F else F).1 = 0 → CDd J1 sort D) → _ → _ at hq
    change F.1 = 0 → CDd J10 sort D at t4
    change J10 44 2 = F.1 ∧ J10 44 3 = F.2 at t2
    have k126 : ∀ s0 : Int, (F.1 = 0 → sort = 0 → (s0 = 0 ↔ ¬ (D.1 0 ≤ D.2.1 ∨ D.1 3 ≤ D.2.2))) → v_X5_read_126 44 2 sort (N : Int) post' J10 s0 := by
      intro s0 hs0
      unfold v_X5_read_126 v_X5_blame
      rw [t3.2.2, t2.1]
      refine ⟨fun c1 => ?_, fun c1 => ⟨fun c2 => ?_, fun c2 => ⟨fun c3 => ?_, fun c3 => ?_⟩⟩⟩
      · rw [if_neg (fun h => c1 h.1)] at hq; exact hq J10 t2 t4 t5
      · by_cases z : F.1 = 0
        · rw [if_neg (fun h => (hs0 z c1).mp c2 h.2)] at hq; exact hq J10 t2 t4 t5
        · refine hq J10 ?_ (fun h => absurd h ?_) t5
          · unfold blm; rw [if_neg z]; split <;> exact t2
          · unfold blm; rw [if_neg z]; split <;> exact z
      · refine hq J10 ?_ (fun h => absurd h ?_) t5
        · unfold blm; rw [if_neg c3]; split <;> exact t2
        · unfold blm; rw [if_neg c3]; split <;> exact c3
      · rintro J1 rfl J2 rfl
        have cc : sort = 0 ∧ (D.1 0 ≤ D.2.1 ∨ D.1 3 ≤ D.2.2) := ⟨c1, Classical.not_not.mp (fun h => c2 ((hs0 c3 c1).mpr h))⟩
        rw [if_pos cc] at hq
        unfold blm at hq
        rw [if_pos c3] at hq
        refine hq _ ⟨?_, ?_⟩ (fun h => absurd h (by show ¬ ((4 : Int) = 0); decide)) (fun x hx => ?_)
        · rw [up2_off _ _ (Or.inr (by decide)), up2_at]
        · rw [up2_at]
        · rw [u2n (by omega), u2n (by omega)]; exact t5 x hx
    have hh : F.1 = 0 → sort = 0 → J10 45 0 = D.1 0 ∧ J10 44 12 = D.2.1 ∧ J10 45 3 = D.1 3 ∧ J10 44 13 = D.2.2 := fun z s => by
      obtain ⟨⟨⟨a, _, _, b, _⟩, _⟩, c, d⟩ := (t4 z).1 s
      exact ⟨a, c, b, d⟩
    unfold v_X5_read_93 v_X5_read_121
    refine ⟨fun c1 => k126 1 (fun z s => ?_), fun c1 => ⟨fun c2 => k126 0 (fun z s => ?_), fun c2 => k126 1 (fun z s => ?_)⟩⟩
    · obtain ⟨e1, e2, e3, e4⟩ := hh z s
      change J10 45 0 ≤ J10 44 12 at c1
      rw [e1, e2] at c1
      exact ⟨fun h => absurd h (by decide), fun h => absurd (Or.inl c1) h⟩
    · obtain ⟨e1, e2, e3, e4⟩ := hh z s
      change ¬ J10 45 0 ≤ J10 44 12 at c1
      change J10 44 13 < J10 45 3 at c2
      rw [e1, e2] at c1
      rw [e3, e4] at c2
      exact ⟨fun _ h => h.elim c1 (by omega), fun _ => rfl⟩
    · obtain ⟨e1, e2, e3, e4⟩ := hh z s
      change ¬ J10 44 13 < J10 45 3 at c2
      rw [e3, e4] at c2
      exact ⟨fun h => absurd h (by decide), fun h => absurd (Or.inr (by omega)) h⟩
  unfold v_X5_read_59
  intro ZZ hZ
  refine lpN (S := fun i => ∀ (J1 : mJ) (st : St), CS J J1 B N sort st → StV B N sort st → itF B N sort (N + 1 - i) st = stE B N sort → ZZ J1 (i : Int)) (N := N + 1) (fun i hi ih J1 st s1 v1 e1 => hZ _ _ ?_) (fun J1 st s1 v1 e1 => hZ _ _ ?_) J9 _ s9 (st0_V B N sort) rfl
  · rw [show N + 1 - i = (N + 1 - (i + 1)) + 1 by omega, itF] at e1
    rw [s1.2.2.1.2.2, s1.1.2.1, s1.2.1.1]
    refine ⟨fun c1 => by omega, fun _ => ⟨fun c1 => ?_, fun c1 => ⟨fun c2 => ?_, fun c2 => ?_⟩⟩⟩
    · rw [if_pos (Or.inl (by omega))] at e1
      rw [← e1] at fin; exact fin J1 s1
    · rw [if_pos (Or.inr c2)] at e1
      rw [← e1] at fin; exact fin J1 s1
    · rw [if_neg (fun h => h.elim (fun h => c1 (by omega)) c2)] at e1
      refine x_readLine hsi s1 v1 c2 (fun h => c1 (by omega)) (fun J2 s2 => ⟨⟨by omega, by omega⟩, ?_⟩)
      rintro _ rfl
      exact ih J2 _ s2 (line_V v1 c2 (fun h => c1 (by omega))).1 e1
  · rw [s1.2.2.1.2.2]
    rw [Nat.sub_self, itF] at e1
    rw [← e1] at fin
    exact ⟨fun _ => fin J1 s1, fun c1 => by omega⟩
