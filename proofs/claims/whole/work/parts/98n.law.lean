/-! the law's 25 cases -/
def Inv (n : Nat) (K : mK) (R : mR) (J : mJ) : Prop := isX11 K R ∧ isX12 K R 128 ∧ TI J 1 (J 129) ∧ InvE J ∧ InvR J ∧ UV (J 128) ∧ RWw R ∧ (K 92 = (15, 24) ∧ K 93 = (15, 24)) ∧ ImI K R J n ∧ 151 ≤ n
theorem ImI_frame {K : mK} {R : mR} {J J1 : mJ} {n : Nat} (h : ImI K R J n) (h0 : J1 130 = J 130) (h1 : ∀ j, 990 ≤ j → J1 129 j = J 129 j) (h2 : ∀ c, 151 ≤ c → J1 c = J c) : ImI K R J1 n := by
  refine ⟨fun k hk => ?_, h.2⟩
  rw [h0]
  rcases h.1 k hk with c | ⟨c, t, t1, t2, t3, t4, t5⟩
  · exact Or.inl c
  · refine Or.inr ⟨c, t, t1, t2, t3, t4, ?_⟩
    exact TI_cong (fun j hj => h1 _ (by omega)) (TI_frame (fun i hi => h2 _ (by omega)) t5)
theorem Inv_X {n : Nat} {K : mK} {R : mR} {J J1 : mJ} (h : Inv n K R J) (f : XG J J1) (e : InvE J1) (r : InvR J1) : Inv n K R J1 := by
  obtain ⟨i1, i2, i3, i4, i5, i6, i7, i8, i9, i10⟩ := h
  have e129 := f 129 (by decide)
  have e128 := f 128 (by decide)
  refine ⟨i1, i2, ?_, e, r, by rw [e128]; exact i6, i7, i8, ImI_frame i9 (f 130 (by decide)) (fun j _ => by rw [e129]) (fun c hc => f c (by omega)), i10⟩
  rw [e129]; exact TI_frame (fun k hk => f _ (by omega)) i3
theorem Inv_M {n : Nat} {K : mK} {R : mR} {J J1 : mJ} (h : Inv n K R J) (f : MF J J1) : Inv n K R J1 := by
  obtain ⟨i1, i2, i3, i4, i5, i6, i7, i8, i9, i10⟩ := h
  have e129 := f.1 129 (by decide)
  refine ⟨i1, i2, ?_, ?_, ?_, f.2, i7, i8, ImI_frame i9 (f.1 130 (by decide)) (fun j _ => by rw [e129]) (fun c hc => f.1 c (by omega)), i10⟩
  · rw [e129]; exact TI_frame (fun k hk => f.1 _ (by omega)) i3
  · have : InvEA J1 (J1 129) := InvEA_of i4 (by rw [e129]) (fun k _ => by rw [e129]) (fun c x y => f.1 c (by omega))
    exact this
  · exact InvR_frame (f.1 70 (by decide)) (f.1 71 (by decide)) (fun k _ => by rw [e129]) i5
theorem Inv_XF {J J1 : mJ} (r : InvR J) (f : XF J J1) : InvR J1 := InvR_frame (f 70 (by decide)) (f 71 (by decide)) (fun k _ => by rw [f 129 (by decide)]) r
theorem Inv_K {n : Nat} {K K1 : mK} {R : mR} {J : mJ} (h : Inv n K R J) (hk : KX K R K1) : Inv n K1 R J := by
  obtain ⟨i1, i2, i3, i4, i5, i6, i7, i8, i9, i10⟩ := h
  refine ⟨hk.2, isO_fr (m := 23) (by decide) (fun c x y => hk.1 c (by omega)) rfl (by decide) i2, i3, i4, i5, i6, i7, ⟨by rw [hk.1 92 (by decide)]; exact i8.1, by rw [hk.1 93 (by decide)]; exact i8.2⟩, ⟨fun k hk3 => ?_, i9.2⟩, i10⟩
  rcases i9.1 k hk3 with c | ⟨c, t, t1, t2, t3, t4, t5⟩
  · exact Or.inl c
  · exact Or.inr ⟨c, t, t1, t2, t3, isX8_fr (fun c x y => ⟨hk.1 c (by omega), rfl⟩) t4, t5⟩
abbrev VV (w : Int32) (Ls : Nat) : Prop := vp_in (w + 1) Ls ∧ vp_in (w + 2) Ls ∧ vp_in (w + 3) Ls ∧ vp_in (w + 4) Ls ∧ vp_in (w + 5) Ls ∧ vp_in (w + 6) Ls ∧ vp_in (w + 7) Ls
theorem cL5 {xs : Nat → Int32} {Ls : Nat} {kk : Nat → mK → mR → mI → mL → Prop} {n : Nat} {K : mK} {R : mR} {J : mJ} {L : mL} {w : Int32} (hJ : irm J) (hI : Inv n K R J) (hv : VV w Ls) (hk : ∀ (n : Nat) (K : mK) (R : mR) (J : mJ) (L : mL), irm J → Inv n K R J → kk n K R (zz J) L) : w_L_5 xs Ls kk n K R (zz J) L w := by
  unfold w_L_5
  generalize xs ((w + 1).toNatClampNeg) = x1
  generalize xs ((w + 2).toNatClampNeg) = x2
  generalize xs ((w + 3).toNatClampNeg) = x3
  obtain ⟨v1, v2, v3, v4, v5, v6, v7⟩ := hv
  have hi := hI
  obtain ⟨i1, i2, i3, i4, i5, i6, i7, i8, i9, i10⟩ := hI
  refine ⟨v1, v2, v3, i1, i2, vw_X11_person hJ (z_num _) (ir_toInt _) (z_num _) (ir_toInt _) (z_num _) (ir_toInt _) (post' := fun r J1 => r = aPerson (J 129) x1.toInt x2.toInt x3.toInt ∧ XG J J1 ∧ InvE J1 ∧ InvR J1) (fun x r J1 ex _ hJ1 hp => ?_) (x_person i3 i4  (fun J1 f e => ⟨rfl, XF_XG f, e, Inv_XF i5 f⟩))⟩
  obtain ⟨er, f, e, rr⟩ := hp
  intro K9 hK9
  have hI1 := Inv_K (Inv_X hi f e rr) hK9
  refine ⟨v1, v2, v3, hI1.2.1, vw_X12_person hJ1 (z_num _) (ir_toInt _) (z_num _) (ir_toInt _) (z_num _) (ir_toInt _) (post' := fun r2 J2 => r2 = aPerson (J1 129) x1.toInt x2.toInt x3.toInt ∧ MF J1 J2) (fun y r2 J2 ey _ hJ2 hp2 => ?_) (m_person (t := 1) hI1.2.2.1 hI1.2.2.2.2.2.1  (fun J2 f2 => ⟨rfl, f2⟩))⟩
  obtain ⟨er2, f2⟩ := hp2
  refine ⟨fun _ => hk _ _ _ _ _ hJ2 (Inv_M hI1 f2), fun c => c ?_⟩
  rw [ex, ey, er, er2, f 129 (by decide)]
theorem cL6 {xs : Nat → Int32} {Ls : Nat} {kk : Nat → mK → mR → mI → mL → Prop} {n : Nat} {K : mK} {R : mR} {J : mJ} {L : mL} {w : Int32} (hJ : irm J) (hI : Inv n K R J) (hv : VV w Ls) (hk : ∀ (n : Nat) (K : mK) (R : mR) (J : mJ) (L : mL), irm J → Inv n K R J → kk n K R (zz J) L) : w_L_6 xs Ls kk n K R (zz J) L w := by
  unfold w_L_6
  generalize xs ((w + 1).toNatClampNeg) = x1
  generalize xs ((w + 2).toNatClampNeg) = x2
  generalize xs ((w + 3).toNatClampNeg) = x3
  obtain ⟨v1, v2, v3, v4, v5, v6, v7⟩ := hv
  have hi := hI
  obtain ⟨i1, i2, i3, i4, i5, i6, i7, i8, i9, i10⟩ := hI
  refine ⟨v1, v2, v3, i1, i2, vw_X11_tread hJ (z_num _) (ir_toInt _) (z_num _) (ir_toInt _) (z_num _) (ir_toInt _) (post' := fun r J1 => r = aTread (J 129) x1.toInt x2.toInt x3.toInt ∧ XG J J1 ∧ InvE J1 ∧ InvR J1) (fun x r J1 ex _ hJ1 hp => ?_) (x_tread i3 i4  (fun J1 f e => ⟨rfl, XF_XG f, e, Inv_XF i5 f⟩))⟩
  obtain ⟨er, f, e, rr⟩ := hp
  intro K9 hK9
  have hI1 := Inv_K (Inv_X hi f e rr) hK9
  refine ⟨v1, v2, v3, hI1.2.1, vw_X12_tread hJ1 (z_num _) (ir_toInt _) (z_num _) (ir_toInt _) (z_num _) (ir_toInt _) (post' := fun r2 J2 => r2 = aTread (J1 129) x1.toInt x2.toInt x3.toInt ∧ MF J1 J2) (fun y r2 J2 ey _ hJ2 hp2 => ?_) (m_tread (t := 1) hI1.2.2.1 hI1.2.2.2.2.2.1  (fun J2 f2 => ⟨rfl, f2⟩))⟩
  obtain ⟨er2, f2⟩ := hp2
  refine ⟨fun _ => hk _ _ _ _ _ hJ2 (Inv_M hI1 f2), fun c => c ?_⟩
  rw [ex, ey, er, er2, f 129 (by decide)]
theorem cL7 {xs : Nat → Int32} {Ls : Nat} {kk : Nat → mK → mR → mI → mL → Prop} {n : Nat} {K : mK} {R : mR} {J : mJ} {L : mL} {w : Int32} (hJ : irm J) (hI : Inv n K R J) (hv : VV w Ls) (hk : ∀ (n : Nat) (K : mK) (R : mR) (J : mJ) (L : mL), irm J → Inv n K R J → kk n K R (zz J) L) : w_L_7 xs Ls kk n K R (zz J) L w := by
  unfold w_L_7
  generalize xs ((w + 1).toNatClampNeg) = x1
  generalize xs ((w + 2).toNatClampNeg) = x2
  generalize xs ((w + 3).toNatClampNeg) = x3
  obtain ⟨v1, v2, v3, v4, v5, v6, v7⟩ := hv
  have hi := hI
  obtain ⟨i1, i2, i3, i4, i5, i6, i7, i8, i9, i10⟩ := hI
  refine ⟨v1, v2, v3, i1, i2, vw_X11_where hJ (z_num _) (ir_toInt _) (z_num _) (ir_toInt _) (z_num _) (ir_toInt _) (post' := fun r J1 => r = aWhere (J 129) x1.toInt x2.toInt x3.toInt ∧ XG J J1 ∧ InvE J1 ∧ InvR J1) (fun x r J1 ex _ hJ1 hp => ?_) (x_where i3 i4  (fun J1 f e => ⟨rfl, XF_XG f, e, Inv_XF i5 f⟩))⟩
  obtain ⟨er, f, e, rr⟩ := hp
  intro K9 hK9
  have hI1 := Inv_K (Inv_X hi f e rr) hK9
  refine ⟨v1, v2, v3, hI1.2.1, vw_X12_where hJ1 (z_num _) (ir_toInt _) (z_num _) (ir_toInt _) (z_num _) (ir_toInt _) (post' := fun r2 J2 => r2 = aWhere (J1 129) x1.toInt x2.toInt x3.toInt ∧ MF J1 J2) (fun y r2 J2 ey _ hJ2 hp2 => ?_) (m_where (t := 1) hI1.2.2.1 hI1.2.2.2.2.2.1  (fun J2 f2 => ⟨rfl, f2⟩))⟩
  obtain ⟨er2, f2⟩ := hp2
  refine ⟨fun _ => hk _ _ _ _ _ hJ2 (Inv_M hI1 f2), fun c => c ?_⟩
  rw [ex, ey, er, er2, f 129 (by decide)]
theorem cL8 {xs : Nat → Int32} {Ls : Nat} {kk : Nat → mK → mR → mI → mL → Prop} {n : Nat} {K : mK} {R : mR} {J : mJ} {L : mL} {w : Int32} (hJ : irm J) (hI : Inv n K R J) (hv : VV w Ls) (hk : ∀ (n : Nat) (K : mK) (R : mR) (J : mJ) (L : mL), irm J → Inv n K R J → kk n K R (zz J) L) : w_L_8 xs Ls kk n K R (zz J) L w := by
  unfold w_L_8
  generalize xs ((w + 1).toNatClampNeg) = x1
  generalize xs ((w + 2).toNatClampNeg) = x2
  generalize xs ((w + 3).toNatClampNeg) = x3
  generalize xs ((w + 4).toNatClampNeg) = x4
  obtain ⟨v1, v2, v3, v4, v5, v6, v7⟩ := hv
  have hi := hI
  obtain ⟨i1, i2, i3, i4, i5, i6, i7, i8, i9, i10⟩ := hI
  refine ⟨v1, v2, v3, v4, i1, i2, vw_X11_note hJ (z_num _) (ir_toInt _) (z_num _) (ir_toInt _) (z_num _) (ir_toInt _) (z_num _) (ir_toInt _) (post' := fun r J1 => r = aNote (J 129) x1.toInt x2.toInt x3.toInt x4.toInt ∧ XG J J1 ∧ InvE J1 ∧ InvR J1) (fun x r J1 ex _ hJ1 hp => ?_) (x_note i3 i4  (fun J1 f e => ⟨rfl, XF_XG f, e, Inv_XF i5 f⟩))⟩
  obtain ⟨er, f, e, rr⟩ := hp
  intro K9 hK9
  have hI1 := Inv_K (Inv_X hi f e rr) hK9
  refine ⟨v1, v2, v3, v4, hI1.2.1, vw_X12_note hJ1 (z_num _) (ir_toInt _) (z_num _) (ir_toInt _) (z_num _) (ir_toInt _) (z_num _) (ir_toInt _) (post' := fun r2 J2 => r2 = aNote (J1 129) x1.toInt x2.toInt x3.toInt x4.toInt ∧ MF J1 J2) (fun y r2 J2 ey _ hJ2 hp2 => ?_) (m_note (t := 1) hI1.2.2.1 hI1.2.2.2.2.2.1  (fun J2 f2 => ⟨rfl, f2⟩))⟩
  obtain ⟨er2, f2⟩ := hp2
  refine ⟨fun _ => hk _ _ _ _ _ hJ2 (Inv_M hI1 f2), fun c => c ?_⟩
  rw [ex, ey, er, er2, f 129 (by decide)]
theorem cL9 {xs : Nat → Int32} {Ls : Nat} {kk : Nat → mK → mR → mI → mL → Prop} {n : Nat} {K : mK} {R : mR} {J : mJ} {L : mL} {w : Int32} (hJ : irm J) (hI : Inv n K R J) (hv : VV w Ls) (hk : ∀ (n : Nat) (K : mK) (R : mR) (J : mJ) (L : mL), irm J → Inv n K R J → kk n K R (zz J) L) : w_L_9 xs Ls kk n K R (zz J) L w := by
  unfold w_L_9
  generalize xs ((w + 1).toNatClampNeg) = x1
  generalize xs ((w + 2).toNatClampNeg) = x2
  obtain ⟨v1, v2, v3, v4, v5, v6, v7⟩ := hv
  have hi := hI
  obtain ⟨i1, i2, i3, i4, i5, i6, i7, i8, i9, i10⟩ := hI
  refine ⟨v1, v2, i1, i2, vw_X11_ends hJ (z_num _) (ir_toInt _) (z_num _) (ir_toInt _) (post' := fun r J1 => r = aEnds (J 129) x1.toInt x2.toInt ∧ XG J J1 ∧ InvE J1 ∧ InvR J1) (fun x r J1 ex _ hJ1 hp => ?_) (x_ends i3 i4  (fun J1 f e => ⟨rfl, XF_XG f, e, Inv_XF i5 f⟩))⟩
  obtain ⟨er, f, e, rr⟩ := hp
  intro K9 hK9
  have hI1 := Inv_K (Inv_X hi f e rr) hK9
  refine ⟨v1, v2, hI1.2.1, vw_X12_ends_ hJ1 (z_num _) (ir_toInt _) (z_num _) (ir_toInt _) (post' := fun r2 J2 => r2 = aEnds (J1 129) x1.toInt x2.toInt ∧ MF J1 J2) (fun y r2 J2 ey _ hJ2 hp2 => ?_) (m_ends (t := 1) hI1.2.2.1 hI1.2.2.2.2.2.1  (fun J2 f2 => ⟨rfl, f2⟩))⟩
  obtain ⟨er2, f2⟩ := hp2
  refine ⟨fun _ => hk _ _ _ _ _ hJ2 (Inv_M hI1 f2), fun c => c ?_⟩
  rw [ex, ey, er, er2, f 129 (by decide)]
theorem cL13 {xs : Nat → Int32} {Ls : Nat} {kk : Nat → mK → mR → mI → mL → Prop} {n : Nat} {K : mK} {R : mR} {J : mJ} {L : mL} {w : Int32} (hJ : irm J) (hI : Inv n K R J) (hv : VV w Ls) (hk : ∀ (n : Nat) (K : mK) (R : mR) (J : mJ) (L : mL), irm J → Inv n K R J → kk n K R (zz J) L) : w_L_13 xs Ls kk n K R (zz J) L w := by
  unfold w_L_13
  generalize xs ((w + 1).toNatClampNeg) = x1
  generalize xs ((w + 2).toNatClampNeg) = x2
  generalize xs ((w + 3).toNatClampNeg) = x3
  obtain ⟨v1, v2, v3, v4, v5, v6, v7⟩ := hv
  have hi := hI
  obtain ⟨i1, i2, i3, i4, i5, i6, i7, i8, i9, i10⟩ := hI
  refine ⟨v1, v2, v3, i1, i2, vw_X11_worth hJ (z_num _) (ir_toInt _) (z_num _) (ir_toInt _) (z_num _) (ir_toInt _) (post' := fun r J1 => r = aWorth (J 129) x1.toInt x2.toInt x3.toInt ∧ XG J J1 ∧ InvE J1 ∧ InvR J1) (fun x r J1 ex _ hJ1 hp => ?_) (x_worth i3 i4  (fun J1 f e => ⟨rfl, XF_XG f, e, Inv_XF i5 f⟩))⟩
  obtain ⟨er, f, e, rr⟩ := hp
  intro K9 hK9
  have hI1 := Inv_K (Inv_X hi f e rr) hK9
  refine ⟨v1, v2, v3, hI1.2.1, vw_X12_worth hJ1 (z_num _) (ir_toInt _) (z_num _) (ir_toInt _) (z_num _) (ir_toInt _) (post' := fun r2 J2 => r2 = aWorth (J1 129) x1.toInt x2.toInt x3.toInt ∧ MF J1 J2) (fun y r2 J2 ey _ hJ2 hp2 => ?_) (m_worth (t := 1) hI1.2.2.1 hI1.2.2.2.2.2.1  (fun J2 f2 => ⟨rfl, f2⟩))⟩
  obtain ⟨er2, f2⟩ := hp2
  refine ⟨fun _ => hk _ _ _ _ _ hJ2 (Inv_M hI1 f2), fun c => c ?_⟩
  rw [ex, ey, er, er2, f 129 (by decide)]
theorem cL19 {xs : Nat → Int32} {Ls : Nat} {kk : Nat → mK → mR → mI → mL → Prop} {n : Nat} {K : mK} {R : mR} {J : mJ} {L : mL} {w : Int32} (hJ : irm J) (hI : Inv n K R J) (hv : VV w Ls) (hk : ∀ (n : Nat) (K : mK) (R : mR) (J : mJ) (L : mL), irm J → Inv n K R J → kk n K R (zz J) L) : w_L_19 xs Ls kk n K R (zz J) L w := by
  unfold w_L_19
  generalize xs ((w + 1).toNatClampNeg) = x1
  generalize xs ((w + 2).toNatClampNeg) = x2
  obtain ⟨v1, v2, v3, v4, v5, v6, v7⟩ := hv
  have hi := hI
  obtain ⟨i1, i2, i3, i4, i5, i6, i7, i8, i9, i10⟩ := hI
  refine ⟨v1, v2, i1, i2, vw_X11_ring hJ (z_num _) (ir_toInt _) (z_num _) (ir_toInt _) (post' := fun r J1 => r = aRing (J 129) x1.toInt x2.toInt ∧ XG J J1 ∧ InvE J1 ∧ InvR J1) (fun x r J1 ex _ hJ1 hp => ?_) (x_ring i3 i4  (fun J1 f e => ⟨rfl, XF_XG f, e, Inv_XF i5 f⟩))⟩
  obtain ⟨er, f, e, rr⟩ := hp
  intro K9 hK9
  have hI1 := Inv_K (Inv_X hi f e rr) hK9
  refine ⟨v1, v2, hI1.2.1, vw_X12_ring hJ1 (z_num _) (ir_toInt _) (z_num _) (ir_toInt _) (post' := fun r2 J2 => r2 = aRing (J1 129) x1.toInt x2.toInt ∧ MF J1 J2) (fun y r2 J2 ey _ hJ2 hp2 => ?_) (m_ring (t := 1) hI1.2.2.1 hI1.2.2.2.2.2.1  (fun J2 f2 => ⟨rfl, f2⟩))⟩
  obtain ⟨er2, f2⟩ := hp2
  refine ⟨fun _ => hk _ _ _ _ _ hJ2 (Inv_M hI1 f2), fun c => c ?_⟩
  rw [ex, ey, er, er2, f 129 (by decide)]
theorem cL21 {xs : Nat → Int32} {Ls : Nat} {kk : Nat → mK → mR → mI → mL → Prop} {n : Nat} {K : mK} {R : mR} {J : mJ} {L : mL} {w : Int32} (hJ : irm J) (hI : Inv n K R J) (hv : VV w Ls) (hk : ∀ (n : Nat) (K : mK) (R : mR) (J : mJ) (L : mL), irm J → Inv n K R J → kk n K R (zz J) L) : w_L_21 xs Ls kk n K R (zz J) L w := by
  unfold w_L_21
  generalize xs ((w + 1).toNatClampNeg) = x1
  generalize xs ((w + 2).toNatClampNeg) = x2
  obtain ⟨v1, v2, v3, v4, v5, v6, v7⟩ := hv
  have hi := hI
  obtain ⟨i1, i2, i3, i4, i5, i6, i7, i8, i9, i10⟩ := hI
  refine ⟨v1, v2, i1, i2, vw_X11_look hJ (z_num _) (ir_toInt _) (z_num _) (ir_toInt _) (post' := fun r J1 => r = aLook (J 129) x1.toInt x2.toInt ∧ XG J J1 ∧ InvE J1 ∧ InvR J1) (fun x r J1 ex _ hJ1 hp => ?_) (x_look i3 i4 (ir_toInt x2) (fun J1 f e => ⟨rfl, XF_XG f, e, Inv_XF i5 f⟩))⟩
  obtain ⟨er, f, e, rr⟩ := hp
  intro K9 hK9
  have hI1 := Inv_K (Inv_X hi f e rr) hK9
  refine ⟨v1, v2, hI1.2.1, vw_X12_look hJ1 (z_num _) (ir_toInt _) (z_num _) (ir_toInt _) (post' := fun r2 J2 => r2 = aLook (J1 129) x1.toInt x2.toInt ∧ MF J1 J2) (fun y r2 J2 ey _ hJ2 hp2 => ?_) (m_look (t := 1) hI1.2.2.1 hI1.2.2.2.2.2.1 (ir_toInt x2) (fun J2 f2 => ⟨rfl, f2⟩))⟩
  obtain ⟨er2, f2⟩ := hp2
  refine ⟨fun _ => hk _ _ _ _ _ hJ2 (Inv_M hI1 f2), fun c => c ?_⟩
  rw [ex, ey, er, er2, f 129 (by decide)]
theorem cL18 {xs : Nat → Int32} {Ls : Nat} {kk : Nat → mK → mR → mI → mL → Prop} {n : Nat} {K : mK} {R : mR} {J : mJ} {L : mL} {w : Int32} (hJ : irm J) (hI : Inv n K R J) (hv : VV w Ls) (hk : ∀ (n : Nat) (K : mK) (R : mR) (J : mJ) (L : mL), irm J → Inv n K R J → kk n K R (zz J) L) : w_L_18 xs Ls kk n K R (zz J) L w := by
  unfold w_L_18
  generalize xs ((w + 1).toNatClampNeg) = x1
  generalize xs ((w + 2).toNatClampNeg) = x2
  generalize xs ((w + 3).toNatClampNeg) = x3
  generalize xs ((w + 4).toNatClampNeg) = x4
  obtain ⟨v1, v2, v3, v4, v5, v6, v7⟩ := hv
  have hi := hI
  obtain ⟨i1, i2, i3, i4, i5, i6, i7, i8, i9, i10⟩ := hI
  refine ⟨v1, v2, v3, v4, i1, i2, vw_X11_drawn hJ (z_num _) (ir_toInt _) (z_num _) (ir_toInt _) (z_num _) (ir_toInt _) (z_num _) (ir_toInt _) (post' := fun r J1 => r = aDrawn (J 129) x1.toInt x2.toInt x3.toInt x4.toInt ∧ XG J J1 ∧ InvE J1 ∧ InvR J1) (fun x r J1 ex _ hJ1 hp => ?_) (x_drawn i3 i4 (ir_toInt x4) (fun J1 f e => ⟨rfl, XF_XG f, e, Inv_XF i5 f⟩))⟩
  obtain ⟨er, f, e, rr⟩ := hp
  intro K9 hK9
  have hI1 := Inv_K (Inv_X hi f e rr) hK9
  refine ⟨v1, v2, v3, v4, hI1.2.1, vw_X12_drawn hJ1 (z_num _) (ir_toInt _) (z_num _) (ir_toInt _) (z_num _) (ir_toInt _) (z_num _) (ir_toInt _) (post' := fun r2 J2 => r2 = aDrawn (J1 129) x1.toInt x2.toInt x3.toInt x4.toInt ∧ MF J1 J2) (fun y r2 J2 ey _ hJ2 hp2 => ?_) (m_drawn (t := 1) hI1.2.2.1 hI1.2.2.2.2.2.1 (ir_toInt x4) (fun J2 f2 => ⟨rfl, f2⟩))⟩
  obtain ⟨er2, f2⟩ := hp2
  refine ⟨fun _ => hk _ _ _ _ _ hJ2 (Inv_M hI1 f2), fun c => c ?_⟩
  rw [ex, ey, er, er2, f 129 (by decide)]
theorem cL10 {xs : Nat → Int32} {Ls : Nat} {kk : Nat → mK → mR → mI → mL → Prop} {n : Nat} {K : mK} {R : mR} {J : mJ} {L : mL} {w : Int32} (hJ : irm J) (hI : Inv n K R J) (hv : VV w Ls) (hk : ∀ (n : Nat) (K : mK) (R : mR) (J : mJ) (L : mL), irm J → Inv n K R J → kk n K R (zz J) L) : w_L_10 xs Ls kk n K R (zz J) L w := by
  unfold w_L_10
  generalize xs ((w + 1).toNatClampNeg) = x1
  generalize xs ((w + 2).toNatClampNeg) = x2
  generalize xs ((w + 3).toNatClampNeg) = x3
  generalize xs ((w + 4).toNatClampNeg) = x4
  generalize xs ((w + 5).toNatClampNeg) = x5
  generalize xs ((w + 6).toNatClampNeg) = x6
  generalize xs ((w + 7).toNatClampNeg) = x7
  obtain ⟨v1, v2, v3, v4, v5, v6, v7⟩ := hv
  have hi := hI
  obtain ⟨i1, i2, i3, i4, i5, i6, i7, i8, i9, i10⟩ := hI
  refine ⟨v1, v2, v3, v4, v5, v6, v7, i1, i2, vw_X11_home hJ (z_num _) (ir_toInt _) (z_num _) (ir_toInt _) (z_num _) (ir_toInt _) (z_num _) (ir_toInt _) (z_num _) (ir_toInt _) (z_num _) (ir_toInt _) (z_num _) (ir_toInt _) (post' := fun r J1 => r = aHome (J 129) x1.toInt x2.toInt x3.toInt x4.toInt x5.toInt x6.toInt x7.toInt ∧ XG J J1 ∧ InvE J1 ∧ InvR J1) (fun x r J1 ex _ hJ1 hp => ?_) (x_home i3 i4 i5 (ir_toInt x6) (ir_toInt x7) (fun J1 f e r => ⟨rfl, f, e, r⟩))⟩
  obtain ⟨er, f, e, rr⟩ := hp
  intro K9 hK9
  have hI1 := Inv_K (Inv_X hi f e rr) hK9
  refine ⟨v1, v2, v3, v4, v5, v6, v7, hI1.2.1, vw_X12_home hJ1 (z_num _) (ir_toInt _) (z_num _) (ir_toInt _) (z_num _) (ir_toInt _) (z_num _) (ir_toInt _) (z_num _) (ir_toInt _) (z_num _) (ir_toInt _) (z_num _) (ir_toInt _) (post' := fun r2 J2 => r2 = aHome (J1 129) x1.toInt x2.toInt x3.toInt x4.toInt x5.toInt x6.toInt x7.toInt ∧ MF J1 J2) (fun y r2 J2 ey _ hJ2 hp2 => ?_) (m_home (t := 1) hI1.2.2.1 hI1.2.2.2.2.2.1  (fun J2 f2 => ⟨rfl, f2⟩))⟩
  obtain ⟨er2, f2⟩ := hp2
  refine ⟨fun _ => hk _ _ _ _ _ hJ2 (Inv_M hI1 f2), fun c => c ?_⟩
  rw [ex, ey, er, er2, f 129 (by decide)]
theorem cL11 {xs : Nat → Int32} {Ls : Nat} {kk : Nat → mK → mR → mI → mL → Prop} {n : Nat} {K : mK} {R : mR} {J : mJ} {L : mL} {w : Int32} (hJ : irm J) (hI : Inv n K R J) (hv : VV w Ls) (hk : ∀ (n : Nat) (K : mK) (R : mR) (J : mJ) (L : mL), irm J → Inv n K R J → kk n K R (zz J) L) : w_L_11 xs Ls kk n K R (zz J) L w := by
  unfold w_L_11
  generalize xs ((w + 1).toNatClampNeg) = x1
  generalize xs ((w + 2).toNatClampNeg) = x2
  generalize xs ((w + 3).toNatClampNeg) = x3
  generalize xs ((w + 4).toNatClampNeg) = x4
  generalize xs ((w + 5).toNatClampNeg) = x5
  generalize xs ((w + 6).toNatClampNeg) = x6
  obtain ⟨v1, v2, v3, v4, v5, v6, v7⟩ := hv
  have hi := hI
  obtain ⟨i1, i2, i3, i4, i5, i6, i7, i8, i9, i10⟩ := hI
  refine ⟨v1, v2, v3, v4, v5, v6, i1, i2, vw_X11_thief hJ (z_num _) (ir_toInt _) (z_num _) (ir_toInt _) (z_num _) (ir_toInt _) (z_num _) (ir_toInt _) (z_num _) (ir_toInt _) (z_num _) (ir_toInt _) (post' := fun r J1 => r = aThief (J 129) x1.toInt x2.toInt x3.toInt x4.toInt x5.toInt x6.toInt ∧ XG J J1 ∧ InvE J1 ∧ InvR J1) (fun x r J1 ex _ hJ1 hp => ?_) (x_thief i3 i4 i5 (ir_toInt x6) (fun J1 f e r => ⟨rfl, f, e, r⟩))⟩
  obtain ⟨er, f, e, rr⟩ := hp
  intro K9 hK9
  have hI1 := Inv_K (Inv_X hi f e rr) hK9
  refine ⟨v1, v2, v3, v4, v5, v6, hI1.2.1, vw_X12_thief hJ1 (z_num _) (ir_toInt _) (z_num _) (ir_toInt _) (z_num _) (ir_toInt _) (z_num _) (ir_toInt _) (z_num _) (ir_toInt _) (z_num _) (ir_toInt _) (post' := fun r2 J2 => r2 = aThief (J1 129) x1.toInt x2.toInt x3.toInt x4.toInt x5.toInt x6.toInt ∧ MF J1 J2) (fun y r2 J2 ey _ hJ2 hp2 => ?_) (m_thief (t := 1) hI1.2.2.1 hI1.2.2.2.2.2.1  (fun J2 f2 => ⟨rfl, f2⟩))⟩
  obtain ⟨er2, f2⟩ := hp2
  refine ⟨fun _ => hk _ _ _ _ _ hJ2 (Inv_M hI1 f2), fun c => c ?_⟩
  rw [ex, ey, er, er2, f 129 (by decide)]
theorem cL20 {xs : Nat → Int32} {Ls : Nat} {kk : Nat → mK → mR → mI → mL → Prop} {n : Nat} {K : mK} {R : mR} {J : mJ} {L : mL} {w : Int32} (hJ : irm J) (hI : Inv n K R J) (hv : VV w Ls) (hk : ∀ (n : Nat) (K : mK) (R : mR) (J : mJ) (L : mL), irm J → Inv n K R J → kk n K R (zz J) L) : w_L_20 xs Ls kk n K R (zz J) L w := by
  unfold w_L_20
  generalize xs ((w + 1).toNatClampNeg) = x1
  generalize xs ((w + 2).toNatClampNeg) = x2
  generalize xs ((w + 3).toNatClampNeg) = x3
  generalize xs ((w + 4).toNatClampNeg) = x4
  obtain ⟨v1, v2, v3, v4, v5, v6, v7⟩ := hv
  have hi := hI
  obtain ⟨i1, i2, i3, i4, i5, i6, i7, i8, i9, i10⟩ := hI
  have go : ∀ (x4 : Int32), isX11 K R ∧ isX12 K R 128 ∧ w_X11_meet (zz J) x1 x2 x3 x4 (fun r80 I81 => ∀ K9, KX K R K9 → isX12 K9 R 128 ∧ w_X12_meet I81 128 x1 x2 x3 x4 (fun r82 I83 => (r80 = r82 → kk n K9 R I83 L) ∧ (¬ r80 = r82 → False))) := by
    intro x4
    refine ⟨i1, i2, vw_X11_meet hJ (z_num _) (ir_toInt _) (z_num _) (ir_toInt _) (z_num _) (ir_toInt _) (z_num _) (ir_toInt _) (post' := fun r J1 => r = aMeet (J 129) x1.toInt x2.toInt x3.toInt x4.toInt ∧ XG J J1 ∧ InvE J1 ∧ InvR J1) (fun x r J1 ex _ hJ1 hp => ?_) (x_meet i3 i4 (fun J1 f e => ⟨rfl, XF_XG f, e, Inv_XF i5 f⟩))⟩
    obtain ⟨er, f, e, rr⟩ := hp
    intro K9 hK9
    have hI1 := Inv_K (Inv_X hi f e rr) hK9
    refine ⟨hI1.2.1, vw_X12_meet hJ1 (z_num _) (ir_toInt _) (z_num _) (ir_toInt _) (z_num _) (ir_toInt _) (z_num _) (ir_toInt _) (post' := fun r2 J2 => r2 = aMeet (J1 129) x1.toInt x2.toInt x3.toInt x4.toInt ∧ MF J1 J2) (fun y r2 J2 ey _ hJ2 hp2 => ?_) (m_meet (t := 1) hI1.2.2.1 hI1.2.2.2.2.2.1 (fun J2 f2 => ⟨rfl, f2⟩))⟩
    obtain ⟨er2, f2⟩ := hp2
    refine ⟨fun _ => hk _ _ _ _ _ hJ2 (Inv_M hI1 f2), fun c => c ?_⟩
    rw [ex, ey, er, er2, f 129 (by decide)]
  by_cases c : x4 = 0
  · simp only [c, v1, v2, v3, v4, true_and, not_true_eq_false, true_implies, false_implies, and_true, implies_true]
    exact go 0
  · simp only [c, v1, v2, v3, v4, true_and, not_false_eq_true, true_implies, false_implies, and_true, implies_true]
    exact go 1
theorem cL12 {xs : Nat → Int32} {Ls : Nat} {kk : Nat → mK → mR → mI → mL → Prop} {n : Nat} {K : mK} {R : mR} {J : mJ} {L : mL} {w : Int32} (hJ : irm J) (hI : Inv n K R J) (hv : VV w Ls) (hk : ∀ (n : Nat) (K : mK) (R : mR) (J : mJ) (L : mL), irm J → Inv n K R J → kk n K R (zz J) L) : w_L_12 xs Ls kk n K R (zz J) L w := by
  unfold w_L_12
  generalize xs ((w + 1).toNatClampNeg) = x1
  generalize xs ((w + 2).toNatClampNeg) = x2
  obtain ⟨v1, v2, v3, v4, v5, v6, v7⟩ := hv
  have hi := hI
  obtain ⟨i1, i2, i3, i4, i5, i6, i7, i8, i9, i10⟩ := hI
  refine ⟨v1, v2, i1, i2, vw_X11_apart hJ (z_num _) (ir_toInt _) (z_num _) (ir_toInt _) (post' := fun r J1 => isApA (J 129) x1.toInt x2.toInt r ∧ XG J J1 ∧ InvE J1 ∧ InvR J1) (fun x r J1 ex _ hJ1 hp => ?_) (x_apart i3 i4 (ir_toInt x2) (fun r J1 q f e => ⟨q, XF_XG f, e, Inv_XF i5 f⟩))⟩
  obtain ⟨er, f, e, rr⟩ := hp
  intro K9 hK9
  have hI1 := Inv_K (Inv_X hi f e rr) hK9
  refine ⟨v1, v2, hI1.2.1, vw_X12_apart hJ1 (z_num _) (ir_toInt _) (z_num _) (ir_toInt _) (post' := fun r2 J2 => r2 = r ∧ MF J1 J2) (fun y r2 J2 ey _ hJ2 hp2 => ?_) (m_apart (t := 1) hI1.2.2.1 hI1.2.2.2.2.2.1 (ir_toInt x2) (by rw [f 129 (by decide)]; exact er) (fun J2 f2 => ⟨rfl, f2⟩))⟩
  obtain ⟨er2, f2⟩ := hp2
  refine ⟨fun _ => hk _ _ _ _ _ hJ2 (Inv_M hI1 f2), fun c => c ?_⟩
  rw [ex, ey, er2]
theorem cL17 {xs : Nat → Int32} {Ls : Nat} {kk : Nat → mK → mR → mI → mL → Prop} {n : Nat} {K : mK} {R : mR} {J : mJ} {L : mL} {w : Int32} (hJ : irm J) (hI : Inv n K R J) (hv : VV w Ls) (hk : ∀ (n : Nat) (K : mK) (R : mR) (J : mJ) (L : mL), irm J → Inv n K R J → kk n K R (zz J) L) : w_L_17 xs Ls kk n K R (zz J) L w := by
  unfold w_L_17
  generalize xs ((w + 1).toNatClampNeg) = x1
  generalize xs ((w + 2).toNatClampNeg) = x2
  generalize xs ((w + 3).toNatClampNeg) = x3
  generalize xs ((w + 4).toNatClampNeg) = x4
  obtain ⟨v1, v2, v3, v4, v5, v6, v7⟩ := hv
  have hi := hI
  obtain ⟨i1, i2, i3, i4, i5, i6, i7, i8, i9, i10⟩ := hI
  refine ⟨v1, v2, v3, v4, i1, vw_X11_spots hJ (z_num _) (ir_toInt _) (z_num _) (ir_toInt _) (z_num _) (ir_toInt _) (z_num _) (ir_toInt _) (post' := fun r J1 => isSp (J 129) x1.toInt x2.toInt x3.toInt x4.toInt r ∧ XG J J1 ∧ InvE J1 ∧ InvR J1) (fun x r J1 ex _ hJ1 hp => ?_) (x_spots i3 i4  (fun r J1 q f e => ⟨q, XF_XG f, e, Inv_XF i5 f⟩))⟩
  obtain ⟨er, f, e, rr⟩ := hp
  have hI1 := Inv_X hi f e rr
  refine ⟨v1, v2, v3, v4, hI1.2.1, vw_X12_spots hJ1 (z_num _) (ir_toInt _) (z_num _) (ir_toInt _) (z_num _) (ir_toInt _) (z_num _) (ir_toInt _) (post' := fun r2 J2 L2 => r2 = r ∧ MF J1 J2) (fun y r2 J2 L2 ey _ hJ2 hp2 => ?_) (m_spots (t := 1) hI1.2.2.1 hI1.2.2.2.2.2.1  (by rw [f 129 (by decide)]; exact er) (fun J2 L2 f2 => ⟨rfl, f2⟩))⟩
  obtain ⟨er2, f2⟩ := hp2
  refine ⟨fun _ => hk _ _ _ _ _ hJ2 (Inv_M hI1 f2), fun c => c ?_⟩
  rw [ex, ey, er2]
theorem isO_R {K : mK} {R R1 : mR} {o ci : Nat} {fl : List (Nat × Nat × Nat × Nat)} (h : ∀ (i : Nat) (q : Nat × Nat × Nat × Nat), fl[i]? = some q → R1 o q.1 = R o q.1) (hr : isO K R o ci fl) : isO K R1 o ci fl := ⟨hr.1, fun i q hq => by rw [h i q hq]; exact hr.2 i q hq⟩
theorem isO_Rn {K : mK} {R R1 : mR} {o ci : Nat} {fl : List (Nat × Nat × Nat × Nat)} (h : ∀ k, R1 o k = R o k) (hr : isO K R o ci fl) : isO K R1 o ci fl := isO_R (fun _ q _ => h q.1) hr
theorem isX8_Rn {K : mK} {R R1 : mR} {t : Nat} (h : ∀ c k, t ≤ c → c ≤ t + 41 → R1 c k = R c k) (hr : isX8 K R t) : isX8 K R1 t := by
  refine ⟨isO_Rn (fun k => h _ _ (by omega) (by omega)) hr.1, fun j hj => ?_⟩
  have := hr.2 j hj
  exact ⟨⟨by rw [h _ _ (by omega) (by omega)]; exact this.1.1, isO_Rn (fun k => h _ _ (by omega) (by omega)) this.1.2⟩, ⟨by rw [h _ _ (by omega) (by omega)]; exact this.2.1, isO_Rn (fun k => h _ _ (by omega) (by omega)) this.2.2⟩⟩
theorem isX11_tr {K : mK} {R R1 : mR} (h : ∀ c k, (c ≠ 89 ∨ k ≠ 4 ∧ k ≠ 5) → R1 c k = R c k) (hr : isX11 K R) : isX11 K R1 := by
  obtain ⟨a0, ⟨a1, b1⟩, ⟨a2, b2⟩, ⟨a3, b3⟩, ⟨a4, b4, c4⟩, ⟨a5, b5⟩, ⟨a6, b6⟩, ⟨a7, b7⟩, ⟨a8, b8⟩, ⟨a9, b9⟩, ⟨a10, b10⟩⟩ := hr
  have h0 : ∀ c k, c ≠ 89 → R1 c k = R c k := fun c k hc => h c k (Or.inl hc)
  have n0 : ∀ {c ci : Nat} {fl : List (Nat × Nat × Nat × Nat)}, c ≠ 89 → isO K R c ci fl → isO K R1 c ci fl := fun hc hh => isO_Rn (fun k => h0 _ _ hc) hh
  refine ⟨a0, ⟨by rw [h0 _ _ (by decide)]; exact a1, isX8_Rn (fun c k x y => h0 _ _ (by omega)) b1⟩, ⟨by rw [h0 _ _ (by decide)]; exact a2, b2⟩, ⟨by rw [h0 _ _ (by decide)]; exact a3, ?_⟩, ⟨by rw [h0 _ _ (by decide)]; exact a4, b4, fun j hj => ?_⟩, ⟨by rw [h0 _ _ (by decide)]; exact a5, n0 (by decide) b5⟩, ⟨by rw [h0 _ _ (by decide)]; exact a6, n0 (by decide) b6⟩, ⟨by rw [h0 _ _ (by decide)]; exact a7, n0 (by decide) b7⟩, ⟨by rw [h0 _ _ (by decide)]; exact a8, n0 (by decide) b8⟩, ⟨by rw [h0 _ _ (by decide)]; exact a9, n0 (by decide) b9⟩, ⟨by rw [h0 _ _ (by decide)]; exact a10, isO_R (fun i q hq => ?_) b10⟩⟩
  · obtain ⟨p1, ⟨p2, p3⟩, ⟨p4, p5⟩, p6, p7⟩ := b3
    exact ⟨n0 (by decide) p1, ⟨by rw [h0 _ _ (by decide)]; exact p2, n0 (by decide) p3⟩, ⟨by rw [h0 _ _ (by decide)]; exact p4, n0 (by decide) p5⟩, by rw [h0 _ _ (by decide)]; exact p6, p7⟩
  · have := c4 j hj
    refine ⟨by rw [h0 _ _ (by decide)]; exact this.1, ?_⟩
    rcases this.2 with q | q
    · exact Or.inl ⟨n0 (by omega) q.1, by rw [h0 _ _ (by omega)]; exact q.2.1, n0 (by omega) q.2.2⟩
    · exact Or.inr ⟨q.1, by rw [h0 _ _ (by omega)]; exact q.2.1, fun i x hx => by rw [h0 _ _ (by omega)]; exact q.2.2 i x hx⟩
  · refine h _ _ (Or.inr ?_)
    have hm : q ∈ fX10 := List.mem_of_getElem? hq
    simp only [fX10, List.mem_cons, List.not_mem_nil, or_false] at hm
    rcases hm with rfl | rfl <;> decide
theorem ImI_R {K : mK} {R R1 : mR} {J : mJ} {n : Nat} (h : ∀ c k, c ≠ 89 → R1 c k = R c k) (hr : ImI K R J n) : ImI K R1 J n := by
  have e : ∀ k, R1 43 k = R 43 k := fun k => h _ _ (by decide)
  refine ⟨fun k hk => ?_, fun k k' t t' a b c d f => hr.2 k k' t t' a b c (by rw [← e]; exact d) (by rw [← e]; exact f)⟩
  rw [e]
  rcases hr.1 k hk with c | ⟨c, t, t1, t2, t3, t4, t5⟩
  · exact Or.inl c
  · exact Or.inr ⟨c, t, t1, t2, t3, isX8_Rn (fun c k x y => h _ _ (by omega)) t4, t5⟩
theorem lg_cmp_self (x : Int64) : lg_cmp x x = 0 := by
  unfold lg_cmp
  rw [if_neg (fun h => Int64.lt_irrefl h), if_pos rfl]
theorem cL16 {xs : Nat → Int32} {Ls : Nat} {kk : Nat → mK → mR → mI → mL → Prop} {n : Nat} {K : mK} {R : mR} {J : mJ} {L : mL} {w : Int32} (hJ : irm J) (hI : Inv n K R J) (hv : VV w Ls) (hk : ∀ (n : Nat) (K : mK) (R : mR) (J : mJ) (L : mL), irm J → Inv n K R J → kk n K R (zz J) L) : w_L_16 xs Ls kk n K R (zz J) L w := by
  unfold w_L_16
  generalize xs ((w + 1).toNatClampNeg) = x1
  generalize xs ((w + 2).toNatClampNeg) = x2
  generalize xs ((w + 3).toNatClampNeg) = x3
  obtain ⟨v1, v2, v3, v4, v5, v6, v7⟩ := hv
  have hi := hI
  obtain ⟨i1, i2, i3, i4, i5, i6, i7, i8, i9, i10⟩ := hI
  refine ⟨v1, v2, v3, i1, vw_X11_track hJ (z_num _) (ir_toInt _) (z_num _) (ir_toInt _) (z_num _) (ir_toInt _) (post' := fun r R1 J1 L1 => isTr (J 129) x1.toInt x2.toInt x3.toInt r ∧ RWw R1 ∧ (∀ c k, (c ≠ 89 ∨ k ≠ 4 ∧ k ≠ 5) → R1 c k = R c k) ∧ XG J J1 ∧ InvE J1 ∧ InvR J1) (fun x r R1 J1 L1 ex hJ1 hp => ?_) (x_track i3 i4 i7 i8.1 i8.2 (fun r R1 J1 L1 q q2 q3 f e => ⟨q, q2, q3, XF_XG f, e, Inv_XF i5 f⟩))⟩
  obtain ⟨er, w1, w2, f, e, rr⟩ := hp
  have hI0 := Inv_X hi f e rr
  have hI1 : Inv n K R1 J1 := ⟨isX11_tr w2 hI0.1, isO_Rn (fun k => w2 _ _ (Or.inl (by decide))) hI0.2.1, hI0.2.2.1, hI0.2.2.2.1, hI0.2.2.2.2.1, hI0.2.2.2.2.2.1, w1, hI0.2.2.2.2.2.2.2.1, ImI_R (fun c k hc => w2 _ _ (Or.inl hc)) hI0.2.2.2.2.2.2.2.2.1, hI0.2.2.2.2.2.2.2.2.2⟩
  refine ⟨v1, v2, v3, hI1.2.1, vw_X12_track hJ1 (z_num _) (ir_toInt _) (z_num _) (ir_toInt _) (z_num _) (ir_toInt _) (post' := fun r2 J2 L2 => r2 = r ∧ MF J1 J2) (fun y r2 J2 L2 ey hJ2 hp2 => ?_) (m_track (t := 1) hI1.2.2.1 hI1.2.2.2.2.2.1 (by rw [f 129 (by decide)]; exact er) (fun J2 L2 f2 => ⟨rfl, f2⟩))⟩
  obtain ⟨er2, f2⟩ := hp2
  refine ⟨fun _ => hk _ _ _ _ _ hJ2 (Inv_M hI1 f2), fun c => c ?_⟩
  rw [ex, ey, er2]; exact lg_cmp_self r
theorem cL3 {xs : Nat → Int32} {Ls : Nat} {kk : Nat → mK → mR → mI → mL → Prop} {n : Nat} {K : mK} {R : mR} {J : mJ} {L : mL} {w : Int32} (hJ : irm J) (hI : Inv n K R J) (hv : VV w Ls) (hk : ∀ (n : Nat) (K : mK) (R : mR) (J : mJ) (L : mL), irm J → Inv n K R J → kk n K R (zz J) L) : w_L_3 xs Ls kk n K R (zz J) L w := by
  unfold w_L_3
  generalize xs ((w + 1).toNatClampNeg) = x1
  obtain ⟨v1, v2, v3, v4, v5, v6, v7⟩ := hv
  have hi := hI
  obtain ⟨i1, i2, i3, i4, i5, i6, i7, i8, i9, i10⟩ := hI
  refine ⟨v1, i1, vw_X11_fault hJ (z_num _) (ir_toInt _) (post' := fun r => r = aFault (J 129) x1.toInt) (fun x r ex _ hp => ?_) (x_fault i3  rfl)⟩
  refine ⟨v1, i2, vw_X12_fault hJ (z_num _) (ir_toInt _) (post' := fun r2 => r2 = aFault (J 129) x1.toInt) (fun y r2 ey _ hp2 => ?_) (m_fault rfl)⟩
  refine ⟨fun _ => hk _ _ _ _ _ hJ hi, fun c => c ?_⟩
  rw [ex, ey, hp, hp2]
theorem cL4 {xs : Nat → Int32} {Ls : Nat} {kk : Nat → mK → mR → mI → mL → Prop} {n : Nat} {K : mK} {R : mR} {J : mJ} {L : mL} {w : Int32} (hJ : irm J) (hI : Inv n K R J) (hv : VV w Ls) (hk : ∀ (n : Nat) (K : mK) (R : mR) (J : mJ) (L : mL), irm J → Inv n K R J → kk n K R (zz J) L) : w_L_4 xs Ls kk n K R (zz J) L w := by
  unfold w_L_4
  generalize xs ((w + 1).toNatClampNeg) = x1
  generalize xs ((w + 2).toNatClampNeg) = x2
  obtain ⟨v1, v2, v3, v4, v5, v6, v7⟩ := hv
  have hi := hI
  obtain ⟨i1, i2, i3, i4, i5, i6, i7, i8, i9, i10⟩ := hI
  refine ⟨v1, v2, i1, vw_X11_house hJ (z_num _) (ir_toInt _) (z_num _) (ir_toInt _) (post' := fun r => r = aHouse (J 129) x1.toInt x2.toInt) (fun x r ex _ hp => ?_) (x_house i3 (ir_toInt x2) rfl)⟩
  refine ⟨v1, v2, i2, vw_X12_house hJ (z_num _) (ir_toInt _) (z_num _) (ir_toInt _) (post' := fun r2 J2 => r2 = aHouse (J 129) x1.toInt x2.toInt ∧ MF J J2) (fun y r2 J2 ey _ hJ2 hp2 => ?_) (m_house (t := 1) i3 i6 (fun J2 f2 => ⟨rfl, f2⟩))⟩
  obtain ⟨er2, f2⟩ := hp2
  refine ⟨fun _ => hk _ _ _ _ _ hJ2 (Inv_M hi f2), fun c => c ?_⟩
  rw [ex, ey, hp, er2]
theorem cL14 {xs : Nat → Int32} {Ls : Nat} {kk : Nat → mK → mR → mI → mL → Prop} {n : Nat} {K : mK} {R : mR} {J : mJ} {L : mL} {w : Int32} (hJ : irm J) (hI : Inv n K R J) (hv : VV w Ls) (hk : ∀ (n : Nat) (K : mK) (R : mR) (J : mJ) (L : mL), irm J → Inv n K R J → kk n K R (zz J) L) : w_L_14 xs Ls kk n K R (zz J) L w := by
  unfold w_L_14
  generalize xs ((w + 1).toNatClampNeg) = x1
  generalize xs ((w + 2).toNatClampNeg) = x2
  generalize xs ((w + 3).toNatClampNeg) = x3
  obtain ⟨v1, v2, v3, v4, v5, v6, v7⟩ := hv
  have hi := hI
  obtain ⟨i1, i2, i3, i4, i5, i6, i7, i8, i9, i10⟩ := hI
  refine ⟨v1, v2, v3, i1, vw_X11_sound hJ (z_num _) (ir_toInt _) (z_num _) (ir_toInt _) (z_num _) (ir_toInt _) (post' := fun r => r = aSound (J 129) x1.toInt x2.toInt x3.toInt) (fun x r ex _ hp => ?_) (x_sound i3  rfl)⟩
  refine ⟨v1, v2, v3, i2, vw_X12_sound hJ (z_num _) (ir_toInt _) (z_num _) (ir_toInt _) (z_num _) (ir_toInt _) (post' := fun r2 J2 => r2 = aSound (J 129) x1.toInt x2.toInt x3.toInt ∧ MF J J2) (fun y r2 J2 ey _ hJ2 hp2 => ?_) (m_sound (t := 1) i3 i6 (fun J2 f2 => ⟨rfl, f2⟩))⟩
  obtain ⟨er2, f2⟩ := hp2
  refine ⟨fun _ => hk _ _ _ _ _ hJ2 (Inv_M hi f2), fun c => c ?_⟩
  rw [ex, ey, hp, er2]
theorem cL15 {xs : Nat → Int32} {Ls : Nat} {kk : Nat → mK → mR → mI → mL → Prop} {n : Nat} {K : mK} {R : mR} {J : mJ} {L : mL} {w : Int32} (hJ : irm J) (hI : Inv n K R J) (hv : VV w Ls) (hk : ∀ (n : Nat) (K : mK) (R : mR) (J : mJ) (L : mL), irm J → Inv n K R J → kk n K R (zz J) L) : w_L_15 xs Ls kk n K R (zz J) L w := by
  unfold w_L_15
  generalize xs ((w + 1).toNatClampNeg) = x1
  generalize xs ((w + 2).toNatClampNeg) = x2
  generalize xs ((w + 3).toNatClampNeg) = x3
  obtain ⟨v1, v2, v3, v4, v5, v6, v7⟩ := hv
  have hi := hI
  obtain ⟨i1, i2, i3, i4, i5, i6, i7, i8, i9, i10⟩ := hI
  refine ⟨v1, v2, v3, i1, vw_X11_makers hJ (z_num _) (ir_toInt _) (z_num _) (ir_toInt _) (z_num _) (ir_toInt _) (post' := fun r => r = aMakers (J 129) x1.toInt x2.toInt x3.toInt) (fun x r ex _ hp => ?_) (x_makers i3  rfl)⟩
  refine ⟨v1, v2, v3, i2, vw_X12_makers hJ (z_num _) (ir_toInt _) (z_num _) (ir_toInt _) (z_num _) (ir_toInt _) (post' := fun r2 J2 => r2 = aMakers (J 129) x1.toInt x2.toInt x3.toInt ∧ MF J J2) (fun y r2 J2 ey _ hJ2 hp2 => ?_) (m_makers (t := 1) i3 i6 (fun J2 f2 => ⟨rfl, f2⟩))⟩
  obtain ⟨er2, f2⟩ := hp2
  refine ⟨fun _ => hk _ _ _ _ _ hJ2 (Inv_M hi f2), fun c => c ?_⟩
  rw [ex, ey, hp, er2]
theorem cL22 {xs : Nat → Int32} {Ls : Nat} {kk : Nat → mK → mR → mI → mL → Prop} {n : Nat} {K : mK} {R : mR} {J : mJ} {L : mL} {w : Int32} (hJ : irm J) (hI : Inv n K R J) (hv : VV w Ls) (hk : ∀ (n : Nat) (K : mK) (R : mR) (J : mJ) (L : mL), irm J → Inv n K R J → kk n K R (zz J) L) : w_L_22 xs Ls kk n K R (zz J) L w := by
  unfold w_L_22
  generalize xs ((w + 1).toNatClampNeg) = x1
  obtain ⟨v1, v2, v3, v4, v5, v6, v7⟩ := hv
  have hi := hI
  obtain ⟨i1, i2, i3, i4, i5, i6, i7, i8, i9, i10⟩ := hI
  refine ⟨v1, i1, vw_X11_count hJ (z_num _) (ir_toInt _) (post' := fun r => r = aCount (J 129) x1.toInt) (fun x r ex _ hp => ?_) (x_count i3  rfl)⟩
  refine ⟨v1, i2, vw_X12_count hJ (z_num _) (ir_toInt _) (post' := fun r2 => r2 = aCount (J 129) x1.toInt) (fun y r2 ey _ hp2 => ?_) (m_count rfl)⟩
  refine ⟨fun _ => hk _ _ _ _ _ hJ hi, fun c => c ?_⟩
  rw [ex, ey, hp, hp2]
/-- what is told changes on both sides alike -/
theorem Inv_T {n : Nat} {K : mK} {R : mR} {J J1 J2 : mJ} {A : Nat → Int} (h : Inv n K R J) (hT : TI J1 1 A) (hE : InvEA J1 A) (hR : InvRA J1 A) (f1 : ∀ c, (c = 43 ∨ 128 ≤ c) → J1 c = J c) (hA : ∀ j, 990 ≤ j → A j = J 129 j) (h2 : J2 129 = A) (hU : UV (J2 128)) (f2 : ∀ c, c ≠ 128 → c ≠ 129 → c ≠ 131 → J2 c = J1 c) : Inv n K R J2 := by
  obtain ⟨i1, i2, i3, i4, i5, i6, i7, i8, i9, i10⟩ := h
  refine ⟨i1, i2, ?_, ?_, ?_, hU, i7, i8, ImI_frame i9 ?_ (fun j hj => by rw [h2]; exact hA j hj) (fun c hc => ?_), i10⟩
  · rw [h2]; exact TI_frame (fun k hk => f2 _ (by omega) (by omega) (by omega)) hT
  · have : InvEA J2 (J2 129) := by
      rw [h2]
      exact InvEA_of hE rfl (fun k _ => rfl) (fun c x y => f2 c (by omega) (by omega) (by omega))
    exact this
  · have : InvRA J2 (J2 129) := by
      rw [h2]
      exact InvRA_of hR (fun k _ => rfl) (f2 70 (by decide) (by decide) (by decide)) (f2 71 (by decide) (by decide) (by decide))
    exact this
  · rw [f2 130 (by decide) (by decide) (by decide)]; exact f1 130 (by decide)
  · rw [f2 c (by omega) (by omega) (by omega)]; exact f1 c (by omega)
theorem fdA_off {A : Nat → Int} {a1 a2 a3 a4 a5 : Int} {j : Nat} (h : A 2 + 20 ≤ 600) (h2 : j < 2 ∨ 3 ≤ j ∧ j < 10 ∨ 610 ≤ j) : fdA A a1 a2 a3 a4 a5 20 j = A j := by
  unfold fdA
  rw [if_neg (by omega), if_neg (by omega)]
theorem cL0 {xs : Nat → Int32} {Ls : Nat} {kk : Nat → mK → mR → mI → mL → Prop} {n : Nat} {K : mK} {R : mR} {J : mJ} {L : mL} {w : Int32} (hJ : irm J) (hI : Inv n K R J) (hv : VV w Ls) (hk : ∀ (n : Nat) (K : mK) (R : mR) (J : mJ) (L : mL), irm J → Inv n K R J → kk n K R (zz J) L) : w_L_0 xs Ls kk n K R (zz J) L w := by
  unfold w_L_0
  generalize xs ((w + 1).toNatClampNeg) = x1
  generalize xs ((w + 2).toNatClampNeg) = x2
  generalize xs ((w + 3).toNatClampNeg) = x3
  generalize xs ((w + 4).toNatClampNeg) = x4
  generalize xs ((w + 5).toNatClampNeg) = x5
  obtain ⟨v1, v2, v3, v4, v5, v6, v7⟩ := hv
  have hi := hI
  obtain ⟨i1, i2, i3, i4, i5, i6, i7, i8, i9, i10⟩ := hI
  refine ⟨v1, v2, v3, v4, v5, i1, vw_X11_feed hJ (z_num _) (ir_toInt _) (z_num _) (ir_toInt _) (z_num _) (ir_toInt _) (z_num _) (ir_toInt _) (z_num _) (ir_toInt _) (post' := fun r J1 => (¬ J 129 2 + 20 ≤ 600 ∧ r = -1 ∧ J1 = J) ∨ (J 129 2 + 20 ≤ 600 ∧ r = J 129 2 + 20 ∧ TI J1 1 (fdA (J 129) x1.toInt x2.toInt x3.toInt x4.toInt x5.toInt 20) ∧ (∀ c, c ≠ 1 → c ≠ 2 → J1 c = J c))) (fun x r J1 ex _ hJ1 hp => ?_) (x_feed i3 (fun c => Or.inl ⟨c, rfl, rfl⟩) (fun c J1 t f => Or.inr ⟨c, rfl, t, f⟩))⟩
  rcases hp with ⟨c1, er, rfl⟩ | ⟨c1, er, t, f⟩
  · refine ⟨v1, v2, v3, v4, v5, i2, vw_X12_feed hJ1 (z_num _) (ir_toInt _) (z_num _) (ir_toInt _) (z_num _) (ir_toInt _) (z_num _) (ir_toInt _) (z_num _) (ir_toInt _) (post' := fun r2 J2 => r2 = -1 ∧ J2 = J1) (fun y r2 J2 ey _ hJ2 hp2 => ?_) (m_feed i3.2.2.2.1 (fun c => ⟨rfl, rfl⟩) (fun c => absurd c c1))⟩
    obtain ⟨er2, rfl⟩ := hp2
    refine ⟨fun _ => hk _ _ _ _ _ hJ2 hi, fun c => c ?_⟩
    rw [ex, ey, er, er2]
  · have e129 : J1 129 = J 129 := f 129 (by decide) (by decide)
    refine ⟨v1, v2, v3, v4, v5, i2, vw_X12_feed hJ1 (z_num _) (ir_toInt _) (z_num _) (ir_toInt _) (z_num _) (ir_toInt _) (z_num _) (ir_toInt _) (z_num _) (ir_toInt _) (post' := fun r2 J2 => r2 = J1 129 2 + 20 ∧ J2 129 = fdA (J1 129) x1.toInt x2.toInt x3.toInt x4.toInt x5.toInt 20 ∧ ∀ c, c ≠ 129 → J2 c = J1 c) (fun y r2 J2 ey _ hJ2 hp2 => ?_) (m_feed (by rw [e129]; exact i3.2.2.2.1) (fun c => absurd (by rw [e129]; exact c1) c) (fun c J2 e f2 => ⟨rfl, e, f2⟩))⟩
    obtain ⟨er2, e2, f2⟩ := hp2
    rw [e129] at er2 e2
    refine ⟨fun _ => hk _ _ _ _ _ hJ2 (Inv_T hi t (InvEA_of i4 (fdA_off c1 (by omega)) (fun k _ => gH_e (fun j _ => fdA_off c1 (by omega))) (fun c x y => f c (by omega) (by omega))) (InvRA_of i5 (fun k _ => gH_e (fun j _ => fdA_off c1 (by omega))) (f 70 (by decide) (by decide)) (f 71 (by decide) (by decide))) (fun c hc => f c (by omega) (by omega)) (fun j hj => fdA_off c1 (by omega)) e2 (by rw [f2 128 (by decide), f 128 (by decide) (by decide)]; exact i6) (fun c x y z => f2 c y)), fun c => c ?_⟩
    rw [ex, ey, er, er2]
theorem cL1 {xs : Nat → Int32} {Ls : Nat} {kk : Nat → mK → mR → mI → mL → Prop} {n : Nat} {K : mK} {R : mR} {J : mJ} {L : mL} {w : Int32} (hJ : irm J) (hI : Inv n K R J) (hv : VV w Ls) (hk : ∀ (n : Nat) (K : mK) (R : mR) (J : mJ) (L : mL), irm J → Inv n K R J → kk n K R (zz J) L) : w_L_1 xs Ls kk n K R (zz J) L w := by
  unfold w_L_1
  generalize xs ((w + 1).toNatClampNeg) = x1
  obtain ⟨v1, v2, v3, v4, v5, v6, v7⟩ := hv
  have hi := hI
  obtain ⟨i1, i2, i3, i4, i5, i6, i7, i8, i9, i10⟩ := hI
  refine ⟨v1, i1, vw_X11_end hJ (z_num _) (ir_toInt _) (post' := fun r J1 => (¬ (0 ≤ x1.toInt ∧ x1.toInt ≤ J 129 2) ∧ r = -1 ∧ J1 = J) ∨ ((0 ≤ x1.toInt ∧ x1.toInt ≤ J 129 2) ∧ r = x1.toInt ∧ TI J1 1 (up1 (J 129) 2 x1.toInt) ∧ (∀ c, c ≠ 1 → c ≠ 2 → J1 c = J c))) (fun x r J1 ex _ hJ1 hp => ?_) (x_end i3 (fun c => Or.inl ⟨c, rfl, rfl⟩) (fun c J1 t f => Or.inr ⟨c, rfl, t, f⟩))⟩
  rcases hp with ⟨c1, er, rfl⟩ | ⟨c1, er, t, f⟩
  · refine ⟨v1, i2, vw_X12_end hJ1 (z_num _) (ir_toInt _) (post' := fun r2 J2 => r2 = -1 ∧ J2 = J1) (fun y r2 J2 ey _ hJ2 hp2 => ?_) (m_end (fun c => ⟨rfl, rfl⟩) (fun c => absurd c c1))⟩
    obtain ⟨er2, rfl⟩ := hp2
    refine ⟨fun _ => hk _ _ _ _ _ hJ2 hi, fun c => c ?_⟩
    rw [ex, ey, er, er2]
  · have e129 : J1 129 = J 129 := f 129 (by decide) (by decide)
    refine ⟨v1, i2, vw_X12_end hJ1 (z_num _) (ir_toInt _) (post' := fun r2 J2 => r2 = x1.toInt ∧ J2 129 = up1 (J1 129) 2 x1.toInt ∧ ∀ c, c ≠ 129 → J2 c = J1 c) (fun y r2 J2 ey _ hJ2 hp2 => ?_) (m_end (fun c => absurd (by rw [e129]; exact c1) c) (fun c J2 e f2 => ⟨rfl, e, f2⟩))⟩
    obtain ⟨er2, e2, f2⟩ := hp2
    rw [e129] at e2
    refine ⟨fun _ => hk _ _ _ _ _ hJ2 (Inv_T hi t (InvEA_of i4 (up1_rd (by decide)) (fun k _ => gH_e (fun j _ => up1_rd (by omega))) (fun c x y => f c (by omega) (by omega))) (InvRA_of i5 (fun k _ => gH_e (fun j _ => up1_rd (by omega))) (f 70 (by decide) (by decide)) (f 71 (by decide) (by decide))) (fun c hc => f c (by omega) (by omega)) (fun j hj => up1_rd (by omega)) e2 (by rw [f2 128 (by decide), f 128 (by decide) (by decide)]; exact i6) (fun c x y z => f2 c y)), fun c => c ?_⟩
    rw [ex, ey, er, er2]
theorem txA_off {A : Nat → Int} {a1 a2 : Int} (h : 0 ≤ A 0 ∧ A 0 ≤ 2) (h1 : 0 ≤ A 1 ∧ A 1 ≤ 2) {j : Nat} (hj : 990 ≤ j) : txA A a1 a2 j = A j := by
  have hH : ∀ F : Ft, txH A F j = A j := fun F => by unfold txH; rw [up1_rd (by omega), up1_rd (by omega), up1_rd (by omega)]
  unfold txA
  split
  · next ok =>
    split
    · have a01 : a1 = 0 ∨ a1 = 1 := by have := ok.1; omega
      have kk : (txK A a1 a2).toNat ≤ 1 := by
        have jb : A a1.toNat ≤ 2 := by
          rcases a01 with e | e
          · subst e; exact h.2
          · subst e; exact h1.2
        unfold txK
        split
        · next c => have := ok.2.1 c; omega
        · next c => have := ok.2.2 c; omega
      have pl : txP a1 (txK A a1 a2).toNat + txL a1 ≤ 990 := by
        unfold txP txL
        split <;> omega
      show (if txP a1 (txK A a1 a2).toNat ≤ j ∧ j < txP a1 (txK A a1 a2).toNat + txL a1 then txG A a1 (j - txP a1 (txK A a1 a2).toNat) else if a2 = -1 ∧ j = a1.toNat then A j + 1 else txH A (txF A a1) j) = A j
      rw [if_neg (by omega), if_neg (by omega)]; exact hH _
    · exact hH _
  · exact hH _
theorem cL2 {xs : Nat → Int32} {Ls : Nat} {kk : Nat → mK → mR → mI → mL → Prop} {n : Nat} {K : mK} {R : mR} {J : mJ} {L : mL} {w : Int32} (hJ : irm J) (hI : Inv n K R J) (hv : VV w Ls) (hk : ∀ (n : Nat) (K : mK) (R : mR) (J : mJ) (L : mL), irm J → Inv n K R J → kk n K R (zz J) L) : w_L_2 xs Ls kk n K R (zz J) L w := by
  unfold w_L_2
  generalize xs ((w + 1).toNatClampNeg) = x1
  generalize xs ((w + 2).toNatClampNeg) = x2
  obtain ⟨v1, v2, v3, v4, v5, v6, v7⟩ := hv
  have hi := hI
  obtain ⟨i1, i2, i3, i4, i5, i6, i7, i8, i9, i10⟩ := hI
  refine ⟨v1, v2, i1, vw_X11_text hJ (z_num _) (ir_toInt _) (z_num _) (ir_toInt _) (post' := fun r J1 => r = txR (J 129) x1.toInt x2.toInt ∧ TI J1 1 (txA (J 129) x1.toInt x2.toInt) ∧ InvEA J1 (txA (J 129) x1.toInt x2.toInt) ∧ InvRA J1 (txA (J 129) x1.toInt x2.toInt) ∧ (∀ c, (c = 43 ∨ 128 ≤ c) → J1 c = J c)) (fun x r J1 ex _ hJ1 hp => ?_) (x_text i3 i4 i5 (ir_toInt _) (fun J1 t e q f => ⟨rfl, t, e, q, f⟩))⟩
  obtain ⟨er, t, e, q, f⟩ := hp
  have e129 : J1 129 = J 129 := f 129 (by decide)
  refine ⟨v1, v2, i2, vw_X12_text hJ1 (z_num _) (ir_toInt _) (z_num _) (ir_toInt _) (post' := fun r2 J2 => r2 = txR (J1 129) x1.toInt x2.toInt ∧ J2 129 = txA (J1 129) x1.toInt x2.toInt ∧ UV (J2 128) ∧ ∀ c, c ≠ 128 → c ≠ 129 → c ≠ 131 → J2 c = J1 c) (fun y r2 J2 ey _ hJ2 hp2 => ?_) (m_text (by rw [e129]; exact i3.2.1) (by rw [e129]; exact i3.2.2.1) (by rw [e129]; exact i3.2.2.2.1) (fun i hi => by rw [e129]; exact (i3.2.2.2.2.1 i hi).1) (by rw [f 128 (by decide)]; exact i6) (fun J2 e u f2 => ⟨rfl, e, u, f2⟩))⟩
  obtain ⟨er2, e2, u2, f2⟩ := hp2
  rw [e129] at er2 e2
  refine ⟨fun _ => hk _ _ _ _ _ hJ2 (Inv_T hi t e q f (fun j hj => txA_off i3.2.1 i3.2.2.1 hj) e2 u2 f2), fun c => c ?_⟩
  rw [ex, ey, er, er2]
theorem cL24 {xs : Nat → Int32} {Ls : Nat} {kk : Nat → mK → mR → mI → mL → Prop} {n : Nat} {K : mK} {R : mR} {J : mJ} {L : mL} {w : Int32} (hJ : irm J) (hI : Inv n K R J) (hv : VV w Ls) (hk : ∀ (n : Nat) (K : mK) (R : mR) (J : mJ) (L : mL), irm J → Inv n K R J → kk n K R (zz J) L) : w_L_24 xs Ls kk n K R (zz J) L w := by
  unfold w_L_24
  generalize xs ((w + 1).toNatClampNeg) = x1
  obtain ⟨v1, v2, v3, v4, v5, v6, v7⟩ := hv
  have hi := hI
  obtain ⟨i1, i2, i3, i4, i5, i6, i7, i8, i9, i10⟩ := hI
  refine ⟨v1, i1, vw_X11_again hJ (z_num _) (ir_toInt _) (post' := fun r J1 => (¬ (0 ≤ x1.toInt ∧ x1.toInt ≤ 2) ∧ r = false ∧ J1 = J) ∨ (∃ k : Nat, x1.toInt = (k : Int) ∧ k < 3 ∧ J 130 k = 0 ∧ r = false ∧ J1 = J) ∨ (∃ k : Nat, x1.toInt = (k : Int) ∧ k < 3 ∧ ¬ J 130 k = 0 ∧ r = true ∧ TI J1 1 (fun j => J 129 (990 * (k + 1) + j)) ∧ (∀ q, q < 2 → J1 (94 + 17 * q) 1 = 0) ∧ J1 70 3 = -1 ∧ (∀ c, (c = 43 ∨ 128 ≤ c) → J1 c = J c))) (fun r J1 hJ1 hp => ?_) (x_again i9 (fun c => Or.inl ⟨c, rfl, rfl⟩) (fun k e l z => Or.inr (Or.inl ⟨k, e, l, z, rfl, rfl⟩)) (fun k J1 e l z t g h f => Or.inr (Or.inr ⟨k, e, l, z, rfl, t, g, h, f⟩)))⟩
  rcases hp with ⟨c1, rfl, rfl⟩ | ⟨k, ek, lk, z, rfl, rfl⟩ | ⟨k, ek, lk, z, rfl, t, g, h, f⟩
  · refine ⟨v1, i2, vw_X12_again hJ1 (z_num _) (ir_toInt _) (post' := fun r2 J2 => r2 = false ∧ J2 = J1) (fun r2 J2 hJ2 hp2 => ?_) (m_again (fun c => ⟨rfl, rfl⟩) (fun k e l z => absurd (by omega) c1) (fun k J2 e l z => absurd (by omega) c1))⟩
    obtain ⟨rfl, rfl⟩ := hp2
    exact ⟨fun _ => hk _ _ _ _ _ hJ2 hi, fun c => c rfl⟩
  · refine ⟨v1, i2, vw_X12_again hJ1 (z_num _) (ir_toInt _) (post' := fun r2 J2 => r2 = false ∧ J2 = J1) (fun r2 J2 hJ2 hp2 => ?_) (m_again (fun c => ⟨rfl, rfl⟩) (fun k e l z => ⟨rfl, rfl⟩) (fun k2 J2 e l z2 => absurd (by rw [show k2 = k by omega]; exact z) z2))⟩
    obtain ⟨rfl, rfl⟩ := hp2
    exact ⟨fun _ => hk _ _ _ _ _ hJ2 hi, fun c => c rfl⟩
  · have e129 : J1 129 = J 129 := f 129 (by decide)
    have e130 : J1 130 = J 130 := f 130 (by decide)
    refine ⟨v1, i2, vw_X12_again hJ1 (z_num _) (ir_toInt _) (post' := fun r2 J2 => r2 = true ∧ J2 129 = agA (J 129) k ∧ ∀ c, c ≠ 129 → J2 c = J1 c) (fun r2 J2 hJ2 hp2 => ?_) (m_again (fun c => absurd (by omega) c) (fun k2 e l z2 => absurd (by rw [e130, show k2 = k by omega] at z2; exact z2) z) (fun k2 J2 e l z2 e2 f2 => ⟨rfl, by rw [e129, show k2 = k by omega] at e2; exact e2, f2⟩))⟩
    obtain ⟨rfl, e2, f2⟩ := hp2
    refine ⟨fun _ => hk _ _ _ _ _ hJ2 (Inv_T (J1 := J1) (A := agA (J 129) k) hi (TI_cong (fun j hj => by unfold agA; rw [if_pos hj]) t) (fun q hq c => absurd (g q hq) c) (fun q p a b mi fl hq h3 => absurd h3 (by rw [h]; omega)) f (fun j hj => by unfold agA; rw [if_neg (by omega)]) e2 (by rw [f2 128 (by decide), f 128 (by decide)]; exact i6) (fun c x y w => f2 c y)), fun c => c rfl⟩
