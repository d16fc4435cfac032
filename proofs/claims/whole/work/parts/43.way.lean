/-! ===== LAYER 3, D: closed ways, the component: solveClosed, closeWay, way(), answer() ===== -/
theorem f11 : fOK ((1 : Int), 1) := ⟨by decide, by decide, by decide⟩
theorem f01 : fOK ((0 : Int), 1) := ⟨by decide, by decide, by decide⟩
theorem f21 : fOK ((2 : Int), 1) := ⟨by decide, by decide, by decide⟩
theorem bind_fadd_ok {q g x y : Int × Nat} (hq : fOK q) (hx : fOK x) (hy : fOK y) (h : (fmul x y).bind (fadd q) = some g) : fOK g := lead_ok hx hq hy h
def spWay (r : Rg) (K : Kk) (l : List (Int × Nat)) (i : Int32) : Int32 × List (Int × Nat) := if 0 ≤ i.toInt ∧ i.toInt < r.1 then (match wres r K i.toInt.toNat with
  | .inr c => (2, [c.1, c.2])
  | .inl v => (v, l)) else (-1, l)
def onlyK (k : Nat) : Kk := fun j => if j = k then (1, 1) else (0, 1)
def spAnswer (r : Rg) (l : List (Int × Nat)) (m k : Int32) : Int32 × List (Int × Nat) := if (0 ≤ m.toInt ∧ m.toInt < ahd r 4 r.1) ∧ 0 ≤ k.toInt ∧ k.toInt < ahd r 3 r.1 then (match wres r (onlyK k.toInt.toNat) (pos r 4 m.toInt.toNat) with
  | .inr c => (1, [c.1])
  | .inl v => (v, l)) else (-1, l)
theorem onlyK_ok (k j : Nat) : fOK (onlyK k j) := by
  unfold onlyK
  split
  · exact f11
  · exact f01
theorem wres_none {r : Rg} {K : Kk} {n : Nat} (h : ((wgo r K r.1).bind fun q => (gapF q.1).map fun e => (q, e)) = none) : wres r K n = .inl (-5) := by
  unfold wres
  rw [h]
theorem wres_zero {r : Rg} {K : Kk} {n : Nat} {q : Tb × Mt} {e : Int × Nat} (h : ((wgo r K r.1).bind fun q => (gapF q.1).map fun e => (q, e)) = some (q, e)) (h0 : e.1 = 0) : wres r K n = .inl (-2) := by
  unfold wres
  rw [h]
  exact if_pos h0
theorem wres_big {r : Rg} {K : Kk} {n : Nat} {q : Tb × Mt} {e : Int × Nat} (h : ((wgo r K r.1).bind fun q => (gapF q.1).map fun e => (q, e)) = some (q, e)) (h0 : ¬ e.1 = 0) (h2 : (((solX q.1 q.2 e).bind fun x => (solY q.1 q.2 e).map fun y => (x, y)).bind fun c => cgo r K c n) = none) : wres r K n = .inl (-5) := by
  unfold wres
  rw [h]
  show (if e.1 = 0 then _ else _) = _
  rw [if_neg h0, h2]
theorem wres_some {r : Rg} {K : Kk} {n : Nat} {q : Tb × Mt} {e : Int × Nat} {c : Mt} (h : ((wgo r K r.1).bind fun q => (gapF q.1).map fun e => (q, e)) = some (q, e)) (h0 : ¬ e.1 = 0) (h2 : (((solX q.1 q.2 e).bind fun x => (solY q.1 q.2 e).map fun y => (x, y)).bind fun c => cgo r K c n) = some c) : wres r K n = .inr c := by
  unfold wres
  rw [h]
  show (if e.1 = 0 then _ else _) = _
  rw [if_neg h0, h2]
section WAY
variable {d : Nat} {σ : St} {Q : Option AV → St → Prop}
theorem sp_solve {t : Tb} {m : Mt} {e : Int × Nat} (ht : ctab σ t) (hto : tOK t) (hm : isM σ 39 m) (hmo : mOK m) (he : isF σ 45 e) (heo : fOK e) (he0 : e.1 ≠ 0) (h : ∀ τ c, ar wyS σ τ → isM τ 42 c → mOK c → stk (gI σ 30 0) (gI τ 30 0) ((solX t m e).bind fun x => (solY t m e).map fun y => (x, y)) c → Q none τ) : Cl lay1 (d + 5) M_Op_solveClosed [aO 4 29] σ Q := by
  refine bk_Op_solveClosed_0 ?_
  refine sp_put1 (t := 41) (a := 1) (by decide) ?_
  have a1 := stF_ar σ 42 (1, 1)
  have i1 := stF_is σ 42 (1, 1)
  have g1 : gI (stF σ 42 (1, 1)) 30 0 = gI σ 30 0 := rfl
  generalize stF σ 42 (1, 1) = τ1 at a1 i1 g1
  refine sp_minus (t := 41) (u := 36) i1 f11 (a1.F (by decide) ht.2.2) hto.2.2 (fun τ2 p => ?_)
  obtain ⟨a2, p, hp, po, s2⟩ := p.q (fun f hf => fsub_ok f11 hto.2.2 hf)
  have a12 := a1.trans a2
  refine sp_times (t := 41) (u := 38) hp po (a12.F (by decide) hm.1) hmo.1 (fun τ3 p => ?_)
  obtain ⟨a3, q, hq, qo, s3⟩ := p.q (fun f hf => fmul_ok po hmo.1 hf)
  have a13 := a12.trans a3
  refine sp_plusProduct (t := 41) (u := 35) (w := 39) hq qo (a13.F (by decide) ht.2.1) hto.2.1 (a13.F (by decide) hm.2) hmo.2 (by omega) (by omega) (fun τ4 p => ?_)
  obtain ⟨a4, z, hz, zo, s4⟩ := p.q (fun f hf => bind_fadd_ok qo hto.2.1 hmo.2 hf)
  have a14 : ar wyS σ τ4 := (a13.mono (by decide)).trans (a4.mono (by decide))
  have k14 : ar [42, 31] σ τ4 := (a13.mono (by decide)).trans (a4.mono (by decide))
  refine sp_over (t := 41) (u := 44) hz zo (k14.F (by decide) he) heo he0 (fun τ5 p => ?_)
  obtain ⟨a5, x, hx, xo, s5⟩ := p.q (fun f hf => fdiv_ok zo heo he0 hf)
  have k15 : ar [42, 31] σ τ5 := k14.trans (a5.mono (by decide))
  have sx : stk (gI σ 30 0) (gI τ5 30 0) (solX t m e) x := by
    rw [← g1]
    exact stk.bind s2 (stk.bind s3 (stk.bind s4 s5))
  refine sp_put1 (t := 45) (a := 1) (by decide) ?_
  have a6 := stF_ar τ5 46 (1, 1)
  have i6 := stF_is τ5 46 (1, 1)
  have g6 : gI (stF τ5 46 (1, 1)) 30 0 = gI τ5 30 0 := rfl
  generalize stF τ5 46 (1, 1) = τ6 at a6 i6 g6
  have k16 : ar [42, 31, 46] σ τ6 := (k15.mono (by decide)).trans (a6.mono (by decide))
  refine sp_minus (t := 45) (u := 32) i6 f11 (k16.F (by decide) ht.1.1) hto.1.1 (fun τ7 p => ?_)
  obtain ⟨a7, p', hp', po', s7⟩ := p.q (fun f hf => fsub_ok f11 hto.1.1 hf)
  have k17 : ar [42, 31, 46] σ τ7 := k16.trans (a7.mono (by decide))
  refine sp_copy (t := 42) (u := 33) (k17.F (by decide) ht.1.2) (fun τ8 a8 i8 g8 => ?_)
  have k18 : ar [42, 31, 46, 43] σ τ8 := (k17.mono (by decide)).trans (a8.mono (by decide))
  refine sp_times (t := 42) (u := 38) i8 hto.1.2 (k18.F (by decide) hm.1) hmo.1 (fun τ9 p => ?_)
  obtain ⟨a9, q', hq', qo', s9⟩ := p.q (fun f hf => fmul_ok hto.1.2 hmo.1 hf)
  have k19 : ar [42, 31, 46, 43] σ τ9 := k18.trans (a9.mono (by decide))
  have hp9 : isF τ9 46 p' := a9.F (by decide) (a8.F (by decide) hp')
  refine sp_plusProduct (t := 42) (u := 45) (w := 39) hq' qo' hp9 po' (k19.F (by decide) hm.2) hmo.2 (by omega) (by omega) (fun τ10 p => ?_)
  obtain ⟨a10, z', hz', zo', s10⟩ := p.q (fun f hf => bind_fadd_ok qo' po' hmo.2 hf)
  have k110 : ar [42, 31, 46, 43] σ τ10 := k19.trans (a10.mono (by decide))
  refine sp_over (t := 42) (u := 44) hz' zo' (k110.F (by decide) he) heo he0 (fun τ11 p => ?_)
  obtain ⟨a11, y, hy, yo, s11⟩ := p.q (fun f hf => fdiv_ok zo' heo he0 hf)
  have sy : stk (gI τ5 30 0) (gI τ11 30 0) (solY t m e) y := by
    rw [← g6]
    refine stk.bind s7 ?_
    rw [← g8]
    exact stk.bind s9 (stk.bind s10 s11)
  refine h τ11 (x, y) ((k110.mono (by decide)).trans (a11.mono (by decide))) ⟨?_, hy⟩ ⟨xo, yo⟩ (stk.bind sx (sy.map (fun y => (x, y))))
  exact a11.F (by decide) (a10.F (by decide) (a9.F (by decide) (a8.F (by decide) (a7.F (by decide) (a6.F (by decide) hx)))))
theorem sp_isZero {t : Nat} {f : Int × Nat} (hf : isF σ (t + 1) f) (hfo : fOK f) (hy : f.1 = 0 → Q (some (aI 1)) σ) (hn : ¬ f.1 = 0 → Q (some (aI 0)) σ) : Cl lay1 (d + 1) M_Fr_isZero [aO 0 (t + 1)] σ Q := by
  have h1 := hfo.1
  refine bk_Fr_isZero_0 _ ⟨fun c => ⟨b11, hy ?_⟩, fun c => ⟨b01, hn ?_⟩⟩
  · rw [hf.1, L64_0, cmpL_eq (by omega) (by omega) (by omega) (by omega)] at c
    exact c
  · rw [hf.1, L64_0, cmpL_eq (by omega) (by omega) (by omega) (by omega)] at c
    exact c
theorem wy_loop2 {A B u : Nat} {r : Rg} {K : Kk} {c : Mt} (hro : rgOK r) (hrk : rkOK r) (hko : kOK r K) (hB : B = 13 ∨ B = 51) (hu : u < r.1) : ∀ (n k : Nat) (σ : St) (Q : Option AV → St → Prop), k + n = u → wyI σ A B r K → ∀ m, isM σ 42 m → mOK m → stk 0 (gI σ 30 0) (cgo r K c k) m → (∀ τ m, ar wyS σ τ → isM τ 42 m → mOK m → stk 0 (gI τ 30 0) (cgo r K c u) m → (gI τ 30 0 = 0 → Q (some (aI 0)) τ) ∧ (¬ gI τ 30 0 = 0 → Q (some (aI (-5))) τ)) → Wp lay1 rtOf (Cl lay1 (d + 5)) k_Op_closeWay 1 Q (178, [aO 4 29, aO 8 11, aO 21 (A + 1), aI (nI u), aI (nI k)], [], σ) := by
  have h80 := hro.1
  intro n
  induction n with
  | zero =>
    intro k σ Q hk hI m hm hmo hs h
    have hh := h σ m (ar.rf _ _) hm hmo (by rw [show u = k by omega]; exact hs)
    refine bk_Op_closeWay_178 _ _ _ ⟨fun _ => hh, fun c => absurd ?_ c⟩
    exact (nI_leI (by omega) (by omega)).mpr (by omega)
  | succ n ih =>
    intro k σ Q hk hI m hm hmo hs h
    have e11 := hI.2.2.2.2.1.1
    have hlt : k < r.1 := by omega
    by_cases hb : gI σ 30 0 = 0
    · refine bk_Op_closeWay_178 _ _ _ ⟨fun c => absurd c ?_, fun _ => ⟨fun c => absurd c ?_, fun _ => ⟨fun _ => ?_, fun c => absurd hb c⟩⟩⟩
      · rw [nI_leI (by omega) (by omega)]; omega
      · rw [e11, nI_leI (by omega) (by omega)]; omega
      obtain ⟨hs, -⟩ := hs.zero hb
      obtain ⟨hk4, hfo⟩ := hro.2 k hlt
      obtain ⟨g1, g2, g3, g4⟩ := hI.2.2.2.2.1
      obtain ⟨p1, p2, p3, p4⟩ := g4 k hlt
      refine nn_of g2 ⟨by rw [g3]; exact inb_nI hlt (by omega), ?_⟩
      rw [ix_nI (by omega)]
      refine sp_lead (c := 40) (z := 41) rfl rfl (by omega) (by omega) p1 p2 hk4 p3 p4 hfo hm hmo (fun τ1 q1 => ?_)
      obtain ⟨a1, m1, hm1, om1, r1⟩ := q1
      have hI1 := hI.of a1 (by decide) hB hrk.1
      refine sp_giveKick (d := d + 1) (c := 40) (z := 41) (A := A) (B := B) rfl hI1.1 hI1.2.2.1 hI1.2.2.2.1 hI1.2.2.2.2.1 hro hI1.2.2.2.2.2.1 hrk hko hI1.2.2.2.2.2.2 hlt hm1 om1 (fun τ4 q4 => ?_)
      obtain ⟨a4, m4, hm4, om4, r4⟩ := q4
      have hI4 := hI1.of a4 (by decide) hB hrk.1
      show Wp lay1 rtOf (Cl lay1 (d + 5)) k_Op_closeWay 1 Q (178, [aO 4 29, aO 8 11, aO 21 (A + 1), aI (nI u), aI (nI k + 1)], [], τ4)
      rw [nI_1]
      have a14 : ar wyS σ τ4 := (a1.mono (by decide)).trans (a4.mono (by decide))
      have hgo : stk 0 (gI τ4 30 0) (cgo r K c (k + 1)) m4 := by
        show stk 0 _ ((cgo r K c k).bind _) _
        rw [hs]
        have r1 : stk 0 (gI τ1 30 0) (mstep (r.2.1 k) (r.2.2 k) m) m1 := by rw [← hb]; exact r1
        have r4 : stk (gI τ1 30 0) (gI τ4 30 0) (kgive r K k m1) m4 := r4
        exact r1.bind r4
      refine ih (k + 1) τ4 Q (by omega) hI4 m4 hm4 om4 hgo (fun υ m' b1 b2 b3 b4 => h υ m' (a14.trans b1) b2 b3 b4)
    · have q1 : gI σ 30 0 = 1 := by
        rcases hs with ⟨-, q⟩ | ⟨-, q⟩
        · exact absurd q hb
        · exact q
      have hh := h σ m (ar.rf _ _) hm hmo (Or.inr ⟨cgo_none (hs.one hb) _ (by omega), q1⟩)
      exact bk_Op_closeWay_178 _ _ _ ⟨fun _ => hh, fun _ => ⟨fun _ => hh, fun _ => ⟨fun c => absurd c hb, fun _ => hh⟩⟩⟩
theorem sp_closeWay {A B u : Nat} {r : Rg} {K : Kk} (hI : wyI σ A B r K) (hro : rgOK r) (hrk : rkOK r) (hko : kOK r K) (hB : B = 13 ∨ B = 51) (hu : u < r.1) (hs : ∀ τ c, ar wyS σ τ → wres r K u = .inr c → isM τ 42 c → Q (some (aI 0)) τ) (hn : ∀ τ v, ar wyS σ τ → wres r K u = .inl v → (v = -5 ∨ v = -2) → Q (some (aI v)) τ) : Cl lay1 (d + 6) M_Op_closeWay [aO 4 29, aO 8 11, aO 21 (A + 1), aI (nI u)] σ Q := by
  refine bk_Op_closeWay_0 _ _ ?_
  refine sp_beginTable (d := d + 1) (fun τ1 a1 t1 g1 => ?_)
  refine sp_moput (c := 37) (z := 38) (a := 0) (b := 0) (fun _ => rfl) (fun _ => rfl) (by decide) (by decide) (fun τ2 a2 m2 g2 => ?_)
  have w12 : ar wyS σ τ2 := (a1.mono (by decide)).trans (a2.mono (by decide))
  have hI2 := hI.of w12 (fun _ z => z) hB hrk.1
  have ct2 : ctab τ2 (((1, 1), (0, 1)), ((0, 1), (1, 1))) := ⟨⟨a2.F (by decide) t1.1.1, a2.F (by decide) t1.1.2⟩, ⟨a2.F (by decide) t1.2.1, a2.F (by decide) t1.2.2⟩⟩
  refine wy_loop1 (A := A) (B := B) hro hrk hko hB r.1 0 τ2 Q (by omega) hI2 _ _ ct2 ⟨⟨f11, f01⟩, ⟨f01, f11⟩⟩ m2 ⟨f01, f01⟩ (by rw [g2, g1]; exact stk.here _ _) (fun τ3 t m b1 b2 b3 b4 b5 b6 => ?_)
  have w13 := w12.trans b1
  unfold wyEnd
  rw [show (2 : Int64) = L64 2 by decide]
  refine sp_put1 (t := 44) (a := 2) (by decide) ?_
  have a4 := stF_ar τ3 45 (2, 1)
  have i4 := stF_is τ3 45 (2, 1)
  have g4 : gI (stF τ3 45 (2, 1)) 30 0 = gI τ3 30 0 := rfl
  generalize stF τ3 45 (2, 1) = τ4 at a4 i4 g4
  refine sp_minus (d := d + 2) (t := 44) (u := 32) i4 f21 (a4.F (by decide) b2.1.1) b3.1.1 (fun τ5 p => ?_)
  obtain ⟨a5, g, hg, go, s5⟩ := p.q (fun f hf => fsub_ok f21 b3.1.1 hf)
  have a45 := a4.trans a5
  refine sp_minus (d := d + 2) (t := 44) (u := 36) hg go (a45.F (by decide) b2.2.2) b3.2.2 (fun τ6 p => ?_)
  obtain ⟨a6, e, he, eo, s6⟩ := p.q (fun f hf => fsub_ok go b3.2.2 hf)
  have a46 := a45.trans a6
  have w16 : ar wyS σ τ6 := w13.trans (a46.mono (by decide))
  have se : stk 0 (gI τ6 30 0) ((wgo r K r.1).bind fun q => (gapF q.1).map fun e => (q, e)) ((t, m), e) := by
    refine b6.bind ?_
    rw [← g4]
    have q5 : stk (gI τ4 30 0) (gI τ5 30 0) (fsub (2, 1) t.1.1) g := s5
    have q6 : stk (gI τ5 30 0) (gI τ6 30 0) (fsub g t.2.2) e := s6
    have q : stk (gI τ4 30 0) (gI τ6 30 0) (gapF t) e := q5.bind q6
    exact q.map (fun e => ((t, m), e))
  refine ⟨fun c => ?_, fun c => hn _ _ w16 (wres_none (se.one c)) (Or.inl rfl)⟩
  obtain ⟨se, -⟩ := se.zero c
  refine sp_isZero (t := 44) he eo (fun z => ⟨fun y => absurd y (by decide), fun _ => hn _ _ w16 (wres_zero se z) (Or.inr rfl)⟩) (fun z => ⟨fun _ => ?_, fun y => absurd rfl y⟩)
  have ct6 : ctab τ6 t := ⟨⟨a46.F (by decide) b2.1.1, a46.F (by decide) b2.1.2⟩, ⟨a46.F (by decide) b2.2.1, a46.F (by decide) b2.2.2⟩⟩
  refine sp_solve ct6 b3 ⟨a46.F (by decide) b4.1, a46.F (by decide) b4.2⟩ b5 he eo z (fun τ7 c7 a7 i7 o7 s7 => ?_)
  rw [c] at s7
  have w17 := w16.trans a7
  have hI7 := hI.of w17 (fun _ z => z) hB hrk.1
  by_cases hb : gI τ7 30 0 = 0
  · obtain ⟨s7, -⟩ := s7.zero hb
    refine wy_loop2 (A := A) (B := B) hro hrk hko hB hu u 0 τ7 Q (by omega) hI7 c7 i7 o7 (by rw [hb]; exact stk.here _ _) (fun τ8 m8 a8 i8 o8 s8 => ?_)
    have w18 := w17.trans a8
    refine ⟨fun z8 => ?_, fun z8 => ?_⟩
    · obtain ⟨s8, -⟩ := s8.zero z8
      refine hs τ8 m8 w18 (wres_some se z ?_) i8
      rw [s7]
      exact s8
    · refine hn τ8 _ w18 (wres_big se z ?_) (Or.inl rfl)
      rw [s7]
      exact s8.one z8
  · have e0 : wres r K u = .inl (-5) := wres_big se z (by rw [s7.one hb]; rfl)
    have fin : (gI τ7 30 0 = 0 → Q (some (aI 0)) τ7) ∧ (¬ gI τ7 30 0 = 0 → Q (some (aI (-5))) τ7) := ⟨fun c => absurd c hb, fun _ => hn τ7 _ w17 e0 (Or.inl rfl)⟩
    exact bk_Op_closeWay_178 _ _ _ ⟨fun _ => fin, fun _ => ⟨fun _ => fin, fun _ => ⟨fun c => absurd c hb, fun _ => fin⟩⟩⟩
theorem sp_hasLook {n : Nat} {x : Int32} (hr : gI σ 11 7 = nI n) (hro : n ≤ 80) (hy : 0 ≤ x.toInt ∧ x.toInt < n → Q (some (aI 1)) σ) (hn : ¬ (0 ≤ x.toInt ∧ x.toInt < n) → Q (some (aI 0)) σ) : Cl lay1 (d + 1) M_Ri_hasLook [aO 8 11, aI x] σ Q := by
  refine bk_Ri_hasLook_0 _ ⟨fun c => ⟨b01, hn ?_⟩, fun c => ⟨fun c2 => ⟨b01, hn ?_⟩, fun c2 => ⟨b11, hy ?_⟩⟩⟩
  · rw [z_lt] at c; omega
  · rw [hr, Int32.le_iff_toInt_le, nI_toInt (by omega)] at c2; omega
  · rw [z_lt] at c
    rw [hr, Int32.le_iff_toInt_le, nI_toInt (by omega)] at c2
    omega
theorem sp_hasKick {n : Nat} {x : Int32} (hr : gI σ 11 6 = nI n) (hro : n ≤ 80) (hy : 0 ≤ x.toInt ∧ x.toInt < n → Q (some (aI 1)) σ) (hn : ¬ (0 ≤ x.toInt ∧ x.toInt < n) → Q (some (aI 0)) σ) : Cl lay1 (d + 1) M_Ri_hasKick [aO 8 11, aI x] σ Q := by
  refine bk_Ri_hasKick_0 _ ⟨fun c => ⟨b01, hn ?_⟩, fun c => ⟨fun c2 => ⟨b01, hn ?_⟩, fun c2 => ⟨b11, hy ?_⟩⟩⟩
  · rw [z_lt] at c; omega
  · rw [hr, Int32.le_iff_toInt_le, nI_toInt (by omega)] at c2; omega
  · rw [z_lt] at c
    rw [hr, Int32.le_iff_toInt_le, nI_toInt (by omega)] at c2
    omega
theorem sp_tellWay {c : Mt} (hln : LN σ) (hla : LA σ) (hm : isM σ 42 c) (h : ∀ τ, cT σ τ → toldC τ [c.1, c.2] → Q (some (aI 2)) τ) : Cl lay1 (d + 3) M_Op_tellWay [aO 4 29] σ Q := by
  refine bk_Op_tellWay_0 ?_
  refine sp_tell (l := []) (u := 41) (f := c.1) hln hla (toldC_0 σ) (by decide) hm.1 (fun τ1 a1 t1 => ?_)
  refine sp_tell (l := [c.1]) (u := 42) (f := c.2) (hln.of a1.2.2.1) (hla.of a1.2.2.2.1) t1 (by simp) (a1.F (by omega) hm.2) (fun τ2 a2 t2 => ?_)
  have e : gI τ2 29 13 = 2 := t2.1
  have := h τ2 (((cT_0 σ).trans a1).trans a2) t2
  show Q (some (aI (gI τ2 29 13))) τ2
  rw [e]
  exact this
theorem sp_tellWayX {c : Mt} (hln : LN σ) (hla : LA σ) (hm : isM σ 42 c) (h : ∀ τ, cT σ τ → toldC τ [c.1] → Q (some (aI 1)) τ) : Cl lay1 (d + 3) M_Op_tellWayX [aO 4 29] σ Q := by
  refine bk_Op_tellWayX_0 ?_
  refine sp_tell (l := []) (u := 41) (f := c.1) hln hla (toldC_0 σ) (by decide) hm.1 (fun τ1 a1 t1 => ?_)
  have e : gI τ1 29 13 = 1 := t1.1
  have := h τ1 ((cT_0 σ).trans a1) t1
  show Q (some (aI (gI τ1 29 13))) τ1
  rw [e]
  exact this
theorem sp_C_way {r : Rg} {K : Kk} {l : List (Int × Nat)} {i : Int32} (hln : LN σ) (hla : LA σ) (hr : RC σ r) (hro : rgOK r) (hck : CK σ r) (hrk : rkOK r) (hkf : kF σ 14 r K) (hko : kOK r K) (hl : toldC σ l) (h : ∀ τ, cn σ τ → toldC τ (spWay r K l i).2 → Q (some (aI (spWay r K l i).1)) τ) : Cl lay1 (d + 7) M_C_way [aO 11 3, aI i] σ Q := by
  have h80 := hro.1
  refine bk_C_way_0 _ ?_
  refine sp_hasPart hr.1 h80 (fun c => ⟨fun z => absurd z (by decide), fun _ => ?_⟩) (fun c => ⟨fun _ => ?_, fun z => absurd rfl z⟩)
  · have ei := nI_self (x := i) (by omega)
    have es : spWay r K l i = (match wres r K i.toInt.toNat with
      | .inr c => (2, [c.1, c.2])
      | .inl v => (v, l)) := if_pos c
    rw [ei]
    have hI : wyI σ 12 13 r K := ⟨hln, hla, hln.at 13 12 (by decide), fun k hk => by rw [hla.2.2 k hk], hr, hck, hkf⟩
    refine sp_closeWay (A := 12) (B := 13) hI hro hrk hko (Or.inl rfl) (by omega) (fun τ c a e hm => ?_) (fun τ v a e hv => ?_)
    · rw [e] at es
      refine ⟨fun _ => ?_, fun z => absurd rfl z⟩
      refine sp_tellWay (hln.of a.2.2.1) (hla.of a.2.2.2.1) hm (fun υ b1 b2 => ?_)
      have := h υ ((a.cn (by decide)).trans b1.cn) (by rw [es]; exact b2)
      rw [es] at this
      exact this
    · rw [e] at es
      have := h τ (a.cn (by decide)) (by rw [es]; exact a.told (by decide) hl)
      rw [es] at this
      exact ⟨fun z => (by rcases hv with hv | hv <;> rw [hv] at z <;> exact absurd z (by decide)), fun _ => this⟩
  · have es : spWay r K l i = (-1, l) := by unfold spWay; rw [if_neg c]
    have := h σ (cn.rf σ) (by rw [es]; exact hl)
    rw [es] at this
    exact this
theorem sp_onlyKick_loop {x : Nat} (hx : x < 12) : ∀ (m k : Nat) (σ : St) (Q : Option AV → St → Prop), k + m = 12 → LN σ → LA σ → (∀ j, j < k → isF σ (52 + j) (onlyK x j)) → (∀ τ, cn σ τ → (∀ j, (j < 52 ∨ 63 < j) → ∀ k, gL τ j k = gL σ j k) → gI τ = gI σ → (∀ j, j < 12 → isF τ (52 + j) (onlyK x j)) → Q (some (aO 21 50)) τ) → Wp lay1 rtOf (Cl lay1 (d + 2)) k_Op_onlyKick 25 Q (2, [aO 4 29, aI (nI x), aI (nI k)], [], σ) := by
  intro m
  induction m with
  | zero =>
    intro k σ Q hk hln hla hs h
    refine bk_Op_onlyKick_2 _ _ ⟨fun _ => h σ (cn.rf _) (fun _ _ _ => rfl) rfl (fun j hj => hs j (by omega)), fun c => absurd ?_ c⟩
    rw [show k = 12 by omega]
    decide
  | succ m ih =>
    intro k σ Q hk hln hla hs h
    have hk12 : k < 12 := by omega
    have key : ∀ f, f = onlyK x k → Wp lay1 rtOf (Cl lay1 (d + 2)) k_Op_onlyKick 25 Q (2, [aO 4 29, aI (nI x), aI (nI k + 1)], [], stF σ (52 + k) f) := by
      intro f hf
      rw [nI_1]
      have a1 := stF_ar σ (52 + k) f
      have i1 := stF_is σ (52 + k) f
      have g1 : gI (stF σ (52 + k) f) = gI σ := rfl
      generalize stF σ (52 + k) f = τ at a1 i1 g1
      have ee : ∀ j, (j < 52 ∨ 63 < j) → ∀ i, gL τ j i = gL σ j i := fun j hj i => a1.2.2.2.2.2 j (fun z => by have := List.mem_singleton.mp z; omega) i
      refine ih (k + 1) τ Q (by omega) (hln.of a1.2.2.1) (hla.of a1.2.2.2.1) (fun j hj => ?_) (fun υ b1 b2 b3 b4 => h υ ((a1.cn (fun j z => by have := List.mem_singleton.mp z; omega)).trans b1) (fun j hj i => (b2 j hj i).trans (ee j hj i)) (b3.trans g1) b4)
      by_cases e : j = k
      · rw [e, ← hf]; exact i1
      · exact a1.F (fun z => by have := List.mem_singleton.mp z; omega) (hs j (by omega))
    refine bk_Op_onlyKick_2 _ _ ⟨fun c => absurd c ?_, fun _ => ⟨?_, fun c => nn_of ?_ ?_, fun c => nn_of ?_ ?_⟩⟩
    · rw [show (12 : Int32) = nI 12 from rfl, nI_leI (by omega) (by omega)]; omega
    · rw [hln.at 50 12 (by decide)]; exact inb_nI hk12 (by omega)
    · rw [ix_nI (by omega), hla.2.1 k hk12]; omega
    · rw [ix_nI (by omega), hla.2.1 k hk12, show 52 + k = (51 + k) + 1 by omega]
      rw [nI_eq (by omega) (by omega)] at c
      refine sp_put1 (a := 1) (by decide) ?_
      rw [show (51 + k) + 1 = 52 + k by omega]
      exact key _ (by unfold onlyK; rw [if_pos c])
    · rw [ix_nI (by omega), hla.2.1 k hk12]; omega
    · rw [ix_nI (by omega), hla.2.1 k hk12, show 52 + k = (51 + k) + 1 by omega]
      rw [nI_eq (by omega) (by omega)] at c
      refine sp_put1 (a := 0) (by decide) ?_
      rw [show (51 + k) + 1 = 52 + k by omega]
      exact key _ (by unfold onlyK; rw [if_neg c])
theorem sp_C_answer {r : Rg} {l : List (Int × Nat)} {m k : Int32} (hln : LN σ) (hla : LA σ) (hr : RC σ r) (hro : rgOK r) (hck : CK σ r) (hrk : rkOK r) (hl : toldC σ l) (h : ∀ τ, cn σ τ → toldC τ (spAnswer r l m k).2 → Q (some (aI (spAnswer r l m k).1)) τ) : Cl lay1 (d + 7) M_C_answer [aO 11 3, aI m, aI k] σ Q := by
  have h80 := hro.1
  obtain ⟨hk12, hl12⟩ := hrk
  have bad : ¬ ((0 ≤ m.toInt ∧ m.toInt < ahd r 4 r.1) ∧ 0 ≤ k.toInt ∧ k.toInt < ahd r 3 r.1) → Q (some (aI (-1))) σ := by
    intro q
    have e : spAnswer r l m k = (-1, l) := by unfold spAnswer; rw [if_neg q]
    have := h σ (cn.rf σ) (by rw [e]; exact hl)
    rw [e] at this
    exact this
  refine bk_C_answer_0 _ _ ?_
  refine sp_hasLook hck.2.1 (by omega) (fun c => ⟨fun z => absurd z (by decide), fun _ => ?_⟩) (fun c => ⟨fun _ => bad (fun z => c z.1), fun z => absurd rfl z⟩)
  refine sp_hasKick hck.1 (by omega) (fun c2 => ⟨fun z => absurd z (by decide), fun _ => ?_⟩) (fun c2 => ⟨fun _ => bad (fun z => c2 z.2), fun z => absurd rfl z⟩)
  have em := nI_self (x := m) (by omega)
  have ek := nI_self (x := k) (by omega)
  have es : spAnswer r l m k = (match wres r (onlyK k.toInt.toNat) (pos r 4 m.toInt.toNat) with
    | .inr c => (1, [c.1])
    | .inl v => (v, l)) := if_pos ⟨c, c2⟩
  rw [em, ek]
  generalize hM : m.toInt.toNat = M at es ⊢
  generalize hK : k.toInt.toNat = Kn at es ⊢
  have hM4 : M < ahd r 4 r.1 := by omega
  have hK3 : Kn < ahd r 3 r.1 := by omega
  obtain ⟨q1, q2, q3⟩ := pos_ok hM4
  refine bk_Op_onlyKick_0 _ ?_
  refine sp_onlyKick_loop (d := d + 3) (x := Kn) (by omega) 12 0 σ _ (by omega) hln hla (fun j hj => absurd hj (by omega)) (fun τ a1 a2 a3 a4 => ?_)
  have e27 : gI τ 27 M = nI (pos r 4 M) := by
    rw [a3]
    have := (hck.2.2 _ q1).2 q2
    rw [q3] at this
    exact this
  have hln1 := hln.of a1.2.2.1
  have hla1 := hla.of a1.2.2.2.1
  refine ⟨rfl, by rw [hln1.at 27 12 (by decide)]; exact inb_nI (by omega) (by omega), ?_⟩
  rw [ix_nI (by omega), e27]
  have hr1 : RC τ r := by
    obtain ⟨h1, h2, h3, h4⟩ := hr
    have eR := a1.2.2.2.1
    refine ⟨by rw [a3]; exact h1, by rw [eR]; exact h2, by rw [eR, a1.2.2.1]; exact h3, fun i hi => ?_⟩
    obtain ⟨p1, p2, p3, p4⟩ := h4 i hi
    rw [eR, a3]
    exact ⟨p1, p2, p3, (a2 _ (by omega) 0).trans p4.1, (a2 _ (by omega) 1).trans p4.2⟩
  have hck1 : CK τ r := by unfold CK; rw [a3]; exact hck
  have hI : wyI τ 49 51 r (onlyK Kn) := ⟨hln1, hla1, hln1.at 50 12 (by decide), fun k hk => by rw [hla1.2.1 k hk], hr1, hck1, fun k hk => a4 k (by omega)⟩
  refine sp_closeWay (A := 49) (B := 51) hI hro ⟨hk12, hl12⟩ (fun k _ => onlyK_ok Kn k) (Or.inr rfl) q1 (fun υ c a e hm => ?_) (fun υ v a e hv => ?_)
  · rw [e] at es
    refine ⟨fun _ => ?_, fun z => absurd rfl z⟩
    refine sp_tellWayX (hln1.of a.2.2.1) (hla1.of a.2.2.2.1) hm (fun υ b1 b2 => ?_)
    have := h υ ((a1.trans (a.cn (by decide))).trans b1.cn) (by rw [es]; exact b2)
    rw [es] at this
    exact this
  · rw [e] at es
    have hl1 : toldC τ l := ⟨by rw [a3]; exact hl.1, fun k f hk => by
      have hz := hl.2 k f hk
      exact ⟨(a2 _ (by omega) 0).trans hz.1, (a2 _ (by omega) 1).trans hz.2⟩⟩
    have := h υ (a1.trans (a.cn (by decide))) (by rw [es]; exact a.told (by decide) hl1)
    rw [es] at this
    exact ⟨fun z => (by rcases hv with hv | hv <;> rw [hv] at z <;> exact absurd z (by decide)), fun _ => this⟩
end WAY
