/-! ===== LAYER 3, D: closed ways, the reference ===== -/
theorem hP.q {σ τ : St} {r : Option (Int × Nat)} (h : hP σ r τ) (hr : ∀ f, r = some f → fOK f) : hR σ τ ∧ ∃ f, atF τ f ∧ fOK f ∧ stk (gI σ 71 39) (gI τ 71 39) r f := by
  obtain ⟨h1, ⟨f, h2, h3⟩, h4⟩ := h
  cases r with
  | none => exact ⟨h1, f, h2, h3, Or.inr ⟨rfl, h4⟩⟩
  | some g => exact ⟨h1, g, h4.1, hr g rfl, Or.inl ⟨rfl, h4.2⟩⟩
def tM (σ : St) (o : Nat) (m : Mt) : Prop := tF σ o m.1 ∧ tF σ (o + 1) m.2
def rkF (σ : St) (r : Rg) (K : Kk) : Prop := ∀ k, k < ahd r 3 r.1 → gL σ 88 k = L64 (K k).1 ∧ gL σ 89 k = L64 (K k).2
/-- which KICKS: as they stand, or one alone -/
def rkv (σ : St) (r : Rg) (K : Kk) (x : Int32) : Prop := x = -1 ∧ rkF σ r K ∨ ∃ k, k < 12 ∧ x = nI k ∧ K = onlyK k
theorem rkv.of {S : List Nat} {σ τ : St} {r : Rg} {K : Kk} {x : Int32} (h : rkv σ r K x) (a : tR S σ τ) : rkv τ r K x := by
  rcases h with ⟨h, q⟩ | h
  · exact Or.inl ⟨h, fun k hk => ⟨(a.2.2.2.2.2 88 k (by omega) (by omega)).trans (q k hk).1, (a.2.2.2.2.2 89 k (by omega) (by omega)).trans (q k hk).2⟩⟩
  · exact Or.inr h
theorem hR.F {σ τ : St} (h : hR σ τ) {k : Nat} {f : Int × Nat} (hf : tF σ k f) : tF τ k f := (h.t []).F (by simp) hf
theorem nI_sub1 (a : Nat) : nI (a + 1) - 1 = nI a := by
  rw [← nI_1, Int32.add_sub_cancel]
theorem bind_comm2 {α β γ : Type} (A : Option α) (B : Option β) (f : α → β → Option γ) : (A.bind fun p => B.bind fun q => f p q) = (B.bind fun q => A.bind fun p => f p q) := by
  cases A <;> cases B <;> rfl
theorem bind_some_id {α : Type} (x : Option α) : x.bind some = x := by cases x <;> rfl
abbrev t8 : List Nat := [0, 1, 2, 3, 4, 5, 6, 7]
section RWAY
variable {d : Nat} {σ : St} {Q : Option AV → St → Prop}
theorem sp_ahead_loop {r : Rg} {c i : Nat} (hln : LN σ) (hr : RR σ r) (hro : rgOK r) (hc : c ≤ 4) (hi : i ≤ r.1) (h : Q (some (aI (nI (ahd r c i)))) σ) : ∀ (n k : Nat), k + n = i → Wp lay1 rtOf (Cl lay1 d) k_R_ahead 1 Q (5, [aO 12 71, aI (nI c), aI (nI i), aI (nI (ahd r c k)), aI (nI k)], [], σ) := by
  have h80 := hro.1
  intro n
  induction n with
  | zero =>
    intro k hk
    have e : k = i := by omega
    subst e
    exact bk_R_ahead_5 _ _ _ _ ⟨fun _ => h, fun c => absurd ((nI_leI (by omega) (by omega)).mpr (by omega)) c⟩
  | succ n ih =>
    intro k hk
    obtain ⟨k1, -, -⟩ := hr.2 k (by omega)
    obtain ⟨hk4, -⟩ := hro.2 k (by omega)
    have hle := ahd_le r c k
    refine bk_R_ahead_5 _ _ _ _ ⟨fun c => absurd ((nI_leI (by omega) (by omega)).mp c) (by omega), fun _ => ⟨by rw [hln.at 85 80 (by decide)]; exact inb_nI (by omega) (by omega), fun z => ?_, fun z => ?_⟩⟩
    · rw [ix_nI (by omega), k1, nI_eq (by omega) (by omega)] at z
      rw [nI_1, nI_1]
      have := ih (k + 1) (by omega)
      rcases ahd_step r c k with ⟨q, -⟩ | ⟨-, q⟩
      · rw [q] at this; exact this
      · exact absurd z q
    · rw [ix_nI (by omega), k1, nI_eq (by omega) (by omega)] at z
      rw [nI_1, Int32.add_zero]
      have := ih (k + 1) (by omega)
      rcases ahd_step r c k with ⟨-, q⟩ | ⟨q, -⟩
      · exact absurd q z
      · rw [q] at this; exact this
theorem sp_ahead {r : Rg} {c i : Nat} (hln : LN σ) (hr : RR σ r) (hro : rgOK r) (hc : c ≤ 4) (hi : i ≤ r.1) (h : Q (some (aI (nI (ahd r c i)))) σ) : Cl lay1 (d + 1) M_R_ahead [aO 12 71, aI (nI c), aI (nI i)] σ Q := bk_R_ahead_0 _ _ (sp_ahead_loop hln hr hro hc hi h i 0 (by omega))
theorem sp_partOf_loop {r : Rg} {c n : Nat} (hln : LN σ) (hr : RR σ r) (hro : rgOK r) (hc : c ≤ 4) (hn : n < ahd r c r.1) (h : Q (some (aI (nI (pos r c n)))) σ) : ∀ (m k a : Nat) (u : AV), k + m = pos r c n → ahd r c k + a = n → Wp lay1 rtOf (Cl lay1 d) k_R_partOf 1 Q (5, [aO 12 71, aI (nI c), u, aI (nI k), aI (nI a)], [], σ) := by
  have h80 := hro.1
  obtain ⟨p1, p2, p3⟩ := pos_ok hn
  have hle := ahd_le r c r.1
  intro m
  induction m with
  | zero =>
    intro k a u hk ha
    have e : k = pos r c n := by omega
    subst e
    obtain ⟨k1, -, -⟩ := hr.2 _ p1
    have z : gI σ 85 (ix (nI (pos r c n))) = nI c := by rw [ix_nI (by omega), k1, p2]
    have a0 : a = 0 := by omega
    subst a0
    refine bk_R_partOf_5 _ _ _ _ ⟨by rw [hln.at 85 80 (by decide)]; exact inb_nI (by omega) (by omega), fun _ => ⟨fun _ => h, fun y => absurd (by decide) y⟩, fun y => absurd z y⟩
  | succ m ih =>
    intro k a u hk ha
    obtain ⟨k1, -, -⟩ := hr.2 k (by omega)
    obtain ⟨hk4, -⟩ := hro.2 k (by omega)
    have hb : inb (nI k) (gN σ 85) := by rw [hln.at 85 80 (by decide)]; exact inb_nI (by omega) (by omega)
    have z : gI σ 85 (ix (nI k)) = nI c ↔ r.2.1 k = c := by rw [ix_nI (by omega), k1, nI_eq (by omega) (by omega)]
    refine bk_R_partOf_5 _ _ _ _ ⟨hb, fun y => ?_, fun y => ⟨hb, fun y2 => absurd y2 y, fun _ => ?_⟩⟩
    · have hkc := z.mp y
      have hlt : ahd r c k < n := by
        rw [← p3]
        exact ahd_lt hkc (by omega)
      obtain ⟨a, rfl⟩ : ∃ b, a = b + 1 := ⟨a - 1, by omega⟩
      refine ⟨fun q => absurd q ?_, fun _ => ⟨hb, fun _ => ?_, fun y2 => absurd y y2⟩⟩
      · rw [show (0 : Int32) = nI 0 from rfl, nI_leI (by omega) (by omega)]; omega
      · rw [nI_1 k, nI_sub1]
        refine ih (k + 1) a _ (by omega) ?_
        rcases ahd_step r c k with ⟨q, -⟩ | ⟨-, q⟩
        · omega
        · exact absurd hkc q
    · rw [nI_1, Int32.sub_zero]
      refine ih (k + 1) a _ (by omega) ?_
      rcases ahd_step r c k with ⟨-, q⟩ | ⟨q, -⟩
      · exact absurd (z.mpr q) y
      · omega
theorem sp_partOf {r : Rg} {c n : Nat} (hln : LN σ) (hr : RR σ r) (hro : rgOK r) (hc : c ≤ 4) (hn : n < ahd r c r.1) (h : Q (some (aI (nI (pos r c n)))) σ) : Cl lay1 (d + 1) M_R_partOf [aO 12 71, aI (nI c), aI (nI n)] σ Q := bk_R_partOf_0 _ _ (sp_partOf_loop hln hr hro hc hn h (pos r c n) 0 n _ (by omega) (by show 0 + n = n; omega))
/-- one place and a FRACTION -/
theorem sp_addAt {o : Nat} {x f : Int × Nat} {K : St → Prop} (hln : LN σ) (ho : o < 8) (hx : tF σ o x) (hxo : fOK x) (hfo : fOK f) (h : ∀ τ, tR [o] σ τ → ∀ y, tF τ o y → fOK y → stk (gI σ 71 39) (gI τ 71 39) (fadd x f) y → K τ) : Cl lay1 (d + 3) M_R_sum [aO 12 71, aJ (L64 x.1), aJ (L64 x.2), aJ (L64 f.1), aJ (L64 f.2)] σ (rV fun σ5 => Cl lay1 (d + 3) M_R_lays [aO 12 71, aI (nI o), aJ (gL σ5 71 37), aJ (gL σ5 71 38)] σ5 (rV K)) := by
  refine sp_sum hxo hfo (fun τ1 p => ?_)
  obtain ⟨a1, y, hy, yo, s1⟩ := p.q (fun g hg => fadd_ok hxo hfo hg)
  show Cl lay1 (d + 3) M_R_lays [aO 12 71, aI (nI o), aJ (gL τ1 71 37), aJ (gL τ1 71 38)] τ1 (rV K)
  rw [hy.1, hy.2]
  refine sp_lays (d := d + 2) (hln.of a1.2.2.1) ho (fun τ2 a2 i2 g2 => ?_)
  exact h τ2 ((a1.t [o]).trans a2) y i2 yo (by rw [g2]; exact s1)
theorem sp_leadsMote {i o : Nat} {r : Rg} {K : Kk} {x3 : Int32} {m : Mt} (hln : LN σ) (hr : RR σ r) (hro : rgOK r) (hrk : rkOK r) (hko : kOK r K) (hi : i < r.1) (ho : o ≤ 6) (hv : rkv σ r K x3) (hm : tM σ o m) (hmo : mOK m) (h : ∀ τ, tR [o, o + 1] σ τ → ∀ m', tM τ o m' → mOK m' → stk (gI σ 71 39) (gI τ 71 39) (kstep r K i m) m' → Q none τ) : Cl lay1 (d + 5) M_R_leadsMote [aO 12 71, aI (nI i), aI (nI o), aI x3] σ Q := by
  have e85 := hln.at 85 80 (by decide)
  have e86 := hln.at 86 80 (by decide)
  have e87 := hln.at 87 80 (by decide)
  have h80 := hro.1
  obtain ⟨hk4, hfo⟩ := hro.2 i hi
  obtain ⟨k1, k2, k3⟩ := hr.2 i hi
  obtain ⟨q0, q1, q3, -⟩ := nIk hk4
  have hin : inb (nI i) 80 := inb_nI (by omega) (by omega)
  refine bk_R_leadsMote_0 _ _ _ ⟨by rw [e85]; exact hin, fun c => ?_, fun c => ⟨by rw [e85]; exact hin, fun c2 => ?_, fun c2 => ⟨by rw [e85]; exact hin, fun c3 => ?_, fun c3 => ?_⟩⟩⟩
  · rw [ix_nI (by omega), k1, q0] at c
    refine ⟨by rw [e86]; exact hin, by rw [e87]; exact hin, ?_⟩
    rw [ix_nI (by omega), k2, k3, nI_1]
    refine sp_leads (o := o) (u := o + 1) hln (by omega) (by omega) hfo hm.1 hmo.1 hm.2 hmo.2 (fun τ1 p1 => ?_)
    obtain ⟨a1, f1, g1, o1, r1⟩ := p1.q (fun f hf => lead_ok hfo hmo.1 hmo.2 hf)
    refine h τ1 (a1.mono (by simp)) (f1, m.2) ⟨g1, a1.F (by simp) hm.2⟩ ⟨o1, hmo.2⟩ ?_
    have e : kstep r K i m = ((fmul (r.2.2 i) m.2).bind (fadd m.1)).map (fun x => (x, m.2)) := by
      have e1 : mstep (r.2.1 i) (r.2.2 i) m = ((fmul (r.2.2 i) m.2).bind (fadd m.1)).map (fun x => (x, m.2)) := if_pos c
      have e2 : ∀ m', kgive r K i m' = some m' := fun m' => if_neg (by omega)
      unfold kstep
      rw [e1, show kgive r K i = some from funext e2, bind_some_id]
    rw [e]
    exact stk.map r1 (fun x => (x, m.2))
  · rw [ix_nI (by omega), k1, q1] at c2
    refine ⟨by rw [e86]; exact hin, by rw [e87]; exact hin, ?_⟩
    rw [ix_nI (by omega), k2, k3, nI_1, L64_neg]
    refine sp_leads (o := o + 1) (u := o) (f := (-(r.2.2 i).1, (r.2.2 i).2)) hln (by omega) (by omega) (fneg_ok hfo) hm.2 hmo.2 hm.1 hmo.1 (fun τ1 p1 => ?_)
    obtain ⟨a1, f1, g1, o1, r1⟩ := p1.q (fun f hf => lead_ok (fneg_ok hfo) hmo.2 hmo.1 hf)
    rw [lens_eq] at r1
    refine h τ1 (a1.mono (by simp)) (m.1, f1) ⟨a1.F (by simp) hm.1, g1⟩ ⟨hmo.1, o1⟩ ?_
    have e : kstep r K i m = ((fmul (r.2.2 i) m.1).bind (fsub m.2)).map (fun y => (m.1, y)) := by
      have e1 : mstep (r.2.1 i) (r.2.2 i) m = ((fmul (r.2.2 i) m.1).bind (fsub m.2)).map (fun y => (m.1, y)) := (if_neg (by omega)).trans (if_pos c2)
      have e2 : ∀ m', kgive r K i m' = some m' := fun m' => if_neg (by omega)
      unfold kstep
      rw [e1, show kgive r K i = some from funext e2, bind_some_id]
    rw [e]
    exact stk.map r1 (fun y => (m.1, y))
  · rw [ix_nI (by omega), k1, q0] at c
    rw [ix_nI (by omega), k1, q1] at c2
    rw [ix_nI (by omega), k1, q3] at c3
    have hlt := ahd_lt c3 hi
    have h12 := hrk.1
    have e : kstep r K i m = (fadd m.2 (K (ahd r 3 i))).map (fun y => (m.1, y)) := by
      have e1 : mstep (r.2.1 i) (r.2.2 i) m = some m := (if_neg (by omega)).trans (if_neg (by omega))
      have e2 : kgive r K i m = (fadd m.2 (K (ahd r 3 i))).map (fun y => (m.1, y)) := if_pos c3
      unfold kstep
      rw [e1]
      exact e2
    have key : ∀ f, f = K (ahd r 3 i) → Cl lay1 (d + 4) M_R_sum [aO 12 71, aJ (gL σ 90 (o + 1)), aJ (gL σ 91 (o + 1)), aJ (L64 f.1), aJ (L64 f.2)] σ (rV fun σ5 => Cl lay1 (d + 4) M_R_lays [aO 12 71, aI (nI (o + 1)), aJ (gL σ5 71 37), aJ (gL σ5 71 38)] σ5 (rV fun σ6 => Q none σ6)) := by
      intro f hf
      have hfok : fOK f := by rw [hf]; exact hko _ hlt
      rw [hm.2.1, hm.2.2]
      refine sp_addAt (d := d + 1) (o := o + 1) hln (by omega) hm.2 hmo.2 hfok (fun τ a y hy yo s => ?_)
      refine h τ (a.mono (by simp)) (m.1, y) ⟨a.F (by simp) hm.1, hy⟩ ⟨hmo.1, yo⟩ ?_
      rw [e, ← hf]
      exact s.map (fun y => (m.1, y))
    rw [nI_1, ix_nI (show o + 1 < 2147483648 by omega)]
    have b90 := hln.b90 (o + 1) (by omega)
    have b91 := hln.b91 (o + 1) (by omega)
    refine sp_ahead (d := d + 3) (c := 3) (i := i) hln hr hro (by omega) (by omega) ?_
    rcases hv with ⟨hx, hkf⟩ | ⟨k, hk, hx, hK⟩
    · subst hx
      obtain ⟨v1, v2⟩ := hkf _ hlt
      refine ⟨fun y => absurd y (by decide), fun _ => ⟨?_, fun y => absurd y (by decide), fun _ => ⟨?_, b90, b91, ?_⟩⟩⟩
      · rw [hln.at 88 12 (by decide)]; exact inb_nI (by omega) (by omega)
      · rw [hln.at 89 12 (by decide)]; exact inb_nI (by omega) (by omega)
      · rw [ix_nI (by omega), v1, v2]
        exact key _ rfl
    · subst hx
      have h0 : (0 : Int32) ≤ nI k := by
        rw [show (0 : Int32) = nI 0 from rfl, nI_leI (by omega) (by omega)]; omega
      refine ⟨fun _ => ⟨fun y => ⟨fun _ => ⟨b90, b91, key (1, 1) ?_⟩, fun y2 => absurd h0 y2⟩, fun y => ⟨fun _ => ⟨b90, b91, key (0, 1) ?_⟩, fun y2 => absurd h0 y2⟩⟩, fun y => absurd h0 y⟩
      · rw [nI_eq (by omega) (by omega)] at y
        rw [hK, ← y]
        exact (if_pos rfl).symm
      · rw [nI_eq (by omega) (by omega)] at y
        rw [hK]
        exact (if_neg (fun z => y z.symm)).symm
  · rw [ix_nI (by omega), k1, q0] at c
    rw [ix_nI (by omega), k1, q1] at c2
    rw [ix_nI (by omega), k1, q3] at c3
    refine h σ (tR.rf _ _) m hm hmo ?_
    have e : kstep r K i m = some m := by
      have e1 : mstep (r.2.1 i) (r.2.2 i) m = some m := (if_neg (by omega)).trans (if_neg (by omega))
      unfold kstep
      rw [e1]
      exact if_neg c3
    rw [e]
    exact stk.here _ _
def rcEnd (d : Nat) (Q : Option AV → St → Prop) (x1 x2 x3 : Int32) (u4 u5 u6 u7 u8 u9 u10 u11 : AV) (σ : St) : Prop := ((gI σ 71 39) = 0 → inb (0 : Int32) (gN σ 90) ∧ (inb (0 : Int32) (gN σ 91) ∧ (Cl lay1 (d + 5) M_R_sum [aO 12 71, aJ (2 : Int64), aJ (1 : Int64), aJ (-(gL σ 90 (ix (0 : Int32)))), aJ (gL σ 91 (ix (0 : Int32)))] σ (rV fun σ1 => Wp lay1 rtOf (Cl lay1 (d + 5)) k_R_closed 1 Q (70, [aO 12 71, aI x1, aI x2, aI x3, u4, u5, u6, u7, u8, u9, u10, u11], [], σ1))))) ∧ (¬ (gI σ 71 39) = 0 → Q (some (aI (-5 : Int32))) σ)
theorem rc_loop1 {r : Rg} {K : Kk} {x1 x2 : Int32} {u4 u5 u6 u7 u8 u9 u10 u11 : AV} (hro : rgOK r) (hrk : rkOK r) (hko : kOK r K) : ∀ (n k : Nat) (σ : St) (Q : Option AV → St → Prop), k + n = r.1 → LN σ → RR σ r → rkv σ r K x2 → ∀ t m, tab σ t → tOK t → tM σ 4 m → mOK m → stk 0 (gI σ 71 39) (wgo r K k) (t, m) → (∀ τ x3 t m, tR t8 σ τ → tab τ t → tOK t → tM τ 4 m → mOK m → stk 0 (gI τ 71 39) (wgo r K r.1) (t, m) → rcEnd d Q x1 x2 x3 u4 u5 u6 u7 u8 u9 u10 u11 τ) → Wp lay1 rtOf (Cl lay1 (d + 5)) k_R_closed 1 Q (6, [aO 12 71, aI x1, aI x2, aI (nI k), u4, u5, u6, u7, u8, u9, u10, u11], [], σ) := by
  have h80 := hro.1
  intro n
  induction n with
  | zero =>
    intro k σ Q hk hln hr hv t m ht hto hm hmo hs h
    have hh := h σ (nI k) t m (tR.rf _ _) ht hto hm hmo (by rw [show r.1 = k by omega]; exact hs)
    refine bk_R_closed_6 _ _ _ _ _ _ _ _ _ _ _ ⟨fun _ => hh, fun c => absurd ?_ c⟩
    rw [hr.1]
    exact (nI_leI (by omega) (by omega)).mpr (by omega)
  | succ n ih =>
    intro k σ Q hk hln hr hv t m ht hto hm hmo hs h
    have hlt : k < r.1 := by omega
    by_cases hb : gI σ 71 39 = 0
    · refine bk_R_closed_6 _ _ _ _ _ _ _ _ _ _ _ ⟨fun c => absurd c ?_, fun _ => ⟨fun _ => ?_, fun c => absurd hb c⟩⟩
      · rw [hr.1, nI_leI (by omega) (by omega)]; omega
      obtain ⟨hs, -⟩ := hs.zero hb
      refine sp_leadsTable hln hr hro hlt ht hto (fun τ1 p => ?_)
      obtain ⟨a1, t1, ht1, hto1, s1⟩ := p
      have hln1 := hln.of a1.2.2.1
      have hr1 := a1.R hr
      refine sp_leadsMote (o := 4) hln1 hr1 hro hrk hko hlt (by omega) (hv.of a1) ⟨a1.F (by decide) hm.1, a1.F (by decide) hm.2⟩ hmo (fun τ2 a2 m2 hm2 hmo2 s2 => ?_)
      show Wp lay1 rtOf (Cl lay1 (d + 5)) k_R_closed 1 Q (6, [aO 12 71, aI x1, aI x2, aI (nI k + 1), u4, u5, u6, u7, u8, u9, u10, u11], [], τ2)
      rw [nI_1]
      have a12 : tR t8 σ τ2 := (a1.mono (by decide)).trans (a2.mono (by decide))
      have hgo : stk 0 (gI τ2 71 39) (wgo r K (k + 1)) (t1, m2) := by
        show stk 0 _ ((wgo r K k).bind _) _
        rw [hs]
        show stk 0 _ ((tstep _ _ t).bind _) _
        have s1 : stk 0 (gI τ1 71 39) (tstep (r.2.1 k) (r.2.2 k) t) t1 := by rw [← hb]; exact s1
        exact s1.bind (s2.map (fun m => (t1, m)))
      refine ih (k + 1) τ2 Q (by omega) (hln1.of a2.2.2.1) (a2.R hr1) (hv.of a12) t1 m2 ⟨a2.F (by decide) ht1.1, a2.F (by decide) ht1.2.1, a2.F (by decide) ht1.2.2.1, a2.F (by decide) ht1.2.2.2⟩ hto1 hm2 hmo2 hgo (fun υ x3 t' m' b1 b2 b3 b4 b5 b6 => h υ x3 t' m' (a12.trans b1) b2 b3 b4 b5 b6)
    · have q1 : gI σ 71 39 = 1 := by
        rcases hs with ⟨-, q⟩ | ⟨-, q⟩
        · exact absurd q hb
        · exact q
      have hh := h σ (nI k) t m (tR.rf _ _) ht hto hm hmo (Or.inr ⟨wgo_none (hs.one hb) _ (by omega), q1⟩)
      exact bk_R_closed_6 _ _ _ _ _ _ _ _ _ _ _ ⟨fun _ => hh, fun _ => ⟨fun c => absurd c hb, fun _ => hh⟩⟩
theorem rc_loop2 {u : Nat} {r : Rg} {K : Kk} {c : Mt} {x2 : Int32} {u3 u4 u5 u6 u7 u8 u9 : AV} (hro : rgOK r) (hrk : rkOK r) (hko : kOK r K) (hu : u < r.1) : ∀ (n k : Nat) (u10 : AV) (σ : St) (Q : Option AV → St → Prop), k + n = u → LN σ → RR σ r → rkv σ r K x2 → ∀ m, tM σ 6 m → mOK m → stk 0 (gI σ 71 39) (cgo r K c k) m → (∀ τ m, tR t8 σ τ → tM τ 6 m → mOK m → stk 0 (gI τ 71 39) (cgo r K c u) m → (gI τ 71 39 = 0 → Q (some (aI 0)) τ) ∧ (¬ gI τ 71 39 = 0 → Q (some (aI (-5))) τ)) → Wp lay1 rtOf (Cl lay1 (d + 5)) k_R_closed 1 Q (387, [aO 12 71, aI (nI u), aI x2, u3, u4, u5, u6, u7, u8, u9, u10, aI (nI k)], [], σ) := by
  have h80 := hro.1
  intro n
  induction n with
  | zero =>
    intro k u10 σ Q hk hln hr hv m hm hmo hs h
    have hh := h σ m (tR.rf _ _) hm hmo (by rw [show u = k by omega]; exact hs)
    refine bk_R_closed_387 _ _ _ _ _ _ _ _ _ _ _ ⟨fun _ => hh, fun c => absurd ?_ c⟩
    exact (nI_leI (by omega) (by omega)).mpr (by omega)
  | succ n ih =>
    intro k u10 σ Q hk hln hr hv m hm hmo hs h
    by_cases hb : gI σ 71 39 = 0
    · refine bk_R_closed_387 _ _ _ _ _ _ _ _ _ _ _ ⟨fun c => absurd c ?_, fun _ => ⟨fun _ => ?_, fun c => absurd hb c⟩⟩
      · rw [nI_leI (by omega) (by omega)]; omega
      obtain ⟨hs, -⟩ := hs.zero hb
      refine sp_leadsMote (o := 6) hln hr hro hrk hko (by omega) (by omega) hv hm hmo (fun τ2 a2 m2 hm2 hmo2 s2 => ?_)
      show Wp lay1 rtOf (Cl lay1 (d + 5)) k_R_closed 1 Q (387, [aO 12 71, aI (nI u), aI x2, u3, u4, u5, u6, u7, u8, u9, unJ u10, aI (nI k + 1)], [], τ2)
      rw [nI_1]
      have a12 : tR t8 σ τ2 := a2.mono (by decide)
      have hgo : stk 0 (gI τ2 71 39) (cgo r K c (k + 1)) m2 := by
        show stk 0 _ ((cgo r K c k).bind _) _
        rw [hs, ← hb]
        exact s2
      refine ih (k + 1) _ τ2 Q (by omega) (hln.of a2.2.2.1) (a2.R hr) (hv.of a12) m2 hm2 hmo2 hgo (fun υ m' b1 b2 b3 b4 => h υ m' (a12.trans b1) b2 b3 b4)
    · have q1 : gI σ 71 39 = 1 := by
        rcases hs with ⟨-, q⟩ | ⟨-, q⟩
        · exact absurd q hb
        · exact q
      have hh := h σ m (tR.rf _ _) hm hmo (Or.inr ⟨cgo_none (hs.one hb) _ (by omega), q1⟩)
      exact bk_R_closed_387 _ _ _ _ _ _ _ _ _ _ _ ⟨fun _ => hh, fun _ => ⟨fun c => absurd c hb, fun _ => hh⟩⟩
theorem hR.tab {σ τ : St} (a : hR σ τ) {t : Tb} (h : tab σ t) : tab τ t := ⟨a.F h.1, a.F h.2.1, a.F h.2.2.1, a.F h.2.2.2⟩
theorem sp_closed {u : Nat} {r : Rg} {K : Kk} {x2 : Int32} (hln : LN σ) (hr : RR σ r) (hro : rgOK r) (hrk : rkOK r) (hko : kOK r K) (hv : rkv σ r K x2) (hu : u < r.1) (hs : ∀ τ c, tR t8 σ τ → wres r K u = .inr c → tM τ 6 c → Q (some (aI 0)) τ) (hn : ∀ τ v, tR t8 σ τ → wres r K u = .inl v → (v = -5 ∨ v = -2) → Q (some (aI v)) τ) : Cl lay1 (d + 6) M_R_closed [aO 12 71, aI (nI u), aI x2] σ Q := by
  have h80 := hro.1
  refine bk_R_closed_0 _ _ ?_
  refine sp_starts (d := d + 3) hln (fun τ1 a1 f1 g1 => ?_)
  refine rc_loop1 hro hrk hko r.1 0 τ1 Q (by omega) (hln.of a1.2.2.1) (a1.R hr) (hv.of a1) (((1, 1), (0, 1)), ((0, 1), (1, 1))) ((0, 1), (0, 1)) ⟨f1 0 (by omega), f1 1 (by omega), f1 2 (by omega), f1 3 (by omega)⟩ ⟨⟨ini_ok 0, ini_ok 2⟩, ⟨ini_ok 1, ini_ok 3⟩⟩ ⟨f1 4 (by omega), f1 5 (by omega)⟩ ⟨ini_ok 4, ini_ok 5⟩ (by rw [g1]; exact stk.here _ _) (fun τ2 x3 t m a2 ht hto hm hmo s2 => ?_)
  have w2 := a1.trans a2
  have ln2 := hln.of w2.2.2.1
  refine ⟨fun c => ⟨ln2.b90 0 (by omega), ln2.b91 0 (by omega), ?_⟩, fun c => hn _ _ w2 (wres_none (by rw [s2.one c]; rfl)) (Or.inl rfl)⟩
  rw [ixl0, ht.1.1, ht.1.2, L64_neg, show (2 : Int64) = L64 2 by decide]
  refine sp_sum (d := d + 2) (x := (2, 1)) (y := (-t.1.1.1, t.1.1.2)) f21 (fneg_ok hto.1.1) (fun τ3 p => ?_)
  obtain ⟨a3, g, hg, go, s3⟩ := p.q (fun f hf => fadd_ok f21 (fneg_ok hto.1.1) hf)
  rw [fadd_neg] at s3
  have w3 : tR t8 σ τ3 := w2.trans (a3.t _)
  have ln3 := hln.of w3.2.2.1
  have t3 := a3.tab ht
  refine bk_R_closed_70 _ _ _ _ _ _ _ _ _ _ _ ⟨ln3.b90 3 (by omega), ln3.b91 3 (by omega), ?_⟩
  simp only [ixl0, ixl1, ixl2, ixl3, ixl4, ixl5]
  rw [hg.1, hg.2, t3.2.2.2.1, t3.2.2.2.2, L64_neg]
  refine sp_sum (d := d + 2) (x := g) (y := (-t.2.2.1, t.2.2.2)) go (fneg_ok hto.2.2) (fun τ4 p => ?_)
  obtain ⟨a4, e, he, eo, s4⟩ := p.q (fun f hf => fadd_ok go (fneg_ok hto.2.2) hf)
  rw [fadd_neg] at s4
  have w4 : tR t8 σ τ4 := w3.trans (a4.t _)
  have ln4 := hln.of w4.2.2.1
  have t4 := a4.tab t3
  have m4 : tM τ4 4 m := ⟨a4.F (a3.F hm.1), a4.F (a3.F hm.2)⟩
  have se : stk 0 (gI τ4 71 39) ((wgo r K r.1).bind fun q => (gapF q.1).map fun e => (q, e)) ((t, m), e) := s2.bind ((stk.bind s3 s4).map (fun e => ((t, m), e)))
  refine ⟨fun c4 => ?_, fun c4 => hn _ _ w4 (wres_none (se.one c4)) (Or.inl rfl)⟩
  obtain ⟨se, -⟩ := se.zero c4
  have e1 := eo.1
  refine ⟨fun z => ?_, fun z => ⟨ln4.b90 3 (by omega), ln4.b91 3 (by omega), ?_⟩⟩
  · rw [he.1, L64_0, cmpL_eq (by omega) (by omega) (by omega) (by omega)] at z
    exact hn _ _ w4 (wres_zero se z) (Or.inr rfl)
  rw [he.1, L64_0, cmpL_eq (by omega) (by omega) (by omega) (by omega)] at z
  rw [he.1, he.2, t4.2.2.2.1, t4.2.2.2.2, L64_neg]
  refine sp_sum (d := d + 2) (x := (1, 1)) (y := (-t.2.2.1, t.2.2.2)) f11 (fneg_ok hto.2.2) (fun τ5 p => ?_)
  obtain ⟨a5, p, hp, po, s5⟩ := p.q (fun f hf => fadd_ok f11 (fneg_ok hto.2.2) hf)
  rw [fadd_neg] at s5
  have w5 : tR t8 σ τ5 := w4.trans (a5.t _)
  have ln5 := hln.of w5.2.2.1
  have t5 := a5.tab t4
  have m5 : tM τ5 4 m := ⟨a5.F m4.1, a5.F m4.2⟩
  refine ⟨ln5.b90 4 (by omega), ln5.b91 4 (by omega), ?_⟩
  rw [hp.1, hp.2, m5.1.1, m5.1.2]
  refine sp_product (d := d + 2) (x := p) (y := m.1) po hmo.1 (fun τ6 p => ?_)
  obtain ⟨a6, q, hq, qo, s6⟩ := p.q (fun f hf => fmul_ok po hmo.1 hf)
  have w6 : tR t8 σ τ6 := w5.trans (a6.t _)
  have ln6 := hln.of w6.2.2.1
  have t6 := a6.tab t5
  have m6 : tM τ6 4 m := ⟨a6.F m5.1, a6.F m5.2⟩
  refine ⟨ln6.b90 1 (by omega), ln6.b91 1 (by omega), ln6.b90 5 (by omega), ln6.b91 5 (by omega), ?_⟩
  rw [t6.2.1.1, t6.2.1.2, m6.2.1, m6.2.2]
  refine sp_product (d := d + 2) (x := t.2.1) (y := m.2) hto.2.1 hmo.2 (fun τ7 p => ?_)
  obtain ⟨a7, q7, hq7, qo7, s7⟩ := p.q (fun f hf => fmul_ok hto.2.1 hmo.2 hf)
  have w7 : tR t8 σ τ7 := w6.trans (a7.t _)
  have ln7 := hln.of w7.2.2.1
  have t7 := a7.tab t6
  have m7 : tM τ7 4 m := ⟨a7.F m6.1, a7.F m6.2⟩
  refine bk_R_closed_211 _ _ _ _ _ _ _ ?_
  simp only [ixl0, ixl1, ixl2, ixl3, ixl4, ixl5]
  rw [hq.1, hq.2, hq7.1, hq7.2]
  refine sp_sum (d := d + 2) (x := q) (y := q7) qo qo7 (fun τ8 p => ?_)
  obtain ⟨a8, z8, hz8, zo8, s8⟩ := p.q (fun f hf => fadd_ok qo qo7 hf)
  have w8 : tR t8 σ τ8 := w7.trans (a8.t _)
  have t8' := a8.tab t7
  have m8 : tM τ8 4 m := ⟨a8.F m7.1, a8.F m7.2⟩
  show Cl lay1 (d + 5) M_R_divided [aO 12 71, aJ (gL τ8 71 37), aJ (gL τ8 71 38), aJ (L64 e.1), aJ (L64 e.2)] τ8 _
  rw [hz8.1, hz8.2]
  refine sp_divided (d := d + 1) (x := z8) (y := e) zo8 eo z (fun τ9 p => ?_)
  obtain ⟨a9, x, hx, xo, s9⟩ := p.q (fun f hf => fdiv_ok zo8 eo z hf)
  have w9 : tR t8 σ τ9 := w8.trans (a9.t _)
  have ln9 := hln.of w9.2.2.1
  have t9 := a9.tab t8'
  have m9 : tM τ9 4 m := ⟨a9.F m8.1, a9.F m8.2⟩
  have sx : stk 0 (gI τ9 71 39) (solX t m e) x := by
    rw [← c4]
    exact stk.bind s5 (stk.bind s6 (stk.bind (stk.bind s7 s8) s9))
  show Cl lay1 (d + 5) M_R_lays [aO 12 71, aI (nI 6), aJ (gL τ9 71 37), aJ (gL τ9 71 38)] τ9 _
  rw [hx.1, hx.2]
  refine sp_lays (d := d + 4) (o := 6) ln9 (by omega) (fun τ10 a10 i10 g10 => ?_)
  have w10 : tR t8 σ τ10 := w9.trans (a10.mono (by decide))
  have ln10 := hln.of w10.2.2.1
  have t10 : tab τ10 t := ⟨a10.F (by decide) t9.1, a10.F (by decide) t9.2.1, a10.F (by decide) t9.2.2.1, a10.F (by decide) t9.2.2.2⟩
  have m10 : tM τ10 4 m := ⟨a10.F (by decide) m9.1, a10.F (by decide) m9.2⟩
  refine ⟨ln10.b90 2 (by omega), ln10.b91 2 (by omega), ln10.b90 4 (by omega), ln10.b91 4 (by omega), ?_⟩
  rw [t10.2.2.1.1, t10.2.2.1.2, m10.1.1, m10.1.2]
  refine sp_product (d := d + 2) (x := t.1.2) (y := m.1) hto.1.2 hmo.1 (fun τ11 p => ?_)
  obtain ⟨a11, q', hq', qo', s11⟩ := p.q (fun f hf => fmul_ok hto.1.2 hmo.1 hf)
  have w11 : tR t8 σ τ11 := w10.trans (a11.t _)
  have ln11 := hln.of w11.2.2.1
  have t11 := a11.tab t10
  have m11 : tM τ11 4 m := ⟨a11.F m10.1, a11.F m10.2⟩
  refine bk_R_closed_284 _ _ _ _ _ _ _ _ _ ⟨ln11.b90 0 (by omega), ln11.b91 0 (by omega), ?_⟩
  simp only [ixl0, ixl1, ixl2, ixl3, ixl4, ixl5]
  rw [t11.1.1, t11.1.2, L64_neg, hq'.1, hq'.2]
  refine sp_sum (d := d + 2) (x := (1, 1)) (y := (-t.1.1.1, t.1.1.2)) f11 (fneg_ok hto.1.1) (fun τ12 p => ?_)
  obtain ⟨a12, p', hp', po', s12⟩ := p.q (fun f hf => fadd_ok f11 (fneg_ok hto.1.1) hf)
  rw [fadd_neg] at s12
  have w12 : tR t8 σ τ12 := w11.trans (a12.t _)
  have ln12 := hln.of w12.2.2.1
  have m12 : tM τ12 4 m := ⟨a12.F m11.1, a12.F m11.2⟩
  refine ⟨ln12.b90 5 (by omega), ln12.b91 5 (by omega), ?_⟩
  rw [hp'.1, hp'.2, m12.2.1, m12.2.2]
  refine sp_product (d := d + 2) (x := p') (y := m.2) po' hmo.2 (fun τ13 p => ?_)
  obtain ⟨a13, q13, hq13, qo13, s13⟩ := p.q (fun f hf => fmul_ok po' hmo.2 hf)
  have w13 : tR t8 σ τ13 := w12.trans (a13.t _)
  show Cl lay1 (d + 5) M_R_sum [aO 12 71, aJ (L64 q'.1), aJ (L64 q'.2), aJ (gL τ13 71 37), aJ (gL τ13 71 38)] τ13 _
  rw [hq13.1, hq13.2]
  refine sp_sum (d := d + 2) (x := q') (y := q13) qo' qo13 (fun τ14 p => ?_)
  obtain ⟨a14, z14, hz14, zo14, s14⟩ := p.q (fun f hf => fadd_ok qo' qo13 hf)
  have w14 : tR t8 σ τ14 := w13.trans (a14.t _)
  show Cl lay1 (d + 5) M_R_divided [aO 12 71, aJ (gL τ14 71 37), aJ (gL τ14 71 38), aJ (L64 e.1), aJ (L64 e.2)] τ14 _
  rw [hz14.1, hz14.2]
  refine sp_divided (d := d + 1) (x := z14) (y := e) zo14 eo z (fun τ15 p => ?_)
  obtain ⟨a15, y, hy, yo, s15⟩ := p.q (fun f hf => fdiv_ok zo14 eo z hf)
  have w15 : tR t8 σ τ15 := w14.trans (a15.t _)
  have ln15 := hln.of w15.2.2.1
  have sy : stk (gI τ9 71 39) (gI τ15 71 39) (solY t m e) y := by
    have eq : solY t m e = (fmul t.1.2 m.1).bind fun q => (fsub (1, 1) t.1.1).bind fun p => ((fmul p m.2).bind (fadd q)).bind fun z => fdiv z e := bind_comm2 _ _ _
    rw [eq, ← g10]
    exact stk.bind s11 (stk.bind s12 (stk.bind (stk.bind s13 s14) s15))
  have x15 : tF τ15 6 x := a15.F (a14.F (a13.F (a12.F (a11.F i10))))
  refine bk_R_closed_370 _ _ _ _ _ _ _ _ _ _ _ ?_
  rw [hy.1, hy.2]
  refine sp_lays (d := d + 4) (o := 7) ln15 (by omega) (fun τ16 a16 i16 g16 => ?_)
  have w16 : tR t8 σ τ16 := w15.trans (a16.mono (by decide))
  have ln16 := hln.of w16.2.2.1
  have s16 : stk 0 (gI τ16 71 39) ((solX t m e).bind fun x => (solY t m e).map fun y => (x, y)) (x, y) := by
    rw [g16]
    exact stk.bind sx (sy.map (fun y => (x, y)))
  have i16' : tM τ16 6 (x, y) := ⟨a16.F (by decide) x15, i16⟩
  by_cases hb : gI τ16 71 39 = 0
  · obtain ⟨s16, -⟩ := s16.zero hb
    refine rc_loop2 hro hrk hko hu u 0 _ τ16 Q (by omega) ln16 (w16.R hr) (hv.of w16) (x, y) i16' ⟨xo, yo⟩ (by rw [hb]; exact stk.here _ _) (fun τ17 m17 a17 i17 o17 s17 => ?_)
    have w17 := w16.trans a17
    refine ⟨fun z17 => ?_, fun z17 => ?_⟩
    · obtain ⟨s17, -⟩ := s17.zero z17
      refine hs τ17 m17 w17 (wres_some se z ?_) i17
      rw [s16]
      exact s17
    · refine hn τ17 _ w17 (wres_big se z ?_) (Or.inl rfl)
      rw [s16]
      exact s17.one z17
  · have e0 : wres r K u = .inl (-5) := wres_big se z (by rw [s16.one hb]; rfl)
    have fin : (gI τ16 71 39 = 0 → Q (some (aI 0)) τ16) ∧ (¬ gI τ16 71 39 = 0 → Q (some (aI (-5))) τ16) := ⟨fun c => absurd c hb, fun _ => hn τ16 _ w16 e0 (Or.inl rfl)⟩
    exact bk_R_closed_387 _ _ _ _ _ _ _ _ _ _ _ ⟨fun _ => fin, fun _ => ⟨fun c => absurd c hb, fun _ => fin⟩⟩
theorem sp_R_way {r : Rg} {K : Kk} {l : List (Int × Nat)} {i : Int32} (hln : LN σ) (hr : RR σ r) (hro : rgOK r) (hrk : rkOK r) (hkf : rkF σ r K) (hko : kOK r K) (hl : toldR σ l) (h : ∀ τ, rn σ τ → toldR τ (spWay r K l i).2 → Q (some (aI (spWay r K l i).1)) τ) : Cl lay1 (d + 7) M_R_way [aO 12 71, aI i] σ Q := by
  have h80 := hro.1
  refine bk_R_way_0 _ ?_
  refine sp_isPart hr.1 h80 (fun c => ⟨fun z => absurd z (by decide), fun _ => ?_⟩) (fun c => ⟨fun _ => ?_, fun z => absurd rfl z⟩)
  · have ei := nI_self (x := i) (by omega)
    have es : spWay r K l i = (match wres r K i.toInt.toNat with
      | .inr c => (2, [c.1, c.2])
      | .inl v => (v, l)) := if_pos c
    rw [ei]
    refine sp_closed hln hr hro hrk hko (Or.inl ⟨rfl, hkf⟩) (by omega) (fun τ c a e hm => ?_) (fun τ v a e hv => ?_)
    · rw [e] at es
      have ln1 := hln.of a.2.2.1
      refine ⟨fun _ => ⟨ln1.b90 6 (by omega), ln1.b91 6 (by omega), ?_⟩, fun z => absurd (by decide) z⟩
      simp only [ixl6, ixl7]
      rw [hm.1.1, hm.1.2]
      refine sp_tells (d := d + 5) (k := 0) ln1 (by omega) (fun υ1 c1 _ n1 o1 => ?_)
      have ln2 := ln1.of c1.2.2.1
      refine ⟨ln2.b90 7 (by omega), ln2.b91 7 (by omega), ?_⟩
      have f2 := c1.t hm.2
      rw [f2.1, f2.2]
      refine sp_tells (d := d + 5) (k := 1) ln2 (by omega) (fun υ2 c2 _ n2 o2 => ?_)
      have fin : rn σ (pI υ2 71 42 2) := a.n.trans ((c1.trans c2).n.trans ⟨rfl, rfl, rfl, rfl, fun j k q => by rw [gI_pI, if_neg (by omega)], fun _ _ _ _ => rfl⟩)
      have := h (pI υ2 71 42 2) fin (by
        rw [es]
        refine ⟨by rw [gI_pI, if_pos ⟨rfl, rfl⟩]; rfl, fun k f hk => ?_⟩
        have hl3 : k < 2 := (List.getElem?_eq_some_iff.mp hk).1
        rcases (show k = 0 ∨ k = 1 by omega) with rfl | rfl
        · cases hk; exact o2 0 _ (by omega) n1
        · cases hk; exact n2)
      rw [es] at this
      exact this
    · rw [e] at es
      have := h τ a.n (by rw [es]; exact a.told hl)
      rw [es] at this
      exact ⟨fun z => (by rcases hv with hv | hv <;> rw [hv] at z <;> exact absurd z (by decide)), fun _ => this⟩
  · have es : spWay r K l i = (-1, l) := if_neg c
    have := h σ (rn.rf σ) (by rw [es]; exact hl)
    rw [es] at this
    exact this
theorem sp_inI {n : Nat} {x y : Int32} (hy' : y = nI n) (hn' : n ≤ 80) (hy : 0 ≤ x.toInt ∧ x.toInt < n → Q (some (aI 1)) σ) (hn : ¬ (0 ≤ x.toInt ∧ x.toInt < n) → Q (some (aI 0)) σ) : Cl lay1 (d + 1) M_R_in [aJ x.toInt64, aJ (0 : Int64), aJ (y - (1 : Int32)).toInt64] σ Q := by
  have e : (y - 1).toInt64 = L64 ((n : Int) - 1) := by
    rw [hy', i64_self, Int32.toInt_sub, nI_toInt (by omega), show (1 : Int32).toInt = 1 by decide]
    congr 1
    exact Int.bmod_eq_of_le (by omega) (by omega)
  have h1 := Int32.toInt_lt x
  have h2 := Int32.le_toInt x
  rw [e, i64_self, L64_0]
  exact sp_in (by omega) (by omega) (by omega) (by omega) (by omega) (by omega) (fun c => hy (by omega)) (fun c => hn (by omega))
theorem sp_R_answer {r : Rg} {l : List (Int × Nat)} {m k : Int32} (hln : LN σ) (hr : RR σ r) (hro : rgOK r) (hrk : rkOK r) (h30 : gI σ 71 30 = nI (ahd r 3 r.1)) (h31 : gI σ 71 31 = nI (ahd r 4 r.1)) (hl : toldR σ l) (h : ∀ τ, rn σ τ → toldR τ (spAnswer r l m k).2 → Q (some (aI (spAnswer r l m k).1)) τ) : Cl lay1 (d + 7) M_R_answer [aO 12 71, aI m, aI k] σ Q := by
  have h80 := hro.1
  obtain ⟨hk12, hl12⟩ := hrk
  have bad : ¬ ((0 ≤ m.toInt ∧ m.toInt < ahd r 4 r.1) ∧ 0 ≤ k.toInt ∧ k.toInt < ahd r 3 r.1) → Q (some (aI (-1))) σ := by
    intro q
    have e : spAnswer r l m k = (-1, l) := by unfold spAnswer; rw [if_neg q]
    have := h σ (rn.rf σ) (by rw [e]; exact hl)
    rw [e] at this
    exact this
  refine bk_R_answer_0 _ _ ?_
  refine sp_inI h31 (by omega) (fun c => ⟨fun z => absurd z (by decide), fun _ => ?_⟩) (fun c => ⟨fun _ => bad (fun z => c z.1), fun z => absurd rfl z⟩)
  refine sp_inI h30 (by omega) (fun c2 => ⟨fun z => absurd z (by decide), fun _ => ?_⟩) (fun c2 => ⟨fun _ => bad (fun z => c2 z.2), fun z => absurd rfl z⟩)
  have em := nI_self (x := m) (by omega)
  have ek := nI_self (x := k) (by omega)
  have es : spAnswer r l m k = (match wres r (onlyK k.toInt.toNat) (pos r 4 m.toInt.toNat) with
    | .inr c => (1, [c.1])
    | .inl v => (v, l)) := if_pos ⟨c, c2⟩
  rw [em, ek]
  generalize hM : m.toInt.toNat = M at es ⊢
  generalize hK : k.toInt.toNat = Kn at es ⊢
  have hM4 : M < ahd r 4 r.1 := by omega
  have hK3 : Kn < ahd r 3 r.1 := by omega
  obtain ⟨q1, q2, q3⟩ := pos_ok hM4
  refine sp_partOf (d := d + 5) (c := 4) hln hr hro (by omega) hM4 ?_
  refine sp_closed (K := onlyK Kn) hln hr hro ⟨hk12, hl12⟩ (fun k _ => onlyK_ok Kn k) (Or.inr ⟨Kn, by omega, rfl, rfl⟩) q1 (fun τ c a e hm => ?_) (fun τ v a e hv => ?_)
  · rw [e] at es
    have ln1 := hln.of a.2.2.1
    refine ⟨fun _ => ⟨ln1.b90 6 (by omega), ln1.b91 6 (by omega), ?_⟩, fun z => absurd (by decide) z⟩
    simp only [ixl6]
    rw [hm.1.1, hm.1.2]
    refine sp_tells (d := d + 5) (k := 0) ln1 (by omega) (fun υ1 c1 _ n1 o1 => ?_)
    have fin : rn σ (pI υ1 71 42 1) := a.n.trans (c1.n.trans ⟨rfl, rfl, rfl, rfl, fun j k q => by rw [gI_pI, if_neg (by omega)], fun _ _ _ _ => rfl⟩)
    have := h (pI υ1 71 42 1) fin (by
      rw [es]
      refine ⟨by rw [gI_pI, if_pos ⟨rfl, rfl⟩]; rfl, fun k f hk => ?_⟩
      have hl3 : k < 1 := (List.getElem?_eq_some_iff.mp hk).1
      rcases (show k = 0 by omega) with rfl
      cases hk; exact n1)
    rw [es] at this
    exact this
  · rw [e] at es
    have := h τ a.n (by rw [es]; exact a.told hl)
    rw [es] at this
    exact ⟨fun z => (by rcases hv with hv | hv <;> rw [hv] at z <;> exact absurd z (by decide)), fun _ => this⟩
end RWAY
