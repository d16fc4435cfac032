/-! ===== LAYER 3, C: tables, the reference: leadsTable, starts, goes ===== -/
abbrev Tb : Type := ((Int × Nat) × (Int × Nat)) × ((Int × Nat) × (Int × Nat))
def tOK (t : Tb) : Prop := mOK t.1 ∧ mOK t.2
/-- the table behind one more PART: the motes (a, c) and (b, d) -/
def tstep (k : Nat) (f : Int × Nat) (t : Tb) : Option Tb := (mstep k f t.1).bind fun m1 => (mstep k f t.2).map fun m2 => (m1, m2)
def tab (σ : St) (t : Tb) : Prop := tF σ 0 t.1.1 ∧ tF σ 1 t.2.1 ∧ tF σ 2 t.1.2 ∧ tF σ 3 t.2.2
theorem mstep_ok {k : Nat} {f : Int × Nat} {m m' : (Int × Nat) × (Int × Nat)} (hf : fOK f) (hm : mOK m) (h : mstep k f m = some m') : mOK m' := by
  unfold mstep at h
  split at h
  · cases h1 : fmul f m.2 with
    | none => rw [h1] at h; cases h
    | some p =>
      rw [h1] at h
      cases h2 : fadd m.1 p with
      | none => rw [show (some p).bind (fadd m.1) = fadd m.1 p from rfl, h2] at h; cases h
      | some q =>
        rw [show (some p).bind (fadd m.1) = fadd m.1 p from rfl, h2] at h
        cases h
        exact ⟨fadd_ok hm.1 (fmul_ok hf hm.2 h1) h2, hm.2⟩
  · split at h
    · cases h1 : fmul f m.1 with
      | none => rw [h1] at h; cases h
      | some p =>
        rw [h1] at h
        cases h2 : fsub m.2 p with
        | none => rw [show (some p).bind (fsub m.2) = fsub m.2 p from rfl, h2] at h; cases h
        | some q =>
          rw [show (some p).bind (fsub m.2) = fsub m.2 p from rfl, h2] at h
          cases h
          exact ⟨hm.1, fsub_ok hm.2 (fmul_ok hf hm.1 h1) h2⟩
    · cases h
      exact hm
theorem lens_eq (x y f : Int × Nat) : (fmul (-f.1, f.2) y).bind (fadd x) = (fmul f y).bind (fsub x) := by
  rw [fmul_neg]
  cases fmul f y with
  | none => rfl
  | some p => exact fadd_neg x p
theorem lead_ok {x y f g : Int × Nat} (hf : fOK f) (hx : fOK x) (hy : fOK y) (h : (fmul f y).bind (fadd x) = some g) : fOK g := by
  cases h1 : fmul f y with
  | none => rw [h1] at h; cases h
  | some p => rw [h1] at h; exact fadd_ok hx (fmul_ok hf hy h1) h
/-- one place told or BIG -/
def tQ (S : List Nat) (σ : St) (o : Nat) (r : Option (Int × Nat)) (τ : St) : Prop := tR S σ τ ∧ ∃ f, tF τ o f ∧ fOK f ∧ (r = some f ∧ gI τ 71 39 = gI σ 71 39 ∨ r = none ∧ gI τ 71 39 = 1)
theorem tP.q {S : List Nat} {σ τ : St} {o : Nat} {r : Option (Int × Nat)} (h : tP S σ o r τ) (hr : ∀ f, r = some f → fOK f) : tQ S σ o r τ := by
  obtain ⟨h1, ⟨f, h2, h3⟩, h4⟩ := h
  cases r with
  | none => exact ⟨h1, f, h2, h3, Or.inr ⟨rfl, h4⟩⟩
  | some g => exact ⟨h1, g, h4.1, hr g rfl, Or.inl ⟨rfl, h4.2⟩⟩
def tabP (σ : St) (r : Option Tb) (τ : St) : Prop := tR [0, 1, 2, 3] σ τ ∧ ∃ t, tab τ t ∧ tOK t ∧ (r = some t ∧ gI τ 71 39 = gI σ 71 39 ∨ r = none ∧ gI τ 71 39 = 1)
section RTAB2
variable {d : Nat} {σ : St} {Q : Option AV → St → Prop}
theorem nIk {k : Nat} (h : k ≤ 4) : (nI k = 0 ↔ k = 0) ∧ (nI k = (1 : Int32) ↔ k = 1) ∧ (nI k = (3 : Int32) ↔ k = 3) ∧ (nI k = (2 : Int32) ↔ k = 2) ∧ (nI k = (4 : Int32) ↔ k = 4) := by
  rcases (show k = 0 ∨ k = 1 ∨ k = 2 ∨ k = 3 ∨ k = 4 by omega) with rfl | rfl | rfl | rfl | rfl <;> decide
theorem sp_leadsTable {i : Nat} {r : Rg} {t : Tb} (hln : LN σ) (hr : RR σ r) (hro : rgOK r) (hi : i < r.1) (ht : tab σ t) (hto : tOK t) (h : ∀ τ, tabP σ (tstep (r.2.1 i) (r.2.2 i) t) τ → Q none τ) : Cl lay1 (d + 5) M_R_leadsTable [aO 12 71, aI (nI i)] σ Q := by
  have e85 := hln.at 85 80 (by decide)
  have e86 := hln.at 86 80 (by decide)
  have e87 := hln.at 87 80 (by decide)
  have h80 := hro.1
  obtain ⟨hk4, hfo⟩ := hro.2 i hi
  obtain ⟨k1, k2, k3⟩ := hr.2 i hi
  obtain ⟨q0, q1, -⟩ := nIk hk4
  have hin : inb (nI i) 80 := inb_nI (by omega) (by omega)
  obtain ⟨t0, t1, t2, t3⟩ := ht
  obtain ⟨⟨oa, oc⟩, ⟨ob, od⟩⟩ := hto
  refine bk_R_leadsTable_0 _ ⟨by rw [e85]; exact hin, fun c => ?_, fun c => ⟨by rw [e85]; exact hin, fun c2 => ?_, fun c2 => ?_⟩⟩
  · rw [ix_nI (by omega), k1, q0] at c
    refine ⟨by rw [e86]; exact hin, by rw [e87]; exact hin, ?_⟩
    rw [ix_nI (by omega), k2, k3]
    refine sp_leads (o := 0) (u := 2) hln (by omega) (by omega) hfo t0 oa t2 oc (fun τ1 p1 => ?_)
    obtain ⟨a1, f1, g1, o1, r1⟩ := p1.q (fun f hf => lead_ok hfo oa oc hf)
    have hln1 := hln.of a1.2.2.1
    have hr1 := a1.R hr
    obtain ⟨k1', k2', k3'⟩ := hr1.2 i hi
    refine ⟨by rw [hln1.at 86 80 (by decide)]; exact hin, by rw [hln1.at 87 80 (by decide)]; exact hin, ?_⟩
    rw [k2', k3']
    refine sp_leads (o := 1) (u := 3) hln1 (by omega) (by omega) hfo (a1.F (by decide) t1) ob (a1.F (by decide) t3) od (fun τ2 p2 => h τ2 ?_)
    obtain ⟨a2, f2, g2, o2, r2⟩ := p2.q (fun f hf => lead_ok hfo ob od hf)
    have e1 : mstep (r.2.1 i) (r.2.2 i) t.1 = ((fmul (r.2.2 i) t.1.2).bind (fadd t.1.1)).map (fun x => (x, t.1.2)) := by unfold mstep; rw [if_pos c]
    have e2 : mstep (r.2.1 i) (r.2.2 i) t.2 = ((fmul (r.2.2 i) t.2.2).bind (fadd t.2.1)).map (fun x => (x, t.2.2)) := by unfold mstep; rw [if_pos c]
    refine ⟨(a1.mono (by simp)).trans (a2.mono (by simp)), ((f1, t.1.2), (f2, t.2.2)), ⟨a2.F (by decide) g1, g2, a2.F (by decide) (a1.F (by decide) t2), a2.F (by decide) (a1.F (by decide) t3)⟩, ⟨⟨o1, oc⟩, ⟨o2, od⟩⟩, ?_⟩
    unfold tstep
    rw [e1, e2]
    rcases r1 with ⟨r1, b1⟩ | ⟨r1, b1⟩ <;> rcases r2 with ⟨r2, b2⟩ | ⟨r2, b2⟩
    · rw [r1, r2]; exact Or.inl ⟨rfl, b2.trans b1⟩
    · rw [r1, r2]; exact Or.inr ⟨rfl, b2⟩
    · rw [r1]; exact Or.inr ⟨rfl, b2.trans b1⟩
    · rw [r1]; exact Or.inr ⟨rfl, b2⟩
  · rw [ix_nI (by omega), k1, q1] at c2
    refine ⟨by rw [e86]; exact hin, by rw [e87]; exact hin, ?_⟩
    rw [ix_nI (by omega), k2, k3, L64_neg]
    refine sp_leads (o := 2) (u := 0) (f := (-(r.2.2 i).1, (r.2.2 i).2)) hln (by omega) (by omega) (fneg_ok hfo) t2 oc t0 oa (fun τ1 p1 => ?_)
    obtain ⟨a1, f1, g1, o1, r1⟩ := p1.q (fun f hf => lead_ok (fneg_ok hfo) oc oa hf)
    rw [lens_eq] at r1
    have hln1 := hln.of a1.2.2.1
    have hr1 := a1.R hr
    obtain ⟨k1', k2', k3'⟩ := hr1.2 i hi
    refine ⟨by rw [hln1.at 86 80 (by decide)]; exact hin, by rw [hln1.at 87 80 (by decide)]; exact hin, ?_⟩
    rw [k2', k3', L64_neg]
    refine sp_leads (o := 3) (u := 1) (f := (-(r.2.2 i).1, (r.2.2 i).2)) hln1 (by omega) (by omega) (fneg_ok hfo) (a1.F (by decide) t3) od (a1.F (by decide) t1) ob (fun τ2 p2 => h τ2 ?_)
    obtain ⟨a2, f2, g2, o2, r2⟩ := p2.q (fun f hf => lead_ok (fneg_ok hfo) od ob hf)
    rw [lens_eq] at r2
    have e1 : mstep (r.2.1 i) (r.2.2 i) t.1 = ((fmul (r.2.2 i) t.1.1).bind (fsub t.1.2)).map (fun x => (t.1.1, x)) := by unfold mstep; rw [if_neg (by omega), if_pos c2]
    have e2 : mstep (r.2.1 i) (r.2.2 i) t.2 = ((fmul (r.2.2 i) t.2.1).bind (fsub t.2.2)).map (fun x => (t.2.1, x)) := by unfold mstep; rw [if_neg (by omega), if_pos c2]
    refine ⟨(a1.mono (by simp)).trans (a2.mono (by simp)), ((t.1.1, f1), (t.2.1, f2)), ⟨a2.F (by decide) (a1.F (by decide) t0), a2.F (by decide) (a1.F (by decide) t1), a2.F (by decide) g1, g2⟩, ⟨⟨oa, o1⟩, ⟨ob, o2⟩⟩, ?_⟩
    unfold tstep
    rw [e1, e2]
    rcases r1 with ⟨r1, b1⟩ | ⟨r1, b1⟩ <;> rcases r2 with ⟨r2, b2⟩ | ⟨r2, b2⟩
    · rw [r1, r2]; exact Or.inl ⟨rfl, b2.trans b1⟩
    · rw [r1, r2]; exact Or.inr ⟨rfl, b2⟩
    · rw [r1]; exact Or.inr ⟨rfl, b2.trans b1⟩
    · rw [r1]; exact Or.inr ⟨rfl, b2⟩
  · rw [ix_nI (by omega), k1, q0] at c
    rw [ix_nI (by omega), k1, q1] at c2
    have e : ∀ m, mstep (r.2.1 i) (r.2.2 i) m = some m := fun m => by unfold mstep; rw [if_neg c, if_neg c2]
    refine h σ ⟨tR.rf _ _, t, ⟨t0, t1, t2, t3⟩, ⟨⟨oa, oc⟩, ⟨ob, od⟩⟩, Or.inl ⟨?_, rfl⟩⟩
    unfold tstep
    rw [e, e]
    rfl
/-- n PARTS from PART i on, round and round -/
def tgo (r : Rg) (i : Nat) : Nat → Option Tb
  | 0 => some (((1, 1), (0, 1)), ((0, 1), (1, 1)))
  | n + 1 => (tgo r i n).bind (tstep (r.2.1 ((i + n) % r.1)) (r.2.2 ((i + n) % r.1)))
theorem tgo_none {r : Rg} {i k : Nat} (h : tgo r i k = none) : ∀ n, k ≤ n → tgo r i n = none := by
  intro n
  induction n with
  | zero => intro hk; rw [show k = 0 by omega] at h; exact h
  | succ n ih =>
    intro hk
    by_cases e : k = n + 1
    · rw [← e]; exact h
    · show (tgo r i n).bind _ = none
      rw [ih (by omega)]
      rfl
def goP (r : Rg) (i n : Nat) (σ τ : St) : Prop := tR [0, 1, 2, 3, 4, 5, 6, 7] σ τ ∧ ∃ t, tab τ t ∧ tOK t ∧ (tgo r i n = some t ∧ gI τ 71 39 = 0 ∨ tgo r i n = none ∧ gI τ 71 39 = 1)
theorem sp_goes_loop {r : Rg} {i n : Nat} (hro : rgOK r) (hi : i < 100) (hn : n ≤ 200) (h0 : 0 < r.1) : ∀ (m k : Nat) (σ : St) (Q : Option AV → St → Prop), k + m = n → LN σ → RR σ r → ∀ t, tab σ t → tOK t → (tgo r i k = some t ∧ gI σ 71 39 = 0 ∨ tgo r i k = none ∧ gI σ 71 39 = 1) → (∀ τ, goP r i n σ τ → Q none τ) → Wp lay1 rtOf (Cl lay1 (d + 5)) k_R_goes 0 Q (6, [aO 12 71, aI (nI i), aI (nI n), aI (nI k)], [], σ) := by
  have h80 := hro.1
  intro m
  induction m with
  | zero =>
    intro k σ Q hk hln hr t ht hto hs h
    refine bk_R_goes_6 _ _ _ ⟨fun _ => h σ ⟨tR.rf _ _, t, ht, hto, ?_⟩, fun c => absurd ((nI_leI (by omega) (by omega)).mpr (by omega)) c⟩
    rw [show n = k by omega]
    exact hs
  | succ m ih =>
    intro k σ Q hk hln hr t ht hto hs h
    refine bk_R_goes_6 _ _ _ ⟨fun c => absurd ((nI_leI (by omega) (by omega)).mp c) (by omega), fun _ => ⟨fun c => ?_, fun c => ?_⟩⟩
    · have hs : tgo r i k = some t := by
        rcases hs with ⟨q, -⟩ | ⟨-, q⟩
        · exact q
        · rw [q] at c; exact absurd c (by decide)
      refine ⟨by rw [hr.1]; exact nI_ne0 h0 (by omega), ?_⟩
      rw [hr.1, nI_add, pk_rem (by omega) h0 (by omega)]
      refine sp_leadsTable hln hr hro (Nat.mod_lt _ h0) ht hto (fun τ p => ?_)
      obtain ⟨a, t', ht', hto', rr⟩ := p
      rw [c] at rr
      have a' : tR [0, 1, 2, 3, 4, 5, 6, 7] σ τ := a.mono (by simp)
      show Wp lay1 rtOf (Cl lay1 (d + 5)) k_R_goes 0 Q (6, [aO 12 71, aI (nI i), aI (nI n), aI (nI k + 1)], [], τ)
      rw [nI_1]
      refine ih (k + 1) τ Q (by omega) (hln.of a.2.2.1) (a.R hr) t' ht' hto' ?_ (fun υ hυ => h υ ?_)
      · show ((tgo r i k).bind _ = _ ∧ _) ∨ ((tgo r i k).bind _ = _ ∧ _)
        rw [hs]
        exact rr
      · obtain ⟨b1, b2⟩ := hυ
        exact ⟨a'.trans b1, b2⟩
    · refine h σ ⟨tR.rf _ _, t, ht, hto, ?_⟩
      rcases hs with ⟨-, q⟩ | ⟨q, q2⟩
      · exact absurd q c
      · exact Or.inr ⟨tgo_none q n (by omega), q2⟩
end RTAB2
