/-! ===== LAYER 3, F: the component's reader: its state, endPart, lineOf ===== -/
set_option maxRecDepth 50000 in
theorem bk_Fr_init_9 {d : Nat} {σ : St} {Q : Option AV → St → Prop} (u0 : AV)
    (h : Q none σ) : Wp lay1 rtOf (Cl lay1 d) k_Fr_init 0 Q (9, [u0], [], σ) :=
  run_intro (Cl_mono lay1 d) [9] 600 h
set_option maxRecDepth 50000 in
theorem bk_Fr_init_0 {d : Nat} {σ : St} {Q : Option AV → St → Prop} (x0 : Nat)
    (h : Wp lay1 rtOf (Cl lay1 d) k_Fr_init 0 Q (9, [aO 0 (x0 + 1)], [], (pL σ (x0 + 1) 1 (1 : Int64)))) : Cl lay1 (d + 1) M_Fr_init [aO 0 (x0 + 1)] σ Q :=
  run_intro (Cl_mono lay1 d) [9] 600 h
theorem LN.lo {σ τ : St} (h : LN σ) (e : ∀ j, j < 95 → gN τ j = gN σ j) : LN τ := fun q hq => by
  have hb : lnL.all (fun q => decide (q.1 < 95)) = true := by decide
  have := of_decide_eq_true (List.all_eq_true.mp hb q hq)
  rw [e q.1 this]
  exact h q hq
def linesC (σ : St) : Nat → List Ln → Prop
  | j, [] => j = 0
  | j, l :: r => 95 ≤ j ∧ j < sN σ ∧ gL σ j 0 = L64 (encL 32 l.1 : Nat) ∧ 95 ≤ gR σ j 1 ∧ gR σ j 1 < sN σ ∧ gN σ (gR σ j 1) = l.2.length ∧ (∀ i q, l.2[i]? = some q → ptC σ (gR σ (gR σ j 1) i) q) ∧ linesC σ (gR σ j 2) r
theorem he.lines {σ τ : St} (h : he σ τ) : ∀ {ls : List Ln} {j : Nat}, linesC σ j ls → linesC τ j ls
  | [], _, hl => hl
  | l :: r, j, hl => by
    obtain ⟨h1, h2, h3, h4, h5, h6, h7, h8⟩ := hl
    have h0 := h.1
    obtain ⟨-, a2, a3, -⟩ := h.2 j h1 h2
    obtain ⟨-, -, b3, b4⟩ := h.2 _ h4 h5
    refine ⟨h1, by omega, (a2 0).trans h3, by rw [a3]; exact h4, by rw [a3]; omega, by rw [a3, b4]; exact h6, fun i q hq => ?_, ?_⟩
    · rw [a3, b3]
      exact h.pt (h7 i q hq)
    · rw [a3]
      exact he.lines h h8
def opC (σ : St) (o : List (Nat × Nat)) : Prop := gI σ 4 4 = nI o.length ∧ ∀ i q, o.reverse[i]? = some q → gI σ 9 i = nI q.1 ∧ gI σ 10 i = nI q.2
def baC (σ : St) (b : Ba) : Prop := linesC σ (gR σ 4 5) b.1 ∧ rowC σ b.2.1 ∧ opC σ b.2.2.1 ∧ gL σ 4 7 = L64 (encL 32 b.2.2.2 : Nat)
def liOK (ls : List Ln) : Prop := ∀ l ∈ ls, rwOK (l.2, false) ∧ lettersOK l.1
def baOK (b : Ba) : Prop := liOK b.1 ∧ rwOK b.2.1 ∧ (b.2.2.1.length ≤ 6 ∧ ∀ q ∈ b.2.2.1, q.1 ≤ b.2.1.1.length ∧ 1 ≤ q.2 ∧ q.2 ≤ 40) ∧ lettersOK b.2.2.2
def psC (σ : St) (p : Ps) : Prop := gI σ 4 6 = nI p.2.1 ∧ linesC σ (gR σ 4 5) p.1.1 ∧ (p.2.1 ≠ 0 → baC σ p.1) ∧ (p.2.1 = 4 ∨ p.2.1 = 5 → gI σ 4 8 = nI p.2.2.1 ∧ gI σ 4 9 = I32 p.2.2.2.1) ∧ (p.2.1 = 6 ∨ p.2.1 = 7 → gI σ 4 8 = nI p.2.2.1 ∧ gI σ 4 10 = I32 p.2.2.2.2.1) ∧ (p.2.1 = 8 ∨ p.2.1 = 9 → gI σ 4 11 = nI p.2.2.2.2.2)
def psOK (p : Ps) : Prop := liOK p.1.1 ∧ p.2.1 ≤ 9 ∧ (p.2.1 ≠ 0 → baOK p.1) ∧ (p.2.1 = 4 ∨ p.2.1 = 5 → p.2.2.1 ≤ 2 ∧ (p.2.2.2.1 = 1 ∨ p.2.2.2.1 = -1)) ∧ (p.2.1 = 6 ∨ p.2.1 = 7 → p.2.2.1 ≤ 2 ∧ p.2.2.2.2.1.natAbs ≤ 9999) ∧ (p.2.1 = 8 ∨ p.2.1 = 9 → 1 ≤ p.2.2.2.2.2 ∧ p.2.2.2.2.2 ≤ 40)
/-- what a token's reading changes -/
def rdT (σ τ : St) : Prop := he σ τ ∧ (∀ j, j < 95 → gN τ j = gN σ j) ∧ (∀ j k, j < 95 → ¬ (j = 4 ∧ k = 5) → j ≠ 8 → gR τ j k = gR σ j k) ∧ (∀ j k, j < 95 → ¬ (j = 4 ∧ 4 ≤ k) → j ≠ 7 → j ≠ 9 → j ≠ 10 → gI τ j k = gI σ j k) ∧ ∀ j k, j < 95 → ¬ (j = 4 ∧ k = 7) → gL τ j k = gL σ j k
theorem rdT.rf (σ : St) : rdT σ σ := ⟨he.rf σ, fun _ _ => rfl, fun _ _ _ _ _ => rfl, fun _ _ _ _ _ _ _ => rfl, fun _ _ _ _ => rfl⟩
theorem rdT.trans {σ τ υ : St} (h : rdT σ τ) (g : rdT τ υ) : rdT σ υ := ⟨h.1.trans g.1, fun j a => (g.2.1 j a).trans (h.2.1 j a), fun j k a b c => (g.2.2.1 j k a b c).trans (h.2.2.1 j k a b c), fun j k a b c e f => (g.2.2.2.1 j k a b c e f).trans (h.2.2.2.1 j k a b c e f), fun j k a b => (g.2.2.2.2 j k a b).trans (h.2.2.2.2 j k a b)⟩
theorem fA.rd {σ τ : St} (h : fA σ τ) : rdT σ τ := ⟨h.he, fun j _ => by rw [h.2.2.1], fun j k _ _ c => h.2.2.2.2.1 j k c, fun j k _ _ c _ _ => h.2.2.2.2.2 j k c, fun j k _ _ => by rw [h.2.2.2.1]⟩
theorem rdT_4 {σ : St} {k : Nat} (v : Int32) (h : 4 ≤ k) : rdT σ (pI σ 4 k v) := ⟨⟨Nat.le_refl _, fun j h1 _ => ⟨fun k => by rw [gI_pI, if_neg (by omega)], fun _ => rfl, fun _ => rfl, rfl⟩⟩, fun _ _ => rfl, fun _ _ _ _ _ => rfl, fun a b _ q _ _ _ => by rw [gI_pI, if_neg (by omega)], fun _ _ _ _ => rfl⟩
theorem rdT_9 {σ : St} {j : Nat} (k : Nat) (v : Int32) (h : j = 9 ∨ j = 10) : rdT σ (pI σ j k v) := ⟨⟨Nat.le_refl _, fun j h1 _ => ⟨fun k => by rw [gI_pI, if_neg (by omega)], fun _ => rfl, fun _ => rfl, rfl⟩⟩, fun _ _ => rfl, fun _ _ _ _ _ => rfl, fun a b _ _ _ c d => by rw [gI_pI, if_neg (by omega)], fun _ _ _ _ => rfl⟩
theorem rdT.LN {σ τ : St} (h : rdT σ τ) (hl : LN σ) : LN τ := hl.lo h.2.1
theorem nF0 : nF 0 = 2 := by decide
theorem nF5 : nF 5 = 2 := by decide
theorem nF2' : nF 2 = 3 := by decide
theorem rdT_nw {σ : St} (t n : Nat) (h : 95 ≤ sN σ) : rdT σ (nw σ t n) := ⟨⟨by rw [sN_nw]; omega, fun j _ h2 => ⟨fun k => by rw [gI_nw, if_neg (by omega)], fun k => by rw [gL_nw, if_neg (by omega)], fun k => by rw [gR_nw, if_neg (by omega)], by rw [gN_nw, if_neg (by omega)]⟩⟩, fun j h1 => by rw [gN_nw, if_neg (by omega)], fun j k h1 _ _ => by rw [gR_nw, if_neg (by omega)], fun j k h1 _ _ _ _ => by rw [gI_nw, if_neg (by omega)], fun j k h1 _ => by rw [gL_nw, if_neg (by omega)]⟩
/-- writes into a cell that wasn't there at σ -/
theorem rdT.pI {σ τ : St} (h : rdT σ τ) {j : Nat} (k : Nat) (v : Int32) (hj : sN σ ≤ j) (h95 : 95 ≤ sN σ) : rdT σ (pI τ j k v) := ⟨⟨h.1.1, fun a h1 h2 => ⟨fun b => by rw [gI_pI, if_neg (by omega)]; exact (h.1.2 a h1 h2).1 b, (h.1.2 a h1 h2).2⟩⟩, h.2.1, h.2.2.1, fun a b h1 h2 h3 h4 h5 => by rw [gI_pI, if_neg (by omega)]; exact h.2.2.2.1 a b h1 h2 h3 h4 h5, h.2.2.2.2⟩
theorem rdT.pL {σ τ : St} (h : rdT σ τ) {j : Nat} (k : Nat) (v : Int64) (hj : sN σ ≤ j) (h95 : 95 ≤ sN σ) : rdT σ (pL τ j k v) := ⟨⟨h.1.1, fun a h1 h2 => ⟨(h.1.2 a h1 h2).1, fun b => by rw [gL_pL, if_neg (by omega)]; exact (h.1.2 a h1 h2).2.1 b, (h.1.2 a h1 h2).2.2⟩⟩, h.2.1, h.2.2.1, h.2.2.2.1, fun a b h1 h2 => by rw [gL_pL, if_neg (by omega)]; exact h.2.2.2.2 a b h1 h2⟩
theorem rdT.pR {σ τ : St} (h : rdT σ τ) {j : Nat} (k v : Nat) (hj : sN σ ≤ j) (h95 : 95 ≤ sN σ) : rdT σ (pR τ j k v) := ⟨⟨h.1.1, fun a h1 h2 => ⟨(h.1.2 a h1 h2).1, (h.1.2 a h1 h2).2.1, fun b => by rw [gR_pR, if_neg (by omega)]; exact (h.1.2 a h1 h2).2.2.1 b, (h.1.2 a h1 h2).2.2.2⟩⟩, h.2.1, fun a b h1 h2 h3 => by rw [gR_pR, if_neg (by omega)]; exact h.2.2.1 a b h1 h2 h3, h.2.2.2.1, h.2.2.2.2⟩
theorem rdT.nw {σ τ : St} (h : rdT σ τ) (t n : Nat) (h95 : 95 ≤ sN σ) : rdT σ (nw τ t n) := h.trans (rdT_nw t n (by have := h.1.1; omega))
theorem baC.of {σ τ : St} {b : Ba} (h : baC σ b) (a : he σ τ) (e1 : gR τ 4 5 = gR σ 4 5) (e2 : ∀ k, gI τ 7 k = gI σ 7 k) (e3 : ∀ k, gR τ 8 k = gR σ 8 k) (e4 : gI τ 4 4 = gI σ 4 4) (e5 : ∀ k, gI τ 9 k = gI σ 9 k) (e6 : ∀ k, gI τ 10 k = gI σ 10 k) (e7 : gL τ 4 7 = gL σ 4 7) : baC τ b := by
  obtain ⟨h1, ⟨r1, r2, r3, r4⟩, ⟨o1, o2⟩, h4⟩ := h
  refine ⟨by rw [e1]; exact a.lines h1, ⟨by rw [e2]; exact r1, fun z => by rw [e2]; exact r2 z, fun z => by rw [e2, e2, e2]; exact r3 z, fun i q hq => by rw [e3]; exact a.pt (r4 i q hq)⟩, ⟨e4.trans o1, fun i q hq => ⟨(e5 i).trans (o2 i q hq).1, (e6 i).trans (o2 i q hq).2⟩⟩, e7.trans h4⟩
/-- the same with another row -/
theorem baC.row {σ τ : St} {b : Ba} {w : Rw} (h : baC σ b) (a : fA σ τ) (hw : rowC τ w) : baC τ (b.1, w, b.2.2.1, b.2.2.2) := by
  obtain ⟨h1, -, ⟨o1, o2⟩, h4⟩ := h
  exact ⟨by rw [a.2.2.2.2.1 4 5 (by omega)]; exact a.he.lines h1, hw, ⟨(a.2.2.2.2.2 4 4 (by omega)).trans o1, fun i q hq => ⟨(a.2.2.2.2.2 9 i (by omega)).trans (o2 i q hq).1, (a.2.2.2.2.2 10 i (by omega)).trans (o2 i q hq).2⟩⟩, by rw [a.2.2.2.1]; exact h4⟩
theorem lowF_cop {a : Int} {b : Nat} (hb : 0 < b) : Nat.gcd (lowF a b).1.natAbs (lowF a b).2 = 1 := by
  show Nat.gcd (a.tdiv (Nat.gcd a.natAbs b : Nat)).natAbs (b / Nat.gcd a.natAbs b) = 1
  rw [Int.natAbs_tdiv, Int.natAbs_natCast]
  exact Nat.gcd_div_gcd_div_gcd_of_pos_right hb
theorem endP_k {k : Nat} {a : Int} {c : Nat} (hk : k ≤ 4) (ha : a.natAbs ≤ 9999) (hc : 1 ≤ c ∧ c ≤ 9999) : ptK (k, lowF a c) := ⟨hk, lowF_ok (by omega) (by omega) (by omega), lowF_cop (by omega)⟩
theorem radd_len (w : Rw) (q : Pt) : w.1.length ≤ (radd w q).1.length := by
  obtain ⟨e, he⟩ := radd_ext w q
  rw [he, List.length_append]
  omega
theorem rfold_ext : ∀ (l : List Pt) (w : Rw), ∃ e, (rfold w l).1 = w.1 ++ e
  | [], w => ⟨[], (List.append_nil _).symm⟩
  | q :: l, w => by
    obtain ⟨e, he⟩ := radd_ext w q
    obtain ⟨e', he'⟩ := rfold_ext l (radd w q)
    exact ⟨e ++ e', by show (rfold (radd w q) l).1 = _; rw [he', he, List.append_assoc]⟩
theorem rrepN_ext (s : List Pt) : ∀ (n : Nat) (w : Rw), ∃ e, (rrepN s n w).1 = w.1 ++ e
  | 0, w => ⟨[], (List.append_nil _).symm⟩
  | n + 1, w => by
    obtain ⟨e, he⟩ := rfold_ext s w
    obtain ⟨e', he'⟩ := rrepN_ext s n (rfold w s)
    exact ⟨e ++ e', by show (rrepN s n (rfold w s)).1 = _; rw [he', he, List.append_assoc]⟩
theorem baOK.row {b : Ba} {w : Rw} (h : baOK b) (hw : rwOK w) (hl : b.2.1.1.length ≤ w.1.length) : baOK (b.1, w, b.2.2.1, b.2.2.2) := ⟨h.1, hw, ⟨h.2.2.1.1, fun q hq => ⟨Nat.le_trans (h.2.2.1.2 q hq).1 hl, (h.2.2.1.2 q hq).2⟩⟩, h.2.2.2⟩
theorem endP_ok {b : Ba} {k : Nat} {a : Int} {c : Nat} (h : baOK b) (hk : k ≤ 4) (ha : a.natAbs ≤ 9999) (hc : 1 ≤ c ∧ c ≤ 9999) : baOK (endP b k a c) := h.row (radd_ok h.2.1 (endP_k hk ha hc)) (radd_len _ _)
section CEND
variable {d : Nat}
theorem sp_endPart {σ : St} {Q : Option AV → St → Prop} {b : Ba} {k : Nat} {a : Int} {c : Nat} (hln : LN σ) (h95 : 95 ≤ sN σ) (hb : baC σ b) (hbo : baOK b) (hk : k ≤ 4) (ha : a.natAbs ≤ 9999) (hc : 1 ≤ c ∧ c ≤ 9999) (h : ∀ τ, rdT σ τ → sN τ = sN σ + 2 → sS τ = sS σ + 4 → baC τ (endP b k a c) → gI τ 4 6 = 3 → Q (some (aI 0)) τ) : Cl lay1 (d + 3) M_Re_endPart [aO 6 4, aI (nI k), aI (I32 a), aI (nI c)] σ Q := by
  obtain ⟨N, hN⟩ : ∃ N, sN σ = N + 1 := ⟨sN σ - 1, by omega⟩
  refine bk_Re_endPart_0 _ _ _ (nn_of (by omega) ?_)
  rw [nF0]
  have a1 : rdT σ (pL (nw σ 0 2) (N + 1) 1 1) := (rdT_nw 0 2 h95).pL 1 1 (by omega) h95
  rw [hN]
  refine bk_Fr_init_0 _ (bk_Fr_init_9 _ ?_)
  refine nn_of (j := N + 1) (by omega) ?_
  rw [I32_64 (by omega) (by omega), i64_nI (by omega)]
  have s1 : sN (pL (nw σ 0 2) (N + 1) 1 1) = N + 2 := by show sN σ + 1 = _; omega
  have t1 : sS (pL (nw σ 0 2) (N + 1) 1 1) = sS σ + 2 := rfl
  have k1 : (∀ k, gI (pL (nw σ 0 2) (N + 1) 1 1) 7 k = gI σ 7 k) ∧ (∀ k, gR (pL (nw σ 0 2) (N + 1) 1 1) 8 k = gR σ 8 k) ∧ (∀ k, gI (pL (nw σ 0 2) (N + 1) 1 1) 4 k = gI σ 4 k) ∧ (∀ k, gI (pL (nw σ 0 2) (N + 1) 1 1) 9 k = gI σ 9 k) ∧ (∀ k, gI (pL (nw σ 0 2) (N + 1) 1 1) 10 k = gI σ 10 k) ∧ gR (pL (nw σ 0 2) (N + 1) 1 1) 4 5 = gR σ 4 5 ∧ gL (pL (nw σ 0 2) (N + 1) 1 1) 4 7 = gL σ 4 7 := by
    refine ⟨fun k => ?_, fun k => ?_, fun k => ?_, fun k => ?_, fun k => ?_, ?_, ?_⟩
    · show gI (nw σ 0 2) 7 k = _; rw [gI_nw, if_neg (by omega)]
    · show gR (nw σ 0 2) 8 k = _; rw [gR_nw, if_neg (by omega)]
    · show gI (nw σ 0 2) 4 k = _; rw [gI_nw, if_neg (by omega)]
    · show gI (nw σ 0 2) 9 k = _; rw [gI_nw, if_neg (by omega)]
    · show gI (nw σ 0 2) 10 k = _; rw [gI_nw, if_neg (by omega)]
    · show gR (nw σ 0 2) 4 5 = _; rw [gR_nw, if_neg (by omega)]
    · rw [gL_pL, if_neg (by omega), gL_nw, if_neg (by omega)]
  generalize pL (nw σ 0 2) (N + 1) 1 1 = σ1 at a1 s1 t1 k1
  refine sp_put (d := d) (by omega) (by omega) (by omega) ?_
  have a2 : rdT σ (stF σ1 (N + 1) (lowF a c)) := (a1.pL 0 _ (by omega) h95).pL 1 _ (by omega) h95
  have f2 := stF_is σ1 (N + 1) (lowF a c)
  have s2 : sN (stF σ1 (N + 1) (lowF a c)) = N + 2 := s1
  have t2 : sS (stF σ1 (N + 1) (lowF a c)) = sS σ + 2 := t1
  have k2 : (∀ k, gI (stF σ1 (N + 1) (lowF a c)) 7 k = gI σ 7 k) ∧ (∀ k, gR (stF σ1 (N + 1) (lowF a c)) 8 k = gR σ 8 k) ∧ (∀ k, gI (stF σ1 (N + 1) (lowF a c)) 4 k = gI σ 4 k) ∧ (∀ k, gI (stF σ1 (N + 1) (lowF a c)) 9 k = gI σ 9 k) ∧ (∀ k, gI (stF σ1 (N + 1) (lowF a c)) 10 k = gI σ 10 k) ∧ gR (stF σ1 (N + 1) (lowF a c)) 4 5 = gR σ 4 5 ∧ gL (stF σ1 (N + 1) (lowF a c)) 4 7 = gL σ 4 7 := by
    refine ⟨k1.1, k1.2.1, k1.2.2.1, k1.2.2.2.1, k1.2.2.2.2.1, k1.2.2.2.2.2.1, ?_⟩
    exact ((stF_ar σ1 (N + 1) (lowF a c)).2.2.2.2.2 4 (fun z => by have := List.mem_singleton.mp z; omega) 7).trans k1.2.2.2.2.2.2
  show nn (sN (stF σ1 (N + 1) (lowF a c))) (Cl lay1 (d + 2) M_Pa_init [aO 5 (sN (stF σ1 (N + 1) (lowF a c))), aI (nI k), aO 0 (N + 1)] (nw (stF σ1 (N + 1) (lowF a c)) 5 (nF 5)) (rV fun σ3 => Cl lay1 (d + 2) M_Ro_add [aO 9 7, aO 5 (sN (stF σ1 (N + 1) (lowF a c)))] σ3 (rV fun σ4 => Q (some (aI 0)) (pI σ4 4 6 3))))
  generalize stF σ1 (N + 1) (lowF a c) = σ2 at a2 f2 s2 t2 k2
  rw [s2, nF5]
  refine nn_of (by omega) (bk_Pa_init_0 _ _ _ ⟨layHi _ _ (by omega), ?_⟩)
  have a3 : rdT σ (pR (pI (nw σ2 5 2) (N + 1 + 1) 0 (nI k)) (N + 1 + 1) 1 (N + 1)) := ((a2.nw 5 2 h95).pI 0 _ (by omega) h95).pR 1 _ (by omega) h95
  have s3 : sN (pR (pI (nw σ2 5 2) (N + 1 + 1) 0 (nI k)) (N + 1 + 1) 1 (N + 1)) = N + 3 := by show sN σ2 + 1 = _; omega
  have t3 : sS (pR (pI (nw σ2 5 2) (N + 1 + 1) 0 (nI k)) (N + 1 + 1) 1 (N + 1)) = sS σ + 4 := by show sS σ2 + 2 = _; omega
  have p3 : ptC (pR (pI (nw σ2 5 2) (N + 1 + 1) 0 (nI k)) (N + 1 + 1) 1 (N + 1)) (N + 1 + 1) (k, lowF a c) := by
    have er : gR (pR (pI (nw σ2 5 2) (N + 1 + 1) 0 (nI k)) (N + 1 + 1) 1 (N + 1)) (N + 1 + 1) 1 = N + 1 := by rw [gR_pR, if_pos ⟨rfl, rfl⟩]
    refine ⟨by omega, by omega, ?_, by rw [er]; omega, by rw [er]; omega, ?_⟩
    · show gI (pI (nw σ2 5 2) (N + 1 + 1) 0 (nI k)) (N + 1 + 1) 0 = _
      rw [gI_pI, if_pos ⟨rfl, rfl⟩]
    · rw [er]
      refine ⟨?_, ?_⟩
      · show gL (nw σ2 5 2) (N + 1) 0 = _
        rw [gL_nw, if_neg (by omega)]; exact f2.1
      · show gL (nw σ2 5 2) (N + 1) 1 = _
        rw [gL_nw, if_neg (by omega)]; exact f2.2
  have k3 : (∀ k', gI (pR (pI (nw σ2 5 2) (N + 1 + 1) 0 (nI k)) (N + 1 + 1) 1 (N + 1)) 7 k' = gI σ 7 k') ∧ (∀ k', gR (pR (pI (nw σ2 5 2) (N + 1 + 1) 0 (nI k)) (N + 1 + 1) 1 (N + 1)) 8 k' = gR σ 8 k') ∧ (∀ k', gI (pR (pI (nw σ2 5 2) (N + 1 + 1) 0 (nI k)) (N + 1 + 1) 1 (N + 1)) 4 k' = gI σ 4 k') ∧ (∀ k', gI (pR (pI (nw σ2 5 2) (N + 1 + 1) 0 (nI k)) (N + 1 + 1) 1 (N + 1)) 9 k' = gI σ 9 k') ∧ (∀ k', gI (pR (pI (nw σ2 5 2) (N + 1 + 1) 0 (nI k)) (N + 1 + 1) 1 (N + 1)) 10 k' = gI σ 10 k') ∧ gR (pR (pI (nw σ2 5 2) (N + 1 + 1) 0 (nI k)) (N + 1 + 1) 1 (N + 1)) 4 5 = gR σ 4 5 ∧ gL (pR (pI (nw σ2 5 2) (N + 1 + 1) 0 (nI k)) (N + 1 + 1) 1 (N + 1)) 4 7 = gL σ 4 7 := by
    refine ⟨fun k' => ?_, fun k' => ?_, fun k' => ?_, fun k' => ?_, fun k' => ?_, ?_, ?_⟩
    · show gI (pI (nw σ2 5 2) (N + 1 + 1) 0 (nI k)) 7 k' = _; rw [gI_pI, if_neg (by omega), gI_nw, if_neg (by omega)]; exact k2.1 k'
    · rw [gR_pR, if_neg (by omega)]; show gR (nw σ2 5 2) 8 k' = _; rw [gR_nw, if_neg (by omega)]; exact k2.2.1 k'
    · show gI (pI (nw σ2 5 2) (N + 1 + 1) 0 (nI k)) 4 k' = _; rw [gI_pI, if_neg (by omega), gI_nw, if_neg (by omega)]; exact k2.2.2.1 k'
    · show gI (pI (nw σ2 5 2) (N + 1 + 1) 0 (nI k)) 9 k' = _; rw [gI_pI, if_neg (by omega), gI_nw, if_neg (by omega)]; exact k2.2.2.2.1 k'
    · show gI (pI (nw σ2 5 2) (N + 1 + 1) 0 (nI k)) 10 k' = _; rw [gI_pI, if_neg (by omega), gI_nw, if_neg (by omega)]; exact k2.2.2.2.2.1 k'
    · rw [gR_pR, if_neg (by omega)]; show gR (nw σ2 5 2) 4 5 = _; rw [gR_nw, if_neg (by omega)]; exact k2.2.2.2.2.2.1
    · show gL (nw σ2 5 2) 4 7 = _; rw [gL_nw, if_neg (by omega)]; exact k2.2.2.2.2.2.2
  show Cl lay1 (d + 2) M_Ro_add [aO 9 7, aO 5 (N + 1 + 1)] (pR (pI (nw σ2 5 2) (N + 1 + 1) 0 (nI k)) (N + 1 + 1) 1 (N + 1)) _
  generalize pR (pI (nw σ2 5 2) (N + 1 + 1) 0 (nI k)) (N + 1 + 1) 1 (N + 1) = σ3 at a3 s3 t3 p3 k3
  have hb3 : baC σ3 b := hb.of a3.1 k3.2.2.2.2.2.1 k3.1 k3.2.1 (k3.2.2.1 4) k3.2.2.2.1 k3.2.2.2.2.1 k3.2.2.2.2.2.2
  refine sp_add (a3.LN hln) hb3.2.1 hbo.2.1 p3 hk (fun σ4 a4 w4 => ?_)
  have hb4 := hb3.row a4 w4
  refine h _ ((a3.trans a4.rd).trans (rdT_4 3 (by omega))) ?_ ?_ (hb4.of (rdT_4 3 (by omega)).1 rfl (fun k => ?_) (fun _ => rfl) ?_ (fun k => ?_) (fun k => ?_) rfl) ?_
  · show sN σ4 = _
    rw [a4.1, s3, hN]
  · show sS σ4 = _
    rw [a4.2.1, t3]
  · rw [gI_pI, if_neg (by omega)]
  · rw [gI_pI, if_neg (by omega)]
  · rw [gI_pI, if_neg (by omega)]
  · rw [gI_pI, if_neg (by omega)]
  · rw [gI_pI, if_pos ⟨rfl, rfl⟩]
/-- a line is looked for by its name, from the newest on -/
theorem sp_lineOf_loop {nm : List Nat} (hnm : lettersOK nm) {σ : St} {Q : Option AV → St → Prop} {u0 : AV} : ∀ (ls : List Ln) (j : Nat), liOK ls → linesC σ j ls → (fnd ls nm = none → Q (some (aO 2 0)) σ) → (∀ j ps, fnd ls nm = some ps → 95 ≤ j → 95 ≤ gR σ j 1 → gN σ (gR σ j 1) = ps.length → (∀ i q, ps[i]? = some q → ptC σ (gR σ (gR σ j 1) i) q) → rwOK (ps, false) → Q (some (aO 2 j)) σ) → Wp lay1 rtOf (Cl lay1 d) k_Re_lineOf 6 Q (5, [u0, aJ (L64 (encL 32 nm : Nat)), aZ, aO 2 j], [], σ) := by
  intro ls
  induction ls with
  | nil =>
    intro j ho hl hn hy
    have hj : j = 0 := hl
    exact bk_Re_lineOf_5 _ _ _ ⟨fun _ => hn rfl, fun c => absurd hj c⟩
  | cons l r ih =>
    intro j ho hl hn hy
    obtain ⟨h1, h2, h3, h4, h5, h6, h7, h8⟩ := hl
    obtain ⟨hlo, hle⟩ := ho l List.mem_cons_self
    have hcmp : lg_cmp (gL σ j 0) (L64 (encL 32 nm : Nat)) = 0 ↔ l.1 = nm := by rw [lg_cmp_eq, h3, enc_eq (by omega) (by omega) hle hnm]
    refine bk_Re_lineOf_5 _ _ _ ⟨fun c => absurd c (by omega), fun _ => nn_of (by omega) ?_⟩
    rw [hcmp]
    refine ⟨fun c => hy j l.2 ?_ h1 h4 h6 h7 hlo, fun c => nn_of (by omega) ?_⟩
    · unfold fnd
      rw [List.find?_cons_of_pos (by simp [c])]
      rfl
    · rw [ldR_hi σ 2 h1]
      have e : fnd (l :: r) nm = fnd r nm := by
        unfold fnd
        rw [List.find?_cons_of_neg (by simp [c])]
      rw [e] at hn hy
      exact ih _ (fun x hx => ho x (List.mem_cons_of_mem _ hx)) h8 hn hy
theorem sp_lineOf {nm : List Nat} (hnm : lettersOK nm) {σ : St} {Q : Option AV → St → Prop} {ls : List Ln} (ho : liOK ls) (hl : linesC σ (gR σ 4 5) ls) (hn : fnd ls nm = none → Q (some (aO 2 0)) σ) (hy : ∀ j ps, fnd ls nm = some ps → 95 ≤ j → 95 ≤ gR σ j 1 → gN σ (gR σ j 1) = ps.length → (∀ i q, ps[i]? = some q → ptC σ (gR σ (gR σ j 1) i) q) → rwOK (ps, false) → Q (some (aO 2 j)) σ) : Cl lay1 (d + 1) M_Re_lineOf [aO 6 4, aJ (L64 (encL 32 nm : Nat))] σ Q :=
  bk_Re_lineOf_0 _ (sp_lineOf_loop hnm ls _ ho hl hn hy)
end CEND
