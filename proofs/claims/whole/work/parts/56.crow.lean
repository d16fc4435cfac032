/-! ===== LAYER 3, F: names as numbers; rows of PARTS in the component ===== -/
def encR (b : Nat) : List Nat → Nat
  | [] => 0
  | c :: r => encR b r * b + c
theorem encL_rev (b : Nat) (l : List Nat) : encL b l = encR b l.reverse := by
  have h : ∀ (l : List Nat) (x : Nat), l.foldl (fun x c => x * b + c) x = l.reverse.foldr (fun c x => x * b + c) x := fun l x => by rw [List.foldr_reverse]
  have h2 : ∀ r : List Nat, r.foldr (fun c x => x * b + c) 0 = encR b r := by
    intro r
    induction r with
    | nil => rfl
    | cons c r ih =>
      show r.foldr (fun c x => x * b + c) 0 * b + c = encR b r * b + c
      rw [ih]
  unfold encL
  rw [h, h2]
theorem encR_inj {b : Nat} (hb : 26 < b) : ∀ (l1 l2 : List Nat), (∀ c ∈ l1, 1 ≤ c ∧ c ≤ 26) → (∀ c ∈ l2, 1 ≤ c ∧ c ≤ 26) → encR b l1 = encR b l2 → l1 = l2
  | [], [], _, _, _ => rfl
  | [], c :: r, _, h2, h => by
    have := h2 c List.mem_cons_self
    have h : 0 = encR b r * b + c := h
    omega
  | c :: r, [], h1, _, h => by
    have := h1 c List.mem_cons_self
    have h : encR b r * b + c = 0 := h
    omega
  | c :: r, c' :: r', h1, h2, h => by
    have g1 := h1 c List.mem_cons_self
    have g2 := h2 c' List.mem_cons_self
    have h : encR b r * b + c = encR b r' * b + c' := h
    have e1 : (encR b r * b + c) % b = c := by rw [Nat.mul_comm, Nat.mul_add_mod, Nat.mod_eq_of_lt (by omega)]
    have e2 : (encR b r' * b + c') % b = c' := by rw [Nat.mul_comm, Nat.mul_add_mod, Nat.mod_eq_of_lt (by omega)]
    have ec : c = c' := by rw [← e1, ← e2, h]
    subst ec
    have er : encR b r = encR b r' := Nat.eq_of_mul_eq_mul_right (show 0 < b by omega) (by omega)
    rw [encR_inj hb r r' (fun x hx => h1 x (List.mem_cons_of_mem _ hx)) (fun x hx => h2 x (List.mem_cons_of_mem _ hx)) er]
theorem encR_lt {b : Nat} (hb : 26 < b) : ∀ (l : List Nat), (∀ c ∈ l, 1 ≤ c ∧ c ≤ 26) → encR b l < b ^ l.length
  | [], _ => by show 0 < 1; omega
  | c :: r, h => by
    have ih := encR_lt hb r (fun x hx => h x (List.mem_cons_of_mem _ hx))
    have g := h c List.mem_cons_self
    show encR b r * b + c < b ^ (r.length + 1)
    have : (encR b r + 1) * b ≤ b ^ r.length * b := Nat.mul_le_mul_right b ih
    rw [Nat.pow_succ]
    rw [Nat.add_mul, Nat.one_mul] at this
    omega
theorem enc_lt {b : Nat} (hb : 26 < b) (hb2 : b ≤ 32) {l : List Nat} (h : lettersOK l) : encL b l < 1099511627776 := by
  rw [encL_rev]
  have h1 := encR_lt hb l.reverse (fun c hc => h.2 c (List.mem_reverse.mp hc))
  rw [List.length_reverse] at h1
  have h2 : b ^ l.length ≤ 32 ^ l.length := Nat.pow_le_pow_left hb2 _
  have h3 : 32 ^ l.length ≤ 32 ^ 8 := Nat.pow_le_pow_right (by omega) h.1
  have h4 : (32 : Nat) ^ 8 = 1099511627776 := by decide
  omega
theorem enc_eq {b : Nat} (hb : 26 < b) (hb2 : b ≤ 32) {l1 l2 : List Nat} (h1 : lettersOK l1) (h2 : lettersOK l2) : L64 (encL b l1 : Nat) = L64 (encL b l2 : Nat) ↔ l1 = l2 := by
  have g1 := enc_lt hb hb2 h1
  have g2 := enc_lt hb hb2 h2
  rw [L64_inj (by omega) (by omega) (by omega) (by omega)]
  refine ⟨fun e => ?_, fun e => by rw [e]⟩
  have e : encL b l1 = encL b l2 := by omega
  rw [encL_rev, encL_rev] at e
  exact List.reverse_inj.mp (encR_inj hb _ _ (fun c hc => h1.2 c (List.mem_reverse.mp hc)) (fun c hc => h2.2 c (List.mem_reverse.mp hc)) e)
theorem one_ok {c : Nat} (h : 1 ≤ c ∧ c ≤ 26) : lettersOK [c] := ⟨by show 1 ≤ 8; omega, fun x hx => by rw [List.mem_singleton.mp hx]; exact h⟩
/-- a PART's cell -/
def ptC (σ : St) (j : Nat) (q : Pt) : Prop := 95 ≤ j ∧ j < sN σ ∧ gI σ j 0 = nI q.1 ∧ 95 ≤ gR σ j 1 ∧ gR σ j 1 < sN σ ∧ isF σ (gR σ j 1) q.2
/-- the cells that the texts made stay -/
def he (σ τ : St) : Prop := sN σ ≤ sN τ ∧ ∀ j, 95 ≤ j → j < sN σ → (∀ k, gI τ j k = gI σ j k) ∧ (∀ k, gL τ j k = gL σ j k) ∧ (∀ k, gR τ j k = gR σ j k) ∧ gN τ j = gN σ j
theorem he.rf (σ : St) : he σ σ := ⟨Nat.le_refl _, fun _ _ _ => ⟨fun _ => rfl, fun _ => rfl, fun _ => rfl, rfl⟩⟩
theorem he.trans {σ τ υ : St} (h : he σ τ) (g : he τ υ) : he σ υ := ⟨Nat.le_trans h.1 g.1, fun j h1 h2 => by
  obtain ⟨a1, a2, a3, a4⟩ := h.2 j h1 h2
  obtain ⟨b1, b2, b3, b4⟩ := g.2 j h1 (Nat.lt_of_lt_of_le h2 h.1)
  exact ⟨fun k => (b1 k).trans (a1 k), fun k => (b2 k).trans (a2 k), fun k => (b3 k).trans (a3 k), b4.trans a4⟩⟩
theorem he.pt {σ τ : St} (h : he σ τ) {j : Nat} {q : Pt} (hp : ptC σ j q) : ptC τ j q := by
  obtain ⟨p1, p2, p3, p4, p5, p6⟩ := hp
  obtain ⟨a1, -, a3, -⟩ := h.2 j p1 p2
  obtain ⟨-, b2, -, -⟩ := h.2 _ p4 p5
  have h0 := h.1
  unfold ptC isF
  rw [a1, a3, b2, b2]
  exact ⟨p1, by omega, p3, p4, by omega, p6⟩
def rowC (σ : St) (w : Rw) : Prop := gI σ 7 1 = nI w.1.length ∧ (w.2 = true → gI σ 7 4 = 1) ∧ (w.2 = false → gI σ 7 4 = 0 ∧ gI σ 7 2 = nI (cntK 3 w.1) ∧ gI σ 7 3 = nI (cntK 4 w.1)) ∧ ∀ i q, w.1[i]? = some q → ptC σ (gR σ 8 i) q
/-- what the row's changes change -/
def fA (σ τ : St) : Prop := sN τ = sN σ ∧ sS τ = sS σ ∧ gN τ = gN σ ∧ gL τ = gL σ ∧ (∀ j k, j ≠ 8 → gR τ j k = gR σ j k) ∧ ∀ j k, j ≠ 7 → gI τ j k = gI σ j k
theorem fA.rf (σ : St) : fA σ σ := ⟨rfl, rfl, rfl, rfl, fun _ _ _ => rfl, fun _ _ _ => rfl⟩
theorem fA.trans {σ τ υ : St} (h : fA σ τ) (g : fA τ υ) : fA σ υ := ⟨g.1.trans h.1, g.2.1.trans h.2.1, g.2.2.1.trans h.2.2.1, g.2.2.2.1.trans h.2.2.2.1, fun j k q => (g.2.2.2.2.1 j k q).trans (h.2.2.2.2.1 j k q), fun j k q => (g.2.2.2.2.2 j k q).trans (h.2.2.2.2.2 j k q)⟩
theorem fA_pI {σ : St} (k : Nat) (v : Int32) : fA σ (pI σ 7 k v) := ⟨rfl, rfl, rfl, rfl, fun _ _ _ => rfl, fun a b q => by rw [gI_pI, if_neg (by omega)]⟩
theorem fA_pR {σ : St} (k v : Nat) : fA σ (pR σ 8 k v) := ⟨rfl, rfl, rfl, rfl, fun a b q => by rw [gR_pR, if_neg (by omega)], fun _ _ _ => rfl⟩
theorem fA.he {σ τ : St} (h : fA σ τ) : he σ τ := ⟨by rw [h.1]; exact Nat.le_refl _, fun j h1 _ => ⟨fun k => h.2.2.2.2.2 j k (by omega), fun k => by rw [h.2.2.2.1], fun k => h.2.2.2.2.1 j k (by omega), by rw [h.2.2.1]⟩⟩
theorem lay8 (k v : Nat) : layC lay1 8 k v := by
  have h : layL.all (fun q => decide (q.1 ≠ 8)) = true := by decide +kernel
  have e : lay1 8 k = 0 := lkl_none layL 8 k (fun q hq => of_decide_eq_true (List.all_eq_true.mp h q hq))
  exact Or.inl e
theorem layHi {j : Nat} (k v : Nat) (h : 95 ≤ j) : layC lay1 j k v := Or.inl (lay1_hi j k h)
section CROW
variable {d : Nat}
theorem add_tail {β : St} {Q : Option AV → St → Prop} {s K L x1 : Nat} (hln : LN β) (h1 : gI β 7 1 = nI s) (h2 : gI β 7 2 = nI K) (h3 : gI β 7 3 = nI L) (hs : s ≤ 80) (hK : K ≤ 13) (hL : L ≤ 13) (hf : (80 ≤ s ∨ 12 < K ∨ 12 < L) → Q none (pI β 7 4 1)) (ha : ¬ (80 ≤ s ∨ 12 < K ∨ 12 < L) → Q none (pI (pR β 8 s (x1 + 1)) 7 1 (nI (s + 1)))) : ((80 : Int32) ≤ (gI β 7 1) → ((1 : Int32) = 0 ∨ (1 : Int32) = 1) ∧ (Q none (pI β 7 4 (1 : Int32)))) ∧ (¬ (80 : Int32) ≤ (gI β 7 1) → ((12 : Int32) < (gI β 7 2) → ((1 : Int32) = 0 ∨ (1 : Int32) = 1) ∧ (Q none (pI β 7 4 (1 : Int32)))) ∧ (¬ (12 : Int32) < (gI β 7 2) → ((gI β 7 3) ≤ (12 : Int32) → (inb (gI β 7 1) (gN β 8) ∧ layC lay1 8 (ix (gI β 7 1)) (x1 + 1)) ∧ (Q none (pI (pR β 8 (ix (gI β 7 1)) (x1 + 1)) 7 1 ((gI (pR β 8 (ix (gI β 7 1)) (x1 + 1)) 7 1) + (1 : Int32))))) ∧ (¬ (gI β 7 3) ≤ (12 : Int32) → ((1 : Int32) = 0 ∨ (1 : Int32) = 1) ∧ (Q none (pI β 7 4 (1 : Int32)))))) := by
  have e1 : ∀ a b, gI (pR β 8 a b) 7 1 = nI s := fun a b => h1
  rw [e1, h1, h2, h3, show (80 : Int32) = nI 80 from rfl, show (12 : Int32) = nI 12 from rfl, nI_leI (by omega) (by omega), nI_ltI (by omega) (by omega), nI_leI (by omega) (by omega), ix_nI (by omega), nI_1]
  refine ⟨fun c => ⟨b11, hf (by omega)⟩, fun c => ⟨fun c2 => ⟨b11, hf (by omega)⟩, fun c2 => ⟨fun c3 => ⟨⟨by rw [hln.at 8 80 (by decide)]; exact inb_nI (by omega) (by omega), lay8 _ _⟩, ha (by omega)⟩, fun c3 => ⟨b11, hf (by omega)⟩⟩⟩⟩
theorem sp_add {σ : St} {Q : Option AV → St → Prop} {w : Rw} {j : Nat} {q : Pt} (hln : LN σ) (hw : rowC σ w) (hwo : rwOK w) (hp : ptC σ j q) (hq : q.1 ≤ 4) (h : ∀ τ, fA σ τ → rowC τ (radd w q) → Q none τ) : Cl lay1 (d + 1) M_Ro_add [aO 9 7, aO 5 j] σ Q := by
  obtain ⟨w1, w2, w3, w4⟩ := id hw
  obtain ⟨o1, o2, o3, o4⟩ := hwo
  obtain ⟨x1, rfl⟩ : ∃ x, j = x + 1 := ⟨j - 1, by have := hp.1; omega⟩
  have hp1 := hp.1
  obtain ⟨q0, q1, q3, q2, q4⟩ := nIk hq
  have hk := hp.2.2.1
  have keep : ∀ {τ : St}, fA σ τ → (∀ i q, w.1[i]? = some q → gR τ 8 i = gR σ 8 i) → ∀ i q, w.1[i]? = some q → ptC τ (gR τ 8 i) q := fun a e i q hi => by rw [e i q hi]; exact a.he.pt (w4 i q hi)
  cases hm : w.2 with
  | true =>
    have e4 := w2 hm
    refine bk_Ro_add_0 _ ⟨fun c => absurd (e4.symm.trans c) (by decide), fun _ => ?_⟩
    refine h σ (fA.rf _) ?_
    rw [radd_m hm]
    exact hw
  | false =>
    obtain ⟨e4, e2, e3⟩ := w3 hm
    have full : ∀ {β : St}, fA σ β → gI β 7 1 = gI σ 7 1 → (∀ i, gR β 8 i = gR σ 8 i) → rfull w.1 q.1 → Q none (pI β 7 4 1) := by
      intro β a eb er hf
      have a' := a.trans (fA_pI (σ := β) 4 1)
      refine h _ a' ?_
      rw [radd_f hm hf]
      exact ⟨by rw [gI_pI, if_neg (by omega), eb]; exact w1, fun _ => by rw [gI_pI, if_pos ⟨rfl, rfl⟩], fun z => absurd z (by show ¬ true = false; decide), keep a' (fun i q _ => er i)⟩
    have fine : ∀ {β : St}, fA σ β → gI β 7 1 = gI σ 7 1 → (∀ i, gR β 8 i = gR σ 8 i) → gI β 7 4 = 0 → gI β 7 2 = nI (cntK 3 (w.1 ++ [q])) → gI β 7 3 = nI (cntK 4 (w.1 ++ [q])) → ¬ rfull w.1 q.1 → Q none (pI (pR β 8 w.1.length (x1 + 1)) 7 1 (nI (w.1.length + 1))) := by
      intro β a eb er b4 b2 b3 hf
      have a' := (a.trans (fA_pR (σ := β) w.1.length (x1 + 1))).trans (fA_pI (σ := pR β 8 w.1.length (x1 + 1)) 1 (nI (w.1.length + 1)))
      refine h _ a' ?_
      rw [radd_a hm hf]
      refine ⟨?_, fun z => absurd z (by show ¬ false = true; decide), fun _ => ⟨?_, ?_, ?_⟩, fun i x hx => ?_⟩
      · rw [gI_pI, if_pos ⟨rfl, rfl⟩, List.length_append]
        rfl
      · rw [gI_pI, if_neg (by omega)]; exact b4
      · rw [gI_pI, if_neg (by omega)]; exact b2
      · rw [gI_pI, if_neg (by omega)]; exact b3
      · have hx : (w.1 ++ [q])[i]? = some x := hx
        by_cases hi : i < w.1.length
        · rw [List.getElem?_append_left hi] at hx
          have e : gR (pI (pR β 8 w.1.length (x1 + 1)) 7 1 (nI (w.1.length + 1))) 8 i = gR σ 8 i := by
            show gR (pR β 8 w.1.length (x1 + 1)) 8 i = _
            rw [gR_pR, if_neg (by omega)]; exact er i
          rw [e]
          exact a'.he.pt (w4 i x hx)
        · have hl : i < (w.1 ++ [q]).length := (List.getElem?_eq_some_iff.mp hx).1
          rw [List.length_append] at hl
          have hi' : i = w.1.length := by
            have : [q].length = 1 := rfl
            omega
          subst hi'
          rw [List.getElem?_append_right (Nat.le_refl _), Nat.sub_self] at hx
          have hx : some q = some x := hx
          cases hx
          have e : gR (pI (pR β 8 w.1.length (x1 + 1)) 7 1 (nI (w.1.length + 1))) 8 w.1.length = x1 + 1 := by
            show gR (pR β 8 w.1.length (x1 + 1)) 8 w.1.length = _
            rw [gR_pR, if_pos ⟨rfl, rfl⟩]
          rw [e]
          exact a'.he.pt hp
    have ek : ∀ v k, gI (pI σ 7 k v) (x1 + 1) 0 = nI q.1 := fun v k => by rw [gI_pI, if_neg (by omega)]; exact hk
    refine bk_Ro_add_0 _ ⟨fun _ => ⟨fun c3 => ⟨fun c4 => ?_, fun c4 => ?_⟩, fun c3 => ⟨fun c4 => ?_, fun c4 => ?_⟩⟩, fun c => absurd e4 c⟩
    · rw [hk, q3] at c3
      rw [ek, q4] at c4
      omega
    · rw [hk, q3] at c3
      have a := fA_pI (σ := σ) 2 (gI σ 7 2 + 1)
      have hc3 : cntK 3 (w.1 ++ [q]) = cntK 3 w.1 + 1 := by rw [cntK_app, if_pos c3]
      have hc4 : cntK 4 (w.1 ++ [q]) = cntK 4 w.1 := by rw [cntK_app, if_neg (by omega)]; omega
      have b1 : gI (pI σ 7 2 (gI σ 7 2 + 1)) 7 1 = gI σ 7 1 := by rw [gI_pI, if_neg (by omega)]
      have b2 : gI (pI σ 7 2 (gI σ 7 2 + 1)) 7 2 = nI (cntK 3 w.1 + 1) := by rw [gI_pI, if_pos ⟨rfl, rfl⟩, e2, nI_1]
      have b3 : gI (pI σ 7 2 (gI σ 7 2 + 1)) 7 3 = nI (cntK 4 w.1) := by rw [gI_pI, if_neg (by omega)]; exact e3
      have b4 : gI (pI σ 7 2 (gI σ 7 2 + 1)) 7 4 = 0 := by rw [gI_pI, if_neg (by omega)]; exact e4
      refine add_tail (hln.of rfl) (b1.trans w1) b2 b3 o1 (by omega) (by omega) (fun c => full a b1 (fun _ => rfl) ?_) (fun c => fine a b1 (fun _ => rfl) b4 (by rw [hc3]; exact b2) (by rw [hc4]; exact b3) ?_)
      · unfold rfull; omega
      · unfold rfull; omega
    · rw [hk, q3] at c3
      rw [hk, q4] at c4
      have a := fA_pI (σ := σ) 3 (gI σ 7 3 + 1)
      have hc3 : cntK 3 (w.1 ++ [q]) = cntK 3 w.1 := by rw [cntK_app, if_neg c3]; omega
      have hc4 : cntK 4 (w.1 ++ [q]) = cntK 4 w.1 + 1 := by rw [cntK_app, if_pos c4]
      have b1 : gI (pI σ 7 3 (gI σ 7 3 + 1)) 7 1 = gI σ 7 1 := by rw [gI_pI, if_neg (by omega)]
      have b2 : gI (pI σ 7 3 (gI σ 7 3 + 1)) 7 2 = nI (cntK 3 w.1) := by rw [gI_pI, if_neg (by omega)]; exact e2
      have b3 : gI (pI σ 7 3 (gI σ 7 3 + 1)) 7 3 = nI (cntK 4 w.1 + 1) := by rw [gI_pI, if_pos ⟨rfl, rfl⟩, e3, nI_1]
      have b4 : gI (pI σ 7 3 (gI σ 7 3 + 1)) 7 4 = 0 := by rw [gI_pI, if_neg (by omega)]; exact e4
      refine add_tail (hln.of rfl) (b1.trans w1) b2 b3 o1 (by omega) (by omega) (fun c => full a b1 (fun _ => rfl) ?_) (fun c => fine a b1 (fun _ => rfl) b4 (by rw [hc3]; exact b2) (by rw [hc4]; exact b3) ?_)
      · unfold rfull; omega
      · unfold rfull; omega
    · rw [hk, q3] at c3
      rw [hk, q4] at c4
      have hc3 : cntK 3 (w.1 ++ [q]) = cntK 3 w.1 := by rw [cntK_app, if_neg c3]; omega
      have hc4 : cntK 4 (w.1 ++ [q]) = cntK 4 w.1 := by rw [cntK_app, if_neg c4]; omega
      refine add_tail hln w1 e2 e3 o1 (by omega) (by omega) (fun c => full (fA.rf σ) rfl (fun _ => rfl) ?_) (fun c => fine (fA.rf σ) rfl (fun _ => rfl) e4 (by rw [hc3]; exact e2) (by rw [hc4]; exact e3) ?_)
      · unfold rfull; omega
      · unfold rfull; omega
/-- a told line's PARTS, added -/
theorem sp_addLine_loop {j P : Nat} (hj : 95 ≤ j) (hP : 95 ≤ P) : ∀ (l pre : List Pt) (w : Rw) (σ : St) (Q : Option AV → St → Prop), LN σ → rowC σ w → rwOK w → gR σ j 1 = P → gN σ P = (pre ++ l).length → (pre ++ l).length ≤ 80 → (∀ i q, (pre ++ l)[i]? = some q → ptC σ (gR σ P i) q) → (∀ q ∈ l, ptK q) → (∀ τ, fA σ τ → rowC τ (rfold w l) → Q none τ) → Wp lay1 rtOf (Cl lay1 (d + 1)) k_Ro_addLine 0 Q (2, [aO 9 7, aO 2 j, aI (nI pre.length)], [], σ) := by
  intro l
  induction l with
  | nil =>
    intro pre w σ Q hln hw hwo e1 e2 h80 hpt hk h
    rw [List.append_nil] at e2 h80
    have ed : ldR lay1 σ j 1 = P := (ldR_hi σ 1 hj).trans e1
    refine bk_Ro_addLine_2 _ _ ?_
    rw [ed]
    refine nn_of (by omega) (nn_of (by omega) ⟨fun _ => h σ (fA.rf _) hw, fun c => absurd ?_ c⟩)
    rw [e2]
    show nI pre.length ≤ nI pre.length
    exact (nI_leI (by omega) (by omega)).mpr (Nat.le_refl _)
  | cons q l ih =>
    intro pre w σ Q hln hw hwo e1 e2 h80 hpt hk h
    have ed : ldR lay1 σ j 1 = P := (ldR_hi σ 1 hj).trans e1
    have hlen : pre.length < (pre ++ q :: l).length := by
      rw [List.length_append]
      show pre.length < pre.length + (l.length + 1)
      omega
    have hq : (pre ++ q :: l)[pre.length]? = some q := by
      rw [List.getElem?_append_right (Nat.le_refl _), Nat.sub_self]
      rfl
    refine bk_Ro_addLine_2 _ _ ?_
    rw [ed]
    refine nn_of (by omega) (nn_of (by omega) ⟨fun c => absurd c ?_, fun _ => nn_of (by omega) (nn_of (by omega) ⟨by rw [e2]; exact inb_nI hlen (by omega), ?_⟩)⟩)
    · rw [e2]
      show ¬ nI (pre ++ q :: l).length ≤ nI pre.length
      rw [nI_leI (by omega) (by omega)]
      omega
    rw [ix_nI (by omega)]
    refine sp_add hln hw hwo (hpt _ _ hq) (hk q List.mem_cons_self).1 (fun τ a hw' => ?_)
    show Wp lay1 rtOf (Cl lay1 (d + 1)) k_Ro_addLine 0 Q (2, [aO 9 7, aO 2 j, aI (nI pre.length + 1)], [], τ)
    rw [nI_1]
    have el : pre ++ q :: l = (pre ++ [q]) ++ l := by rw [List.append_assoc]; rfl
    have en : pre.length + 1 = (pre ++ [q]).length := by rw [List.length_append]; rfl
    rw [en]
    rw [el] at e2 h80 hpt
    refine ih (pre ++ [q]) (radd w q) τ Q (hln.of a.2.2.1) hw' (radd_ok hwo (hk q List.mem_cons_self)) ((a.2.2.2.2.1 j 1 (by omega)).trans e1) (by rw [a.2.2.1]; exact e2) h80 (fun i x hx => ?_) (fun x hx => hk x (List.mem_cons_of_mem _ hx)) (fun υ b1 b2 => h υ (a.trans b1) b2)
    rw [a.2.2.2.2.1 P i (by omega)]
    exact a.he.pt (hpt i x hx)
theorem radd_ext (w : Rw) (q : Pt) : ∃ e, (radd w q).1 = w.1 ++ e := by
  cases hm : w.2 with
  | true => rw [radd_m hm]; exact ⟨[], (List.append_nil _).symm⟩
  | false =>
    by_cases hf : rfull w.1 q.1
    · rw [radd_f hm hf]; exact ⟨[], (List.append_nil _).symm⟩
    · rw [radd_a hm hf]; exact ⟨[q], rfl⟩
/-- the PARTS from place f on, added once more -/
theorem sp_rep_inner {x1 x2 x4 : Int32} {u : Nat} {base : List Pt} (hu : u = base.length) (h80 : u ≤ 80) : ∀ (l : List Pt) (i : Nat) (w : Rw) (σ : St) (Q : Option AV → St → Prop), base.drop i = l → i ≤ u → LN σ → rowC σ w → rwOK w → (∃ e, w.1 = base ++ e) → (∀ τ u5, fA σ τ → rowC τ (rfold w l) → (∃ e, (rfold w l).1 = base ++ e) → Wp lay1 rtOf (Cl lay1 (d + 1)) k_Ro_repeat 0 Q (8, [aO 9 7, aI x1, aI x2, aI (nI u), aI (x4 + 1), u5], [], τ)) → Wp lay1 rtOf (Cl lay1 (d + 1)) k_Ro_repeat 0 Q (24, [aO 9 7, aI x1, aI x2, aI (nI u), aI x4, aI (nI i)], [], σ) := by
  intro l
  induction l with
  | nil =>
    intro i w σ Q hd hi hln hw hwo he h
    have : base.length ≤ i := List.drop_eq_nil_iff.mp hd
    refine bk_Ro_repeat_24 _ _ _ _ _ ⟨fun _ => h σ _ (fA.rf _) hw he, fun c => absurd ?_ c⟩
    exact (nI_leI (by omega) (by omega)).mpr (by omega)
  | cons q l ih =>
    intro i w σ Q hd hi hln hw hwo he h
    have hlt : i < base.length := by
      by_cases z : i < base.length
      · exact z
      · rw [List.drop_eq_nil_iff.mpr (by omega)] at hd
        cases hd
    have hbq : base[i]? = some q := by
      have : (base.drop i)[0]? = some q := by rw [hd]; rfl
      rw [List.getElem?_drop] at this
      exact this
    have hd' : base.drop (i + 1) = l := by
      have : (base.drop i).drop 1 = l := by rw [hd]; rfl
      rw [List.drop_drop] at this
      exact this
    obtain ⟨e, hwe⟩ := he
    have hwq : w.1[i]? = some q := by rw [hwe, List.getElem?_append_left hlt]; exact hbq
    have hqm : q ∈ w.1 := List.mem_of_getElem? hwq
    refine bk_Ro_repeat_24 _ _ _ _ _ ⟨fun c => absurd ((nI_leI (by omega) (by omega)).mp c) (by omega), fun _ => ⟨by rw [hln.at 8 80 (by decide)]; exact inb_nI (by omega) (by omega), ?_⟩⟩
    rw [ix_nI (by omega)]
    refine sp_add hln hw hwo (hw.2.2.2 i q hwq) (hwo.2.2.2 q hqm).1 (fun τ a hw' => ?_)
    show Wp lay1 rtOf (Cl lay1 (d + 1)) k_Ro_repeat 0 Q (24, [aO 9 7, aI x1, aI x2, aI (nI u), aI x4, aI (nI i + 1)], [], τ)
    rw [nI_1]
    obtain ⟨e', he'⟩ := radd_ext w q
    refine ih (i + 1) (radd w q) τ Q hd' (by omega) (hln.of a.2.2.1) hw' (radd_ok hwo (hwo.2.2.2 q hqm)) ⟨e ++ e', by rw [he', hwe, List.append_assoc]⟩ (fun υ u5 b1 b2 b3 => h υ u5 (a.trans b1) b2 b3)
theorem sp_rep_outer {f n u : Nat} {base : List Pt} (hu : u = base.length) (h80 : u ≤ 80) (hn : n ≤ 40) (hf : f ≤ u) : ∀ (m k : Nat) (w : Rw) (u5 : AV) (σ : St) (Q : Option AV → St → Prop), k + m = n → LN σ → rowC σ w → rwOK w → (∃ e, w.1 = base ++ e) → (∀ τ, fA σ τ → rowC τ (rrepN (base.drop f) m w) → Q none τ) → Wp lay1 rtOf (Cl lay1 (d + 1)) k_Ro_repeat 0 Q (8, [aO 9 7, aI (nI f), aI (nI n), aI (nI u), aI (nI k), u5], [], σ) := by
  intro m
  induction m with
  | zero =>
    intro k w u5 σ Q hk hln hw hwo he h
    exact bk_Ro_repeat_8 _ _ _ _ _ ⟨fun _ => h σ (fA.rf _) hw, fun c => absurd ((nI_leI (by omega) (by omega)).mpr (by omega)) c⟩
  | succ m ih =>
    intro k w u5 σ Q hk hln hw hwo he h
    refine bk_Ro_repeat_8 _ _ _ _ _ ⟨fun c => absurd ((nI_leI (by omega) (by omega)).mp c) (by omega), fun _ => ⟨fun c => ?_, fun c => ?_⟩⟩
    · refine sp_rep_inner hu h80 (base.drop f) f w σ Q rfl hf hln hw hwo he (fun τ u5' a hw' he' => ?_)
      rw [nI_1]
      have hwo' : rwOK (rfold w (base.drop f)) := by
        obtain ⟨e, hwe⟩ := he
        refine rfold_ok hwo (fun q hq => hwo.2.2.2 q ?_)
        rw [hwe]
        exact List.mem_append_left _ (List.mem_of_mem_drop hq)
      exact ih (k + 1) _ u5' τ Q (by omega) (hln.of a.2.2.1) hw' hwo' he' (fun υ b1 b2 => h υ (a.trans b1) b2)
    · have hm : w.2 = true := by
        cases e : w.2 with
        | true => rfl
        | false => exact absurd (hw.2.2.1 e).1 c
      refine h σ (fA.rf _) ?_
      rw [rrepN_m hm]
      exact hw
theorem sp_repeat {σ : St} {Q : Option AV → St → Prop} {w : Rw} {f n : Nat} (hln : LN σ) (hw : rowC σ w) (hwo : rwOK w) (hn : 1 ≤ n ∧ n ≤ 40) (hf : f ≤ w.1.length) (h : ∀ τ, fA σ τ → rowC τ (rrep w f n) → Q none τ) : Cl lay1 (d + 2) M_Ro_repeat [aO 9 7, aI (nI f), aI (nI n)] σ Q := by
  refine bk_Ro_repeat_0 _ _ ?_
  rw [hw.1]
  exact sp_rep_outer rfl hwo.1 hn.2 hf (n - 1) 1 w _ σ Q (by omega) hln hw hwo ⟨[], (List.append_nil _).symm⟩ h
end CROW
