/-! ===== LAYER 3, F: THE TEXT's tokens and the reading, without a machine ===== -/
def isBl (c : Nat) : Bool := decide (c = 32 ∨ c = 10)
def isLe (c : Nat) : Bool := decide (97 ≤ c ∧ c ≤ 122)
def isFi (c : Nat) : Bool := decide (48 ≤ c ∧ c ≤ 57)
def isAl (c : Nat) : Bool := decide (c = 61 ∨ c = 59 ∨ c = 40 ∨ c = 41 ∨ c = 42 ∨ c = 47 ∨ c = 45)
def spn (P : Nat → Bool) (t : Tx) : Nat → Nat → Nat
  | 0, a => a
  | m + 1, a => if a < t.1 ∧ P (t.2 a) = true then spn P t m (a + 1) else a
/-- the first place from a on that P doesn't hold at -/
def spE (P : Nat → Bool) (t : Tx) (a : Nat) : Nat := spn P t (t.1 - a) a
theorem spE_go {P : Nat → Bool} {t : Tx} {a : Nat} (h : a < t.1) (hp : P (t.2 a) = true) : spE P t a = spE P t (a + 1) := by
  unfold spE
  rw [show t.1 - a = (t.1 - (a + 1)) + 1 by omega]
  show (if _ then _ else _) = _
  rw [if_pos ⟨h, hp⟩]
theorem spE_st {P : Nat → Bool} {t : Tx} {a : Nat} (h : ¬ (a < t.1 ∧ P (t.2 a) = true)) : spE P t a = a := by
  unfold spE
  cases t.1 - a with
  | zero => rfl
  | succ n =>
    show (if _ then _ else _) = _
    rw [if_neg h]
theorem spn_le {P : Nat → Bool} {t : Tx} : ∀ (m a : Nat), a ≤ spn P t m a ∧ (a ≤ t.1 → spn P t m a ≤ t.1) ∧ ∀ j, a ≤ j → j < spn P t m a → P (t.2 j) = true
  | 0, a => ⟨Nat.le_refl _, fun h => h, fun j h1 h2 => absurd h2 (by show ¬ j < a; omega)⟩
  | m + 1, a => by
    obtain ⟨h1, h2, h3⟩ := spn_le (P := P) (t := t) m (a + 1)
    have e : spn P t (m + 1) a = if a < t.1 ∧ P (t.2 a) = true then spn P t m (a + 1) else a := rfl
    by_cases c : a < t.1 ∧ P (t.2 a) = true
    · rw [e, if_pos c]
      refine ⟨by omega, fun _ => h2 (by omega), fun j q1 q2 => ?_⟩
      by_cases e : j = a
      · rw [e]; exact c.2
      · exact h3 j (by omega) q2
    · rw [e, if_neg c]
      exact ⟨Nat.le_refl _, fun h => h, fun j h1 h2 => absurd h2 (by omega)⟩
theorem spE_ge (P : Nat → Bool) (t : Tx) (a : Nat) : a ≤ spE P t a := (spn_le _ _).1
theorem spE_le (P : Nat → Bool) {t : Tx} {a : Nat} (h : a ≤ t.1) : spE P t a ≤ t.1 := (spn_le _ _).2.1 h
theorem spE_in {P : Nat → Bool} {t : Tx} {a j : Nat} (h1 : a ≤ j) (h2 : j < spE P t a) : P (t.2 j) = true := (spn_le _ _).2.2 j h1 h2
def lts (t : Tx) (s n : Nat) : List Nat := (List.range n).map (fun i => t.2 (s + i) - 96)
theorem lts_succ (t : Tx) (s n : Nat) : lts t s (n + 1) = lts t s n ++ [t.2 (s + n) - 96] := by
  unfold lts
  rw [List.range_succ, List.map_append]
  rfl
theorem lts_len (t : Tx) (s n : Nat) : (lts t s n).length = n := by
  unfold lts
  rw [List.length_map, List.length_range]
def encL (b : Nat) (l : List Nat) : Nat := l.foldl (fun x c => x * b + c) 0
theorem encL_app (b : Nat) (l : List Nat) (c : Nat) : encL b (l ++ [c]) = encL b l * b + c := by
  unfold encL
  rw [List.foldl_append]
  rfl
def num (t : Tx) (s : Nat) : Nat → Nat
  | 0 => 0
  | n + 1 => num t s n * 10 + (t.2 (s + n) - 48)
theorem num_le {t : Tx} {s : Nat} : ∀ n, (∀ j, s ≤ j → j < s + n → isFi (t.2 j) = true) → num t s n < 10 ^ n
  | 0, _ => by show 0 < 1; omega
  | n + 1, h => by
    have ih := num_le (t := t) (s := s) n (fun j h1 h2 => h j h1 (by omega))
    have hd := of_decide_eq_true (h (s + n) (by omega) (by omega))
    show num t s n * 10 + (t.2 (s + n) - 48) < 10 ^ (n + 1)
    rw [Nat.pow_succ]
    omega
/-- a token: 0 end, 1 name, 2 number, 3 a sign alone, 4 wrong; its worth; its letters; where it begins; where it ends -/
abbrev Tk : Type := Nat × Nat × List Nat × Nat × Nat
def tok (t : Tx) (a : Nat) : Tk := if t.1 ≤ spE isBl t a then (0, 0, [], spE isBl t a, spE isBl t a) else if isLe (t.2 (spE isBl t a)) then ((if spE isLe t (spE isBl t a) - spE isBl t a ≤ 8 then 1 else 4), 0, lts t (spE isBl t a) (spE isLe t (spE isBl t a) - spE isBl t a), spE isBl t a, spE isLe t (spE isBl t a)) else if isFi (t.2 (spE isBl t a)) then ((if spE isFi t (spE isBl t a) - spE isBl t a ≤ 4 then 2 else 4), num t (spE isBl t a) (spE isFi t (spE isBl t a) - spE isBl t a), [], spE isBl t a, spE isFi t (spE isBl t a)) else ((if isAl (t.2 (spE isBl t a)) then 3 else 4), t.2 (spE isBl t a), [], spE isBl t a, spE isBl t a + 1)
theorem tok_pos {t : Tx} {a : Nat} (h : a ≤ t.1) : (tok t a).2.2.2.2 ≤ t.1 ∧ a ≤ (tok t a).2.2.2.1 ∧ (tok t a).2.2.2.1 ≤ t.1 ∧ ((tok t a).1 ≠ 0 → a < (tok t a).2.2.2.2) ∧ (tok t a).1 ≤ 4 := by
  have h1 := spE_ge isBl t a
  have h2 := spE_le isBl h
  unfold tok
  by_cases c : t.1 ≤ spE isBl t a
  · rw [if_pos c]
    exact ⟨h2, h1, h2, fun z => absurd rfl z, by show 0 ≤ 4; omega⟩
  rw [if_neg c]
  by_cases c1 : isLe (t.2 (spE isBl t a)) = true
  · rw [if_pos c1]
    have e := spE_go (P := isLe) (by omega) c1
    have g1 := spE_ge isLe t (spE isBl t a + 1)
    have g2 := spE_le isLe h2
    refine ⟨g2, h1, h2, fun _ => ?_, ?_⟩
    · show a < spE isLe t (spE isBl t a); omega
    · show (if _ then 1 else 4) ≤ 4
      split <;> omega
  rw [if_neg c1]
  by_cases c2 : isFi (t.2 (spE isBl t a)) = true
  · rw [if_pos c2]
    have e := spE_go (P := isFi) (by omega) c2
    have g1 := spE_ge isFi t (spE isBl t a + 1)
    have g2 := spE_le isFi h2
    refine ⟨g2, h1, h2, fun _ => ?_, ?_⟩
    · show a < spE isFi t (spE isBl t a); omega
    · show (if _ then 2 else 4) ≤ 4
      split <;> omega
  rw [if_neg c2]
  refine ⟨?_, h1, h2, fun _ => ?_, ?_⟩
  · show spE isBl t a + 1 ≤ t.1; omega
  · show a < spE isBl t a + 1; omega
  · show (if _ then 3 else 4) ≤ 4
    split <;> omega
/-- letters that a name may have -/
def lettersOK (l : List Nat) : Prop := l.length ≤ 8 ∧ ∀ c ∈ l, 1 ≤ c ∧ c ≤ 26
theorem lts_ok {t : Tx} {s n : Nat} (h : ∀ j, s ≤ j → j < s + n → isLe (t.2 j) = true) : ∀ c ∈ lts t s n, 1 ≤ c ∧ c ≤ 26 := by
  intro c hc
  obtain ⟨i, hi, rfl⟩ := List.mem_map.mp hc
  have := of_decide_eq_true (h (s + i) (by omega) (by have := List.mem_range.mp hi; omega))
  omega
theorem tok_name {t : Tx} {a : Nat} (h : (tok t a).1 = 1) : lettersOK (tok t a).2.2.1 := by
  unfold tok at h ⊢
  by_cases c : t.1 ≤ spE isBl t a
  · rw [if_pos c] at h; exact absurd h (by show ¬ 0 = 1; omega)
  rw [if_neg c] at h ⊢
  by_cases c1 : isLe (t.2 (spE isBl t a)) = true
  · rw [if_pos c1] at h ⊢
    have h : (if spE isLe t (spE isBl t a) - spE isBl t a ≤ 8 then 1 else 4) = 1 := h
    have g := spE_ge isLe t (spE isBl t a)
    refine ⟨?_, lts_ok (fun j h1 h2 => spE_in h1 (by omega))⟩
    show (lts t (spE isBl t a) _).length ≤ 8
    rw [lts_len]
    by_cases q : spE isLe t (spE isBl t a) - spE isBl t a ≤ 8
    · exact q
    · rw [if_neg q] at h; exact absurd h (by omega)
  rw [if_neg c1] at h
  by_cases c2 : isFi (t.2 (spE isBl t a)) = true
  · rw [if_pos c2] at h
    have h : (if spE isFi t (spE isBl t a) - spE isBl t a ≤ 4 then 2 else 4) = 1 := h
    split at h <;> omega
  · rw [if_neg c2] at h
    have h : (if isAl (t.2 (spE isBl t a)) then 3 else 4) = 1 := h
    split at h <;> omega
theorem tok_num {t : Tx} {a : Nat} (h : (tok t a).1 = 2) : (tok t a).2.1 ≤ 9999 := by
  unfold tok at h ⊢
  by_cases c : t.1 ≤ spE isBl t a
  · rw [if_pos c] at h; exact absurd h (by show ¬ 0 = 2; omega)
  rw [if_neg c] at h ⊢
  by_cases c1 : isLe (t.2 (spE isBl t a)) = true
  · rw [if_pos c1] at h
    have h : (if spE isLe t (spE isBl t a) - spE isBl t a ≤ 8 then 1 else 4) = 2 := h
    split at h <;> omega
  rw [if_neg c1] at h ⊢
  by_cases c2 : isFi (t.2 (spE isBl t a)) = true
  · rw [if_pos c2] at h ⊢
    have h : (if spE isFi t (spE isBl t a) - spE isBl t a ≤ 4 then 2 else 4) = 2 := h
    have g := spE_ge isFi t (spE isBl t a)
    by_cases q : spE isFi t (spE isBl t a) - spE isBl t a ≤ 4
    · have hn := num_le (t := t) (s := spE isBl t a) (spE isFi t (spE isBl t a) - spE isBl t a) (fun j h1 h2 => spE_in h1 (by omega))
      have hp : 10 ^ (spE isFi t (spE isBl t a) - spE isBl t a) ≤ 10 ^ 4 := Nat.pow_le_pow_right (by omega) q
      show num t _ _ ≤ 9999
      omega
    · rw [if_neg q] at h; exact absurd h (by omega)
  · rw [if_neg c2] at h
    have h : (if isAl (t.2 (spE isBl t a)) then 3 else 4) = 2 := h
    split at h <;> omega
/-! rows of PARTS, lines, the reading -/
abbrev Pt : Type := Nat × (Int × Nat)
abbrev Rw : Type := List Pt × Bool
abbrev Ln : Type := List Nat × List Pt
def cntK (c : Nat) : List Pt → Nat
  | [] => 0
  | q :: r => (if q.1 = c then 1 else 0) + cntK c r
theorem cntK_app (c : Nat) (q : Pt) : ∀ l, cntK c (l ++ [q]) = cntK c l + (if q.1 = c then 1 else 0)
  | [] => by show (if _ then _ else _) + 0 = 0 + _; omega
  | x :: l => by
    show (if _ then _ else _) + cntK c (l ++ [q]) = (if _ then _ else _) + cntK c l + _
    rw [cntK_app c q l]
    omega
def rfull (l : List Pt) (k : Nat) : Prop := 80 ≤ l.length ∨ (k = 3 ∧ 12 ≤ cntK 3 l) ∨ (k = 4 ∧ 12 ≤ cntK 4 l)
noncomputable def radd (w : Rw) (q : Pt) : Rw := cite (w.2 = true) w (cite (rfull w.1 q.1) (w.1, true) (w.1 ++ [q], false))
theorem radd_m {w : Rw} {q : Pt} (h : w.2 = true) : radd w q = w := cite_pos h
theorem radd_f {w : Rw} {q : Pt} (h : w.2 = false) (hf : rfull w.1 q.1) : radd w q = (w.1, true) := (cite_neg (by rw [h]; decide)).trans (cite_pos hf)
theorem radd_a {w : Rw} {q : Pt} (h : w.2 = false) (hf : ¬ rfull w.1 q.1) : radd w q = (w.1 ++ [q], false) := (cite_neg (by rw [h]; decide)).trans (cite_neg hf)
noncomputable def rfold (w : Rw) (l : List Pt) : Rw := l.foldl radd w
theorem rfold_m {w : Rw} (h : w.2 = true) : ∀ l, rfold w l = w
  | [] => rfl
  | q :: l => by
    show rfold (radd w q) l = w
    rw [radd_m h]
    exact rfold_m h l
/-- the PARTS from place f on n - 1 times more -/
noncomputable def rrepN (s : List Pt) : Nat → Rw → Rw
  | 0, w => w
  | n + 1, w => rrepN s n (rfold w s)
noncomputable def rrep (w : Rw) (f n : Nat) : Rw := rrepN (w.1.drop f) (n - 1) w
theorem rrepN_m {s : List Pt} {w : Rw} (h : w.2 = true) : ∀ n, rrepN s n w = w
  | 0 => rfl
  | n + 1 => by
    show rrepN s n (rfold w s) = w
    rw [rfold_m h]
    exact rrepN_m h n
def ptK (q : Pt) : Prop := q.1 ≤ 4 ∧ fOK q.2 ∧ Nat.gcd q.2.1.natAbs q.2.2 = 1
def rwOK (w : Rw) : Prop := w.1.length ≤ 80 ∧ cntK 3 w.1 ≤ 12 ∧ cntK 4 w.1 ≤ 12 ∧ ∀ q ∈ w.1, ptK q
theorem radd_ok {w : Rw} {q : Pt} (h : rwOK w) (hq : ptK q) : rwOK (radd w q) := by
  cases e : w.2 with
  | true => rw [radd_m e]; exact h
  | false =>
    by_cases c : rfull w.1 q.1
    · rw [radd_f e c]; exact h
    · rw [radd_a e c]
      unfold rfull at c
      obtain ⟨h1, h2, h3, h4⟩ := h
      refine ⟨?_, ?_, ?_, fun x hx => ?_⟩
      · show (w.1 ++ [q]).length ≤ 80
        rw [List.length_append]
        show w.1.length + 1 ≤ 80
        omega
      · show cntK 3 (w.1 ++ [q]) ≤ 12
        rw [cntK_app]
        by_cases e3 : q.1 = 3
        · rw [if_pos e3]; omega
        · rw [if_neg e3]; omega
      · show cntK 4 (w.1 ++ [q]) ≤ 12
        rw [cntK_app]
        by_cases e3 : q.1 = 4
        · rw [if_pos e3]; omega
        · rw [if_neg e3]; omega
      · rcases List.mem_append.mp hx with z | z
        · exact h4 x z
        · rw [List.mem_singleton.mp z]; exact hq
theorem rfold_ok : ∀ {l : List Pt} {w : Rw}, rwOK w → (∀ q ∈ l, ptK q) → rwOK (rfold w l)
  | [], _, h, _ => h
  | q :: l, w, h, hl => rfold_ok (l := l) (radd_ok h (hl q List.mem_cons_self)) (fun x hx => hl x (List.mem_cons_of_mem _ hx))
theorem rrepN_ok {s : List Pt} (hs : ∀ q ∈ s, ptK q) : ∀ (n : Nat) {w : Rw}, rwOK w → rwOK (rrepN s n w)
  | 0, _, h => h
  | n + 1, _, h => rrepN_ok hs n (rfold_ok h hs)
theorem rrep_ok {w : Rw} {f n : Nat} (h : rwOK w) : rwOK (rrep w f n) := rrepN_ok (fun q hq => h.2.2.2 q (List.mem_of_mem_drop hq)) _ h
/-- lines told so far (the newest first), the row, what is open, the line's name -/
abbrev Ba : Type := List Ln × Rw × List (Nat × Nat) × List Nat
/-- with what is awaited (0 a line or the end .. 9 an opening) and the figures read: kind, sign, above, times -/
abbrev Ps : Type := Ba × Nat × Nat × Int × Int × Nat
def own (l : List Nat) : Prop := l = [4] ∨ l = [17] ∨ l = [19] ∨ l = [11] ∨ l = [13]
def fnd (ls : List Ln) (l : List Nat) : Option (List Pt) := (ls.find? (fun x => decide (x.1 = l))).map (fun x => x.2)
noncomputable def endP (b : Ba) (k : Nat) (a : Int) (c : Nat) : Ba := (b.1, radd b.2.1 (k, lowF a c), b.2.2.1, b.2.2.2)
def isS (k : Tk) (c : Nat) : Prop := k.1 = 3 ∧ k.2.1 = c
noncomputable def stItem (b : Ba) (k : Tk) : Nat ⊕ Ps := cite (k.1 = 2) (cite (1 ≤ k.2.1 ∧ k.2.1 ≤ 40) (.inr (b, 8, 0, 0, 0, k.2.1)) (.inl 2)) (cite (k.1 = 1) (cite (k.2.2.1 = [4]) (.inr (b, 4, 0, 1, 0, 0)) (cite (k.2.2.1 = [17]) (.inr (b, 4, 1, 1, 0, 0)) (cite (k.2.2.1 = [19]) (.inr (b, 4, 2, 1, 0, 0)) (cite (k.2.2.1 = [11]) (.inr (endP b 3 0 1, 3, 0, 0, 0, 0)) (cite (k.2.2.1 = [13]) (.inr (endP b 4 0 1, 3, 0, 0, 0, 0)) (match fnd b.1 k.2.2.1 with
  | none => .inl 2
  | some l => .inr ((b.1, rfold b.2.1 l, b.2.2.1, b.2.2.2), 3, 0, 0, 0, 0))))))) (.inl 2))
noncomputable def stClose (b : Ba) : Nat ⊕ Ps := match b.2.2.1 with
  | q :: r => .inr ((b.1, rrep b.2.1 q.1 q.2, r, b.2.2.2), 3, 0, 0, 0, 0)
  | [] => cite (b.2.1.2 = true) (.inl 4) (.inr (((b.2.2.2, b.2.1.1) :: b.1, b.2.1, [], b.2.2.2), 0, 0, 0, 0, 0))
def clo (b : Ba) (k : Tk) : Prop := (b.2.2.1 ≠ [] ∧ isS k 41) ∨ (b.2.2.1 = [] ∧ isS k 59)
noncomputable def stIC (b : Ba) (k : Tk) : Nat ⊕ Ps := cite (clo b k) (stClose b) (stItem b k)
noncomputable def stAb (b : Ba) (kd : Nat) (sg : Int) (k : Tk) : Nat ⊕ Ps := cite (k.1 = 2) (cite (kd = 2) (.inr (endP b 2 (sg * k.2.1) 1, 3, 0, 0, 0, 0)) (.inr (b, 6, kd, 0, sg * k.2.1, 0))) (.inl 2)
noncomputable def stp (p : Ps) (k : Tk) : Nat ⊕ Ps := cite (k.1 = 4) (.inl 1) (match p.2.1 with
  | 0 => cite (k.1 = 0) (match p.1.1 with
    | [] => .inl 2
    | _ :: _ => .inr p) (cite (k.1 = 1 ∧ ¬ own k.2.2.1 ∧ fnd p.1.1 k.2.2.1 = none) (.inr ((p.1.1, ([], false), [], k.2.2.1), 1, 0, 0, 0, 0)) (.inl 2))
  | 1 => cite (isS k 61) (.inr (p.1, 2, 0, 0, 0, 0)) (.inl 2)
  | 2 => stItem p.1 k
  | 3 => stIC p.1 k
  | 4 => cite (isS k 45) (.inr (p.1, 5, p.2.2.1, -1, 0, 0)) (stAb p.1 p.2.2.1 p.2.2.2.1 k)
  | 5 => stAb p.1 p.2.2.1 p.2.2.2.1 k
  | 6 => cite (isS k 47) (.inr (p.1, 7, p.2.2.1, 0, p.2.2.2.2.1, 0)) (stIC (endP p.1 p.2.2.1 p.2.2.2.2.1 1) k)
  | 7 => cite (k.1 = 2 ∧ k.2.1 ≠ 0) (.inr (endP p.1 p.2.2.1 p.2.2.2.2.1 k.2.1, 3, 0, 0, 0, 0)) (.inl 2)
  | 8 => cite (isS k 42) (.inr (p.1, 9, 0, 0, 0, p.2.2.2.2.2)) (.inl 2)
  | _ => cite (isS k 40) (cite (6 ≤ p.1.2.2.1.length) (.inl 3) (.inr ((p.1.1, p.1.2.1, (p.1.2.1.1.length, p.2.2.2.2.2) :: p.1.2.2.1, p.1.2.2.2), 2, 0, 0, 0, 0))) (.inl 2))
/-- the reading from place a on: a fault with its place, or the last state -/
noncomputable def prF (t : Tx) : Nat → Nat → Ps → (Nat × Nat) ⊕ Ps
  | 0, _, _ => .inl (2, 0)
  | n + 1, a, p => match stp p (tok t a) with
    | .inl c => .inl (c, (tok t a).2.2.2.1)
    | .inr p' => cite ((tok t a).1 = 0) (.inr p') (prF t n (tok t a).2.2.2.2 p')
noncomputable def prP (t : Tx) (a : Nat) (p : Ps) : (Nat × Nat) ⊕ Ps := prF t (t.1 + 1 - a) a p
theorem prF_eq (t : Tx) (n a : Nat) (p : Ps) : prF t (n + 1) a p = match stp p (tok t a) with
    | .inl c => .inl (c, (tok t a).2.2.2.1)
    | .inr p' => cite ((tok t a).1 = 0) (.inr p') (prF t n (tok t a).2.2.2.2 p') := rfl
theorem prF_fix {t : Tx} : ∀ (m m' a : Nat) (p : Ps), a ≤ t.1 → t.1 + 1 - a ≤ m → t.1 + 1 - a ≤ m' → prF t m a p = prF t m' a p := by
  intro m
  induction m with
  | zero => intro m' a p h1 h2; omega
  | succ m ih =>
    intro m' a p h1 h2 h3
    obtain ⟨m', rfl⟩ : ∃ z, m' = z + 1 := ⟨m' - 1, by omega⟩
    have ht := tok_pos h1
    rw [prF_eq, prF_eq]
    cases stp p (tok t a) with
    | inl c => rfl
    | inr p' =>
      show cite _ _ _ = cite _ _ _
      by_cases e : (tok t a).1 = 0
      · rw [cite_pos e, cite_pos e]
      · rw [cite_neg e, cite_neg e]
        have hlt := ht.2.2.2.1 e
        exact ih m' _ _ ht.1 (by omega) (by omega)
theorem prP_l {t : Tx} {a : Nat} {p : Ps} {c : Nat} (h : a ≤ t.1) (hs : stp p (tok t a) = .inl c) : prP t a p = .inl (c, (tok t a).2.2.2.1) := by
  unfold prP
  rw [show t.1 + 1 - a = (t.1 - a) + 1 by omega, prF_eq, hs]
theorem prP_e {t : Tx} {a : Nat} {p p' : Ps} (h : a ≤ t.1) (hs : stp p (tok t a) = .inr p') (h0 : (tok t a).1 = 0) : prP t a p = .inr p' := by
  unfold prP
  rw [show t.1 + 1 - a = (t.1 - a) + 1 by omega, prF_eq, hs]
  exact cite_pos h0
theorem prP_s {t : Tx} {a : Nat} {p p' : Ps} (h : a ≤ t.1) (hs : stp p (tok t a) = .inr p') (h0 : (tok t a).1 ≠ 0) : prP t a p = prP t (tok t a).2.2.2.2 p' := by
  have ht := tok_pos h
  have hlt := ht.2.2.2.1 h0
  unfold prP
  rw [show t.1 + 1 - a = (t.1 - a) + 1 by omega, prF_eq, hs]
  show cite _ _ _ = _
  rw [cite_neg h0]
  exact prF_fix _ _ _ _ ht.1 (by omega) (by omega)
