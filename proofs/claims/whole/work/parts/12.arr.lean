/-! ===== arrays and new cells over the whole world ===== -/
theorem entA_i {X : Cx} {σ : St} {t j : Nat} (h : t < 19) : entA X σ t j = (gN σ j, .inl (fun k => gI σ j k)) := by
  unfold entA
  rw [if_pos h]
theorem entA_l {X : Cx} {σ : St} {j : Nat} : entA X σ 19 j = (gN σ j, .inr (.inl (fun k => gL σ j k))) := rfl
theorem entA_q {X : Cx} {σ : St} {t j : Nat} (h : 20 ≤ t) : entA X σ t j = (gN σ j, .inr (.inr (.inr (.inr (fun k => rfO X (gR σ j k)))))) := by
  unfold entA
  rw [if_neg (by omega), if_neg (by omega)]
section HR3
variable {p : Program} {l : Launch} {e : Env} {R : Room} {s : State} {m : MethodId} {args : Array Value} {below : List Frame} {meth : Method} {c : Code} {H : Heap} {locs : List Loc} {cells slots : Nat} {Q : State → Prop}
variable {cc : ByteArray} {pc : Nat} {L : Array Slot} {rest : List Value} {X : Cx} {lay : Nat → Nat → Nat} {L0 : Nat} {σ τ : St} {own : String}
theorem h_iald (hx : p.tables.exec = Jvm.exec) (hb : c.code = cc) (hT : TW X s) (hH : HW lay L0 X σ s H) {j : Nat} {i : Int32} (h3 : 3 ≤ j) (hn : j < sN σ) (ht : gT σ j = 16) (hi : inb i (gN σ j)) (hdg : decode cc pc = .ok (.iaload, 1))
    (kk : W p l e R s m args below meth c H locs cells slots Q (F0 m (pc + 1) L (.int (gI σ j (ix i)) :: rest))) : W p l e R s m args below meth c H locs cells slots Q (F0 m pc L (.int i :: .ref (X.1 + (j - 3)) :: rest)) := by
  have he := conc_get (X := X) h3 hn
  rw [entO_arr ht (by omega), entA_i (by omega)] at he
  exact va_iald hx hb hT.1 hH.1 (j - 3) 0 he rfl (inb_in hi) hdg kk
theorem h_zald (hx : p.tables.exec = Jvm.exec) (hb : c.code = cc) (hT : TW X s) (hH : HW lay L0 X σ s H) {j : Nat} {i : Int32} (h3 : 3 ≤ j) (hn : j < sN σ) (ht : gT σ j = 17) (hi : inb i (gN σ j)) (hdg : decode cc pc = .ok (.baload, 1))
    (kk : W p l e R s m args below meth c H locs cells slots Q (F0 m (pc + 1) L (.int (gI σ j (ix i)) :: rest))) : W p l e R s m args below meth c H locs cells slots Q (F0 m pc L (.int i :: .ref (X.1 + (j - 3)) :: rest)) := by
  have he := conc_get (X := X) h3 hn
  rw [entO_arr ht (by omega), entA_i (by omega)] at he
  exact va_zald hx hb hT.1 hH.1 (j - 3) 1 he rfl (inb_in hi) hdg kk
theorem h_bald (hx : p.tables.exec = Jvm.exec) (hb : c.code = cc) (hT : TW X s) (hH : HW lay L0 X σ s H) {j : Nat} {i : Int32} (h3 : 3 ≤ j) (hn : j < sN σ) (ht : gT σ j = 18) (hi : inb i (gN σ j)) (hdg : decode cc pc = .ok (.baload, 1))
    (kk : W p l e R s m args below meth c H locs cells slots Q (F0 m (pc + 1) L (.int (gI σ j (ix i)) :: rest))) : W p l e R s m args below meth c H locs cells slots Q (F0 m pc L (.int i :: .ref (X.1 + (j - 3)) :: rest)) := by
  have he := conc_get (X := X) h3 hn
  rw [entO_arr ht (by omega), entA_i (by omega)] at he
  exact va_bald hx hb hT.1 hH.1 (j - 3) 2 he rfl (inb_in hi) hdg kk
theorem h_lald (hx : p.tables.exec = Jvm.exec) (hb : c.code = cc) (hT : TW X s) (hH : HW lay L0 X σ s H) {j : Nat} {i : Int32} (h3 : 3 ≤ j) (hn : j < sN σ) (ht : gT σ j = 19) (hi : inb i (gN σ j)) (hdg : decode cc pc = .ok (.laload, 1))
    (kk : W p l e R s m args below meth c H locs cells slots Q (F0 m (pc + 1) L (.long (gL σ j (ix i)) :: rest))) : W p l e R s m args below meth c H locs cells slots Q (F0 m pc L (.int i :: .ref (X.1 + (j - 3)) :: rest)) := by
  have he := conc_get (X := X) h3 hn
  rw [entO_arr ht (by omega), entA_l] at he
  exact va_lald hx hb hT.1 hH.1 (j - 3) 3 he rfl (inb_in hi) hdg kk
theorem h_aald (hx : p.tables.exec = Jvm.exec) (hb : c.code = cc) (hT : TW X s) (hH : HW lay L0 X σ s H) {j t : Nat} {i : Int32} (h3 : 3 ≤ j) (hn : j < sN σ) (ht : gT σ j = t) (h20 : t = 20 ∨ t = 21) (hi : inb i (gN σ j)) (hdg : decode cc pc = .ok (.aaload, 1))
    (kk : W p l e R s m args below meth c H locs cells slots Q (F0 m (pc + 1) L (va_rf (rfO X (gR σ j (ix i))) :: rest))) : W p l e R s m args below meth c H locs cells slots Q (F0 m pc L (.int i :: .ref (X.1 + (j - 3)) :: rest)) := by
  have he := conc_get (X := X) h3 hn
  rw [entO_arr ht (by omega), entA_q (by omega)] at he
  rcases h20 with rfl | rfl
  · exact va_aldq hx hb hT.1 hH.1 (j - 3) 4 he rfl (inb_in hi) hdg kk
  · exact va_aldq hx hb hT.1 hH.1 (j - 3) 5 he rfl (inb_in hi) hdg kk
theorem h_alen (hx : p.tables.exec = Jvm.exec) (hb : c.code = cc) (hT : TW X s) (hH : HW lay L0 X σ s H) {j t : Nat} (h3 : 3 ≤ j) (hn : j < sN σ) (ht : gT σ j = t) (h16 : 16 ≤ t ∧ t ≤ 21) (hdg : decode cc pc = .ok (.arraylength, 1))
    (kk : W p l e R s m args below meth c H locs cells slots Q (F0 m (pc + 1) L (.int (Int32.ofNat (gN σ j)) :: rest))) : W p l e R s m args below meth c H locs cells slots Q (F0 m pc L (.ref (X.1 + (j - 3)) :: rest)) := by
  have he := conc_get (X := X) h3 hn
  rw [entO_arr ht h16.1] at he
  have htt : (tysL X)[t - 16]? = some (X.2.2.2.2 t, aTy t) := by
    rcases (show t = 16 ∨ t = 17 ∨ t = 18 ∨ t = 19 ∨ t = 20 ∨ t = 21 by omega) with rfl | rfl | rfl | rfl | rfl | rfl <;> rfl
  exact va_alen hx hb hT.1 hH.1 (j - 3) (t - 16) he htt rfl hdg kk
/-- the script and the primes -/
theorem h_xald (hx : p.tables.exec = Jvm.exec) (hb : c.code = cc) {b N : Nat} {f : Nat → Int32} (hX : va_X b N f s H) {i : Int32} (hi : inb i N) (hdg : decode cc pc = .ok (.iaload, 1))
    (kk : W p l e R s m args below meth c H locs cells slots Q (F0 m (pc + 1) L (.int (f (ix i)) :: rest))) : W p l e R s m args below meth c H locs cells slots Q (F0 m pc L (.int i :: .ref b :: rest)) := by
  obtain ⟨scr, h1, h2, h3, h4, h5⟩ := hX
  have hin := inb_in hi
  have hlt : i.toNatClampNeg < N := Nat.not_le.mp fun q => hin (Or.inr q)
  exact W.iald (v := .int (f i.toNatClampNeg)) hx hb h1 h2 h3 (by rw [h4]; exact hin) (h5 _ hlt) rfl rfl hdg kk
theorem h_xlen (hx : p.tables.exec = Jvm.exec) (hb : c.code = cc) {b N : Nat} {f : Nat → Int32} (hX : va_X b N f s H) (hdg : decode cc pc = .ok (.arraylength, 1))
    (kk : W p l e R s m args below meth c H locs cells slots Q (F0 m (pc + 1) L (.int (Int32.ofNat N) :: rest))) : W p l e R s m args below meth c H locs cells slots Q (F0 m pc L (.ref b :: rest)) := by
  obtain ⟨scr, h1, h2, h3, h4, h5⟩ := hX
  exact W.alen (n := Int32.ofNat N) hx hb h1 h2 (by rw [h4] <;> rfl) rfl rfl hdg kk
theorem h_tald (hx : p.tables.exec = Jvm.exec) (hb : c.code = cc) {b N : Nat} {f : Nat → Int32} {B : Nat → Prop} (hX : va_T .int b N (fun k => .int (f k)) B s H) {i : Int32} (hi : inb i N) (hdg : decode cc pc = .ok (.iaload, 1))
    (kk : W p l e R s m args below meth c H locs cells slots Q (F0 m (pc + 1) L (.int (f (ix i)) :: rest))) : W p l e R s m args below meth c H locs cells slots Q (F0 m pc L (.int i :: .ref b :: rest)) := by
  obtain ⟨scr, h1, h2, h3, h4, -, h5, -⟩ := hX
  have hin := inb_in hi
  have hlt : i.toNatClampNeg < N := Nat.not_le.mp fun q => hin (Or.inr q)
  exact W.iald (v := .int (f i.toNatClampNeg)) hx hb h1 h2 h3 (fun q => q.elim (fun z => hin (Or.inl z)) (fun z => by omega)) (h5 _ hlt) rfl rfl hdg kk
theorem h_tlen (hx : p.tables.exec = Jvm.exec) (hb : c.code = cc) {b N : Nat} {f : Nat → Value} {B : Nat → Prop} (hX : va_T .int b N f B s H) (hdg : decode cc pc = .ok (.arraylength, 1))
    (kk : W p l e R s m args below meth c H locs cells slots Q (F0 m (pc + 1) L (.int (Int32.ofNat N) :: rest))) : W p l e R s m args below meth c H locs cells slots Q (F0 m pc L (.ref b :: rest)) := by
  obtain ⟨scr, h1, h2, h3, h4, h5, -⟩ := hX
  exact W.alen (n := Int32.ofNat N) hx hb h1 h2 h5 rfl rfl hdg kk
theorem at_i {t j : Nat} {H1 : Heap} {i : Int32} {x : Int32} (ht : gT σ j = t) (h16 : 16 ≤ t) (h19 : t < 19) (e : H1[X.1 + (j - 3)]? = some ((vp_cell (X.2.2.2.2 t) (gN σ j, .inl (fun k => gI σ j k))).setSlot i.toNatClampNeg (.int x))) : va_at X.2.2.2.1 vwCl (X.1 + (j - 3), entO X (pI σ j (ix i) x) j) H1 := by
  rw [entO_arr (X := X) (σ := pI σ j (ix i) x) (t := t) ht h16, entA_i h19]
  show H1[X.1 + (j - 3)]? = some (vp_cell _ _)
  rw [e, vp_cell_i, vp_cell_i, arrV_store]
  show some (arrV _ (gN σ j) _) = some (arrV _ (gN σ j) _)
  congr 2
  funext q
  rw [gI_pI]
  unfold updV ix
  by_cases hq : q = i.toNatClampNeg
  · rw [if_pos hq, if_pos ⟨rfl, hq⟩]
  · rw [if_neg hq, if_neg (fun z => hq z.2)]
theorem h_iast (hx : p.tables.exec = Jvm.exec) (hb : c.code = cc) (hT : TW X s) (hH : HW lay L0 X σ s H) (hS : va_S (fun q => X.1 ≤ q) s.heap H locs) (hsz : X.1 ≤ s.heap.size) {j : Nat} {i x : Int32} (h3 : 3 ≤ j) (hn : j < sN σ) (ht : gT σ j = 16) (hi : inb i (gN σ j)) (hdg : decode cc pc = .ok (.iastore, 1))
    (kk : ∀ (H1 : Heap) (locs1 : List Loc), HW lay L0 X (pI σ j (ix i) x) s H1 → va_S (fun q => X.1 ≤ q) s.heap H1 locs1 → W p l e R s m args below meth c H1 locs1 cells slots Q (F0 m (pc + 1) L rest)) : W p l e R s m args below meth c H locs cells slots Q (F0 m pc L (.int x :: .int i :: .ref (X.1 + (j - 3)) :: rest)) := by
  have he := conc_get (X := X) h3 hn
  rw [entO_arr ht (by omega), entA_i (by omega)] at he
  have hin := inb_in hi
  refine W.iast hx hb (hH.1 _ _ he) ((hT.1.2 0 _ rfl).1 (gN σ j) (fun k => .int (gI σ j k))) (fun q => by cases q) (by show ¬ (i < 0 ∨ (arrV _ _ _).slots.size ≤ _); rw [arrV_size]; exact hin) rfl rfl hdg fun H1 e z oq => ?_
  obtain ⟨a1, a2⟩ := HW.store hH hS hsz h3 hn (UpdAt_pI h3 hH.2.2.2.1 hH.2.2.2.2.1.2) (at_i ht (by omega) (by omega) e) z oq i.toNatClampNeg
  exact kk H1 _ a1 a2
theorem h_zast (hx : p.tables.exec = Jvm.exec) (hb : c.code = cc) (hT : TW X s) (hH : HW lay L0 X σ s H) (hS : va_S (fun q => X.1 ≤ q) s.heap H locs) (hsz : X.1 ≤ s.heap.size) {j : Nat} {i x : Int32} (h3 : 3 ≤ j) (hn : j < sN σ) (ht : gT σ j = 17) (hi : inb i (gN σ j)) (hdg : decode cc pc = .ok (.bastore, 1))
    (kk : ∀ (H1 : Heap) (locs1 : List Loc), HW lay L0 X (pI σ j (ix i) (vp_nar .boolean x)) s H1 → va_S (fun q => X.1 ≤ q) s.heap H1 locs1 → W p l e R s m args below meth c H1 locs1 cells slots Q (F0 m (pc + 1) L rest)) : W p l e R s m args below meth c H locs cells slots Q (F0 m pc L (.int x :: .int i :: .ref (X.1 + (j - 3)) :: rest)) := by
  have he := conc_get (X := X) h3 hn
  rw [entO_arr ht (by omega), entA_i (by omega)] at he
  have hin := inb_in hi
  refine W.zast hx hb (hH.1 _ _ he) ((hT.1.2 1 _ rfl).1 (gN σ j) (fun k => .int (gI σ j k))) (fun q => by cases q) (by show ¬ (i < 0 ∨ (arrV _ _ _).slots.size ≤ _); rw [arrV_size]; exact hin) rfl rfl hdg fun H1 e z oq => ?_
  obtain ⟨a1, a2⟩ := HW.store hH hS hsz h3 hn (UpdAt_pI h3 hH.2.2.2.1 hH.2.2.2.2.1.2) (at_i (x := vp_nar .boolean x) ht (by omega) (by omega) e) z oq i.toNatClampNeg
  exact kk H1 _ a1 a2
theorem h_bast (hx : p.tables.exec = Jvm.exec) (hb : c.code = cc) (hT : TW X s) (hH : HW lay L0 X σ s H) (hS : va_S (fun q => X.1 ≤ q) s.heap H locs) (hsz : X.1 ≤ s.heap.size) {j : Nat} {i x : Int32} (h3 : 3 ≤ j) (hn : j < sN σ) (ht : gT σ j = 18) (hi : inb i (gN σ j)) (hdg : decode cc pc = .ok (.bastore, 1))
    (kk : ∀ (H1 : Heap) (locs1 : List Loc), HW lay L0 X (pI σ j (ix i) (vp_nar .byte x)) s H1 → va_S (fun q => X.1 ≤ q) s.heap H1 locs1 → W p l e R s m args below meth c H1 locs1 cells slots Q (F0 m (pc + 1) L rest)) : W p l e R s m args below meth c H locs cells slots Q (F0 m pc L (.int x :: .int i :: .ref (X.1 + (j - 3)) :: rest)) := by
  have he := conc_get (X := X) h3 hn
  rw [entO_arr ht (by omega), entA_i (by omega)] at he
  have hin := inb_in hi
  refine W.bast hx hb (hH.1 _ _ he) ((hT.1.2 2 _ rfl).1 (gN σ j) (fun k => .int (gI σ j k))) (fun q => by cases q) (by show ¬ (i < 0 ∨ (arrV _ _ _).slots.size ≤ _); rw [arrV_size]; exact hin) rfl rfl hdg fun H1 e z oq => ?_
  obtain ⟨a1, a2⟩ := HW.store hH hS hsz h3 hn (UpdAt_pI h3 hH.2.2.2.1 hH.2.2.2.2.1.2) (at_i (x := vp_nar .byte x) ht (by omega) (by omega) e) z oq i.toNatClampNeg
  exact kk H1 _ a1 a2
theorem h_last (hx : p.tables.exec = Jvm.exec) (hb : c.code = cc) (hT : TW X s) (hH : HW lay L0 X σ s H) (hS : va_S (fun q => X.1 ≤ q) s.heap H locs) (hsz : X.1 ≤ s.heap.size) {j : Nat} {i : Int32} {x : Int64} (h3 : 3 ≤ j) (hn : j < sN σ) (ht : gT σ j = 19) (hi : inb i (gN σ j)) (hdg : decode cc pc = .ok (.lastore, 1))
    (kk : ∀ (H1 : Heap) (locs1 : List Loc), HW lay L0 X (pL σ j (ix i) x) s H1 → va_S (fun q => X.1 ≤ q) s.heap H1 locs1 → W p l e R s m args below meth c H1 locs1 cells slots Q (F0 m (pc + 1) L rest)) : W p l e R s m args below meth c H locs cells slots Q (F0 m pc L (.long x :: .int i :: .ref (X.1 + (j - 3)) :: rest)) := by
  have he := conc_get (X := X) h3 hn
  rw [entO_arr ht (by omega), entA_l] at he
  have hin := inb_in hi
  refine W.last hx hb (hH.1 _ _ he) ((hT.1.2 3 _ rfl).1 (gN σ j) (fun k => .long (gL σ j k))) (fun q => by cases q) (by show ¬ (i < 0 ∨ (arrV _ _ _).slots.size ≤ _); rw [arrV_size]; exact hin) rfl rfl hdg fun H1 e z oq => ?_
  have hat : va_at X.2.2.2.1 vwCl (X.1 + (j - 3), entO X (pL σ j (ix i) x) j) H1 := by
    rw [entO_arr (X := X) (σ := pL σ j (ix i) x) (t := 19) ht (by omega), entA_l]
    show H1[X.1 + (j - 3)]? = some (vp_cell _ _)
    rw [e, vp_cell_l, vp_cell_l, arrV_store]
    show some (arrV _ (gN σ j) _) = some (arrV _ (gN σ j) _)
    congr 2
    funext q
    rw [gL_pL]
    unfold updV ix
    by_cases hq : q = i.toNatClampNeg
    · rw [if_pos hq, if_pos ⟨rfl, hq⟩]
    · rw [if_neg hq, if_neg (fun z => hq z.2)]
  obtain ⟨a1, a2⟩ := HW.store hH hS hsz h3 hn (UpdAt_pL hH.2.2.2.1 hH.2.2.2.2.1.2) hat z oq i.toNatClampNeg
  exact kk H1 _ a1 a2
theorem at_q {t j v : Nat} {H1 : Heap} {i : Int32} (ht : gT σ j = t) (h20 : 20 ≤ t) (e : H1[X.1 + (j - 3)]? = some ((vp_cell (X.2.2.2.2 t) (gN σ j, .inr (.inr (.inr (.inr (fun k => rfO X (gR σ j k))))))).setSlot i.toNatClampNeg (va_rf (rfO X v)))) : va_at X.2.2.2.1 vwCl (X.1 + (j - 3), entO X (pR σ j (ix i) v) j) H1 := by
  rw [entO_arr (X := X) (σ := pR σ j (ix i) v) (t := t) ht (by omega), entA_q h20]
  show H1[X.1 + (j - 3)]? = some (vp_cell _ _)
  rw [e, vp_cell_q, vp_cell_q, arrV_store]
  show some (arrV _ (gN σ j) _) = some (arrV _ (gN σ j) _)
  congr 2
  funext q
  rw [gR_pR]
  unfold updV ix
  by_cases hq : q = i.toNatClampNeg
  · rw [if_pos hq, if_pos ⟨rfl, hq⟩]
  · rw [if_neg hq, if_neg (fun z => hq z.2)]
theorem h_aast (hx : p.tables.exec = Jvm.exec) (hb : c.code = cc) (hT : TW X s) (hH : HW lay L0 X σ s H) (hS : va_S (fun q => X.1 ≤ q) s.heap H locs) (hsz : X.1 ≤ s.heap.size) {j t v : Nat} {i : Int32} (h3 : 3 ≤ j) (hn : j < sN σ) (ht : gT σ j = t) (h20 : t = 20 ∨ t = 21) (hv : rOK σ (elT t) v) (hlc : layC lay j (ix i) v) (hi : inb i (gN σ j)) (hdg : decode cc pc = .ok (.aastore, 1))
    (kk : ∀ (H1 : Heap) (locs1 : List Loc), HW lay L0 X (pR σ j (ix i) v) s H1 → va_S (fun q => X.1 ≤ q) s.heap H1 locs1 → W p l e R s m args below meth c H1 locs1 cells slots Q (F0 m (pc + 1) L rest)) : W p l e R s m args below meth c H locs cells slots Q (F0 m pc L (va_rf (rfO X v) :: .int i :: .ref (X.1 + (j - 3)) :: rest)) := by
  have he := conc_get (X := X) h3 hn
  rw [entO_arr ht (by omega), entA_q (by omega)] at he
  have hin := inb_in hi
  have hlt : i.toNatClampNeg < gN σ j := Nat.not_le.mp fun q => hin (Or.inr q)
  have h0 : ¬ i < 0 := fun q => hin (Or.inl q)
  obtain ⟨C, htt, hC⟩ : ∃ C, (tysL X)[t - 16]? = some (X.2.2.2.2 t, .object C) ∧ C = nmC (elT t) := by
    rcases h20 with rfl | rfl
    · exact ⟨RX5, rfl, rfl⟩
    · exact ⟨RX0, rfl, rfl⟩
  have hel : elT t < 13 := by rcases h20 with rfl | rfl <;> decide
  have hu : UpdAt lay X σ (pR σ j (ix i) v) j := by
    refine UpdAt_pR hH.2.2.2.1 hH.2.2.2.2.1.2 hlc (fun t' h' => ?_)
    have : elT t = t' := by
      rw [ht] at h'
      rcases h20 with rfl | rfl
      · have : (9 : Nat) = t' + 4 := h'
        show 5 = t'
        omega
      · have : (4 : Nat) = t' + 4 := h'
        show 0 = t'
        omega
    rw [← this]; exact hv
  have fin : ∀ H1 : Heap, H1[X.1 + (j - 3)]? = some ((vp_cell (X.2.2.2.2 t) (gN σ j, .inr (.inr (.inr (.inr (fun k => rfO X (gR σ j k))))))).setSlot i.toNatClampNeg (va_rf (rfO X v))) → H1.size = H.size → (∀ q, q ≠ X.1 + (j - 3) → H1[q]? = H[q]?) → W p l e R s m args below meth c H1 (locs ++ [⟨X.1 + (j - 3), i.toNatClampNeg⟩]) cells slots Q (F0 m (pc + 1) L rest) := by
    intro H1 e z oq
    obtain ⟨a1, a2⟩ := HW.store hH hS hsz h3 hn hu (at_q ht (by omega) e) z oq i.toNatClampNeg
    exact kk H1 _ a1 a2
  rcases hv with rfl | ⟨v1, v2, v3⟩
  · exact va_WaastN (C := C) hx hb (hH.1 _ _ he) ((hT.1.2 _ _ htt).1 (gN σ j) (fun k => va_rf (rfO X (gR σ j k)))) (fun h => by cases h) (by show ¬ (i < 0 ∨ (arrV _ _ _).slots.size ≤ _); rw [arrV_size]; exact hin) rfl rfl hdg fin
  · obtain ⟨T, ty0, hvw, -⟩ := cls_ok (elT t) hel
    have hev := conc_get (X := X) v1 v2
    rw [entO_obj v3 hel] at hev
    obtain ⟨r', hr', cellV, g1, g2, g3, -⟩ := hH.1 _ _ hev
    have hcls := (hT.1.1 (elT t) _ hvw).2
    obtain ⟨kA, comp, k1, k2, k3, -⟩ := (hT.1.2 _ _ htt).2
    have hcomp : comp = X.2.2.2.1.1 (elT t) := by
      rw [hC] at k3
      exact Option.some.inj (k3.symm.trans hcls.1)
    subst hcomp
    obtain ⟨kC, hkC, -⟩ := hcls.2
    have hrf : va_rf (rfO X v) = .ref (X.1 + (v - 3)) := by
      unfold rfO
      rw [if_neg (by omega)]
      rfl
    rw [hrf] at fin ⊢
    exact W.aast hx hb (hH.1 _ _ he) (fun q h => by cases h) (fun h => by cases h) k1 k2 rfl hkC ⟨h0, by show _ < (arrV _ _ _).slots.size; rw [arrV_size]; exact hlt⟩ g1 (fun q h => by rw [g3] at h; cases h) (by rw [g2]; exact hkC) (by rw [g2]; exact va_assign hcls) rfl rfl hdg fin
end HR3
