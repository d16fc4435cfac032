/-! ===== the contract of every method ===== -/
theorem ent0_len : ∀ (n : Nat) (args : List AV), catS args ≤ n → (ent0 n args).length = n
  | n, [], _ => by simp [ent0]
  | n, v :: vs, h => by
    unfold catS at h
    unfold ent0
    cases hc : Nat.beq (cat v) 2 with
    | true =>
      have : cat v = 2 := Nat.eq_of_beq_eq_true hc
      have ih := ent0_len (n - 2) vs (by omega)
      show (v :: aZ :: ent0 (n - 2) vs).length = n
      simp only [List.length_cons, ih]
      omega
    | false =>
      have h1 : cat v = 1 := by
        match v, hc with
        | .inl _, _ => rfl
        | .inr (.inl _), _ => rfl
        | .inr (.inr (.inl _)), hc => cases hc
        | .inr (.inr (.inr _)), _ => rfl
      have ih := ent0_len (n - 1) vs (by omega)
      show (v :: ent0 (n - 1) vs).length = n
      simp only [List.length_cons, ih]
      omega
theorem nthA_rep : ∀ (n i : Nat), nthA (List.replicate n aZ) i = aZ
  | 0, _ => rfl
  | _ + 1, 0 => rfl
  | n + 1, i + 1 => nthA_rep n i
theorem ent0_args (X : Cx) : ∀ (n off : Nat) (args : List AV) (i : Nat), nthA (ent0 n args) i ≠ aZ → (off + i, cvV X (nthA (ent0 n args) i)) ∈ lv_args off (args.map (cvV X))
  | n, off, [], i, h => absurd (nthA_rep n i) h
  | n, off, v :: vs, i, h => by
    have hcat : (cvV X v).category = cat v := cat_cv X v
    unfold ent0 at h ⊢
    cases hc : Nat.beq (cat v) 2 with
    | true =>
      have h2 : cat v = 2 := Nat.eq_of_beq_eq_true hc
      rw [hc] at h
      match i, h with
      | 0, h => exact List.mem_cons_self
      | 1, h => exact absurd rfl h
      | i + 2, h =>
        have ih := ent0_args X (n - 2) (off + 2) vs i h
        refine List.mem_cons_of_mem _ ?_
        rw [if_pos (by rw [hcat]; exact h2)]
        rw [show off + (i + 2) = off + 2 + i by omega]
        exact ih
    | false =>
      rw [hc] at h
      match i, h with
      | 0, h => exact List.mem_cons_self
      | i + 1, h =>
        have ih := ent0_args X (n - 1) (off + 1) vs i h
        refine List.mem_cons_of_mem _ ?_
        have h2 : ¬ cat v = 2 := fun z => by
          rw [z] at hc
          cases hc
        rw [if_neg (by rw [hcat]; exact h2)]
        rw [show off + (i + 1) = off + 1 + i by omega]
        exact ih
theorem lg_sl_len (X : Cx) : ∀ args : List AV, (lg_sl (args.map (cvV X))).length = catS args
  | [] => rfl
  | v :: vs => by
    have ih := lg_sl_len X vs
    have hcat : (cvV X v).category = cat v := cat_cv X v
    have hc12 : cat v = 1 ∨ cat v = 2 := by
      match v with
      | .inl _ => exact Or.inl rfl
      | .inr (.inl _) => exact Or.inl rfl
      | .inr (.inr (.inl _)) => exact Or.inr rfl
      | .inr (.inr (.inr _)) => exact Or.inl rfl
    unfold lg_sl at ih ⊢
    rw [List.map_cons, List.flatMap_cons, List.length_append, ih, hcat]
    show _ = cat v + catS vs
    rcases hc12 with h | h
    · rw [h]; rfl
    · rw [h]; rfl
theorem ent0_mem {P : AV → Prop} (hz : P aZ) : ∀ (n : Nat) (args : List AV), (∀ v ∈ args, P v) → ∀ v ∈ ent0 n args, P v
  | n, [], _, v, hv => by
    unfold ent0 at hv
    rw [List.eq_of_mem_replicate hv]
    exact hz
  | n, a :: as, h, v, hv => by
    unfold ent0 at hv
    cases hc : Nat.beq (cat a) 2 with
    | true =>
      rw [hc] at hv
      rcases List.mem_cons.mp hv with rfl | hv
      · exact h _ List.mem_cons_self
      · rcases List.mem_cons.mp hv with rfl | hv
        · exact hz
        · exact ent0_mem hz (n - 2) as (fun x hx => h x (List.mem_cons_of_mem _ hx)) v hv
    | false =>
      rw [hc] at hv
      rcases List.mem_cons.mp hv with rfl | hv
      · exact h _ List.mem_cons_self
      · exact ent0_mem hz (n - 1) as (fun x hx => h x (List.mem_cons_of_mem _ hx)) v hv
theorem Lc_entry (X : Cx) {n : Nat} {args : List AV} (h : catS args ≤ n) : Lc X n (ent0 n args) ((lg_sl (args.map (cvV X)) ++ List.replicate (n - (lg_sl (args.map (cvV X))).length) Slot.unset).toArray) := by
  have hl := lv_entry (args.map (cvV X)) (n := n) (by rw [lg_sl_len]; exact h)
  refine ⟨hl.1, hl.2.1, ent0_len n args h, fun i hi => ?_⟩
  have := hl.2.2 _ (ent0_args X n 0 args i hi)
  rwa [Nat.zero_add] at this
section METH
variable {p : Program} {l : Launch} {e : Env} {R : Room} {s : State} {m : MethodId} {args : Array Value} {below : List Frame} {meth : Method} {c : Code} {lay : Nat → Nat → Nat} {L0 : Nat} {X : Cx} {mid n0 s0 d : Nat} {K : S4 → Prop} {v : Option AV} {τ : St}
theorem ret_ok (F : FX p s m meth c X mid) (hm : mid < 172) : ∀ (ins : Instr) (pc nx a b k dd : Nat) (w : Int32) (z : Int64) (tb : List (Int32 × Nat)) (ps : List Nat) (ls st : List AV) (σ : St) (A : Act), (ins = .ireturn ∨ ins = .lreturn ∨ ins = .areturn ∨ ins = .return_) → decode (byOf mid) pc = .ok (ins, 1) → act lay (rtOf mid) (ins, nx, (a, b, k, dd), w, z, tb, ps) ls st σ = some A → stepP rtOf (Cl lay d) (eqQ v τ) K nx ls σ A → BS p l e R s m args below meth c (MQ below (QmC lay L0 X v τ) args s (sN τ - n0) (sS τ - s0) (fun q => X.1 ≤ q)) lay L0 X mid n0 s0 (sN τ) (sS τ) (pc, ls, st, σ) := by
  intro ins pc nx a b k dd w z tb ps ls st σ A hins hd hA h
  have hro := (mChk_get hm).2.2.2.1
  have hret := F.2.2.2.2.2.1
  have hlk := F.2.2.2.2.1
  rcases hins with rfl | rfl | rfl | rfl
  · obtain ⟨x, r, rfl, hA1⟩ := qI_some hA
    obtain ⟨rfl, hA2⟩ := endS_some hA1
    generalize rtOf mid = rt at hA2 hro
    match rt, hA2, hro with
    | 1, hA2, hro =>
      cases hA2
      obtain ⟨rfl, rfl⟩ : some (aI x) = v ∧ σ = τ := h
      refine ⟨⟨Nat.le_refl _, Nat.le_refl _⟩, fun n1 n2 H locs L hH hVS hL hv1 hv2 => ?_⟩
      exact W.iret (v := x) F.1 F.2.1 (by rw [hret]; exact of_decide_eq_true hro) (fun t ht hW => ⟨⟨rfl, by rw [ht]; exact hH.alike hW.alike, fun w hw => by cases hw; exact trivial⟩, hVS.F ht⟩) hVS.2.2 hd hlk
    | 2, hA2, hro =>
      cases hA2
      obtain ⟨h01, rfl, rfl⟩ : (x = 0 ∨ x = 1) ∧ some (aI x) = v ∧ σ = τ := h
      refine ⟨⟨Nat.le_refl _, Nat.le_refl _⟩, fun n1 n2 H locs L hH hVS hL hv1 hv2 => ?_⟩
      exact W.zret (v := x) (ty := .boolean) F.1 F.2.1 (by rw [hret]; exact of_decide_eq_true hro) (by rcases h01 with rfl | rfl <;> rfl) (fun t ht hW => ⟨⟨rfl, by rw [ht]; exact hH.alike hW.alike, fun w hw => by cases hw; exact trivial⟩, hVS.F ht⟩) hVS.2.2 hd hlk
  · obtain ⟨x, r, rfl, hA1⟩ := qJ_some hA
    obtain ⟨rfl, hA2⟩ := endS_some hA1
    generalize rtOf mid = rt at hA2 hro
    match rt, hA2, hro with
    | 3, hA2, hro =>
      cases hA2
      obtain ⟨rfl, rfl⟩ : some (aJ x) = v ∧ σ = τ := h
      refine ⟨⟨Nat.le_refl _, Nat.le_refl _⟩, fun n1 n2 H locs L hH hVS hL hv1 hv2 => ?_⟩
      exact W.lret (v := x) F.1 F.2.1 (by rw [hret]; exact of_decide_eq_true hro) (fun t ht hW => ⟨⟨rfl, by rw [ht]; exact hH.alike hW.alike, fun w hw => by cases hw; exact trivial⟩, hVS.F ht⟩) hVS.2.2 hd hlk
  · obtain ⟨t, j, r, rfl, hA1⟩ := qR_some hA
    obtain ⟨rfl, hA2⟩ := endS_some hA1
    generalize rtOf mid = rt at hA2 hro
    match rt, hA2, hro with
    | t' + 4, hA2, hro =>
      obtain ⟨hb, hA3⟩ := bif_some hA2
      cases hA3
      obtain ⟨rfl, rfl⟩ : some (aO t j) = v ∧ σ = τ := h
      refine ⟨⟨Nat.le_refl _, Nat.le_refl _⟩, fun n1 n2 H locs L hH hVS hL hv1 hv2 => ?_⟩
      have hvv : vOK σ (aO t j) := vh hv2
      have hq : ∀ u : State, u.heap = H → s.WarmedH u.vm → QmC lay L0 X (some (aO t j)) σ args s (.returned (some (cvt X j))) u := fun u ht hW => ⟨⟨rfl, by rw [ht]; exact hH.alike hW.alike, fun w hw => by cases hw; exact hvv⟩, hVS.F ht⟩
      have hcv : cvt X j = .null ∨ ∃ a, cvt X j = .ref a := cvt_cases X j
      generalize hrv : retOf mid = rv at hro hret
      match rv, hro, hret with
      | some (.object nme), _, hret => exact W.aret (v := cvt X j) (rt := .object nme) F.1 F.2.1 hret (Or.inl ⟨_, rfl⟩) hcv hq hVS.2.2 hd hlk
      | some (.array tt), _, hret => exact W.aret (v := cvt X j) (rt := .array tt) F.1 F.2.1 hret (Or.inr ⟨_, rfl⟩) hcv hq hVS.2.2 hd hlk
  · obtain ⟨rfl, hA2⟩ := endS_some hA
    generalize rtOf mid = rt at hA2 hro
    match rt, hA2, hro with
    | 0, hA2, hro =>
      cases hA2
      obtain ⟨rfl, rfl⟩ : (none : Option AV) = v ∧ σ = τ := h
      refine ⟨⟨Nat.le_refl _, Nat.le_refl _⟩, fun n1 n2 H locs L hH hVS hL hv1 hv2 => ?_⟩
      exact W.vret F.1 F.2.1 (by rw [hret]; exact of_decide_eq_true hro) (fun t ht hW => ⟨⟨rfl, by rw [ht]; exact hH.alike hW.alike, fun w hw => by cases hw⟩, hVS.F ht⟩) hVS.2.2 hd hlk
end METH
theorem cs_all (l : Launch) (lay : Nat → Nat → Nat) (L0 : Nat) (X : Cx) (hz0 : LZ lay L0) : ∀ d : Nat, CS l lay L0 X d
  | 0 => fun _ _ _ _ _ _ h _ => absurd h id
  | d + 1 => by
    intro mid hm as σ τ v hcl hv
    have ih := cs_all l lay L0 X hz0 d
    unfold Cl at hcl
    cases hb : Nat.ble (catS as) (mlOf mid) with
    | false => rw [hb] at hcl; exact absurd hcl id
    | true =>
    rw [hb] at hcl
    dsimp only at hcl
    have hcat : catS as ≤ mlOf mid := Nat.le_of_ble_eq_true hb
    refine va_MetF (cc := byOf mid) (maxL := mlOf mid) (ret := retOf mid) (pf_all mid hm) rfl ?_
    intro p e s m args below meth c s₁ B hml hp
    obtain ⟨rfl, hH, hT⟩ := hp
    have F : FX p s m meth c X mid := ⟨B.exec, B.bytes, hml, findClass_of_methodNamed B.named, B.notSynchronized, B.returns, fun hi => ((name_of_methodNamed B.named B.method).1).trans (of_decide_eq_true hi), hT⟩
    have hsz : X.1 ≤ s.heap.size := by rw [hH.2.1]; exact Nat.le_add_right _ _
    have key := hcl (BS p l e (rmD (d + 1) (sN τ - sN σ) (sS τ - sS σ)) s m (as.map (cvV X)).toArray below meth c (MQ below (QmC lay L0 X v τ) (as.map (cvV X)).toArray s (sN τ - sN σ) (sS τ - sS σ) (fun q => X.1 ≤ q)) lay L0 X mid (sN σ) (sS σ) (sN τ) (sS τ)) (fun q hq => sim_step (d := d) F (by omega) hsz hz0 ⟨Nat.le_refl _, Nat.le_refl _⟩ ⟨Nat.le_refl _, Nat.le_refl _⟩ ih (fun _ h => h) (ret_ok F hm) hq)
    have hw := key.2 (Nat.le_refl _) (Nat.le_refl _) s.heap [] _ hH va_S.rf (Lc_entry X hcat) (ent0_mem (P := vOK σ) trivial _ _ hv) (fun v hv => by cases hv)
    have hw : W p l e (rmD (d + 1) (sN τ - sN σ) (sS τ - sS σ)) s m (as.map (cvV X)).toArray below meth c s.heap [] (sN σ - sN σ) (sS σ - sS σ) (MQ below (QmC lay L0 X v τ) (as.map (cvV X)).toArray s (sN τ - sN σ) (sS τ - sS σ) (fun q => X.1 ≤ q)) (F0 m 0 ((lg_sl (as.map (cvV X)) ++ List.replicate (mlOf mid - (lg_sl (as.map (cvV X))).length) Slot.unset).toArray) []) := hw
    rw [Nat.sub_self, Nat.sub_self] at hw
    rw [lg_entry_eq]
    exact hw
