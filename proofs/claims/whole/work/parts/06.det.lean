/-! ===== the machine is one-valued; cells and slots only grow ===== -/
def Ext (σ τ : St) : Prop := sN σ ≤ sN τ ∧ sS σ ≤ sS τ ∧ ∀ j, j < sN σ → gT τ j = gT σ j
theorem Ext.rf (σ : St) : Ext σ σ := ⟨Nat.le_refl _, Nat.le_refl _, fun _ _ => rfl⟩
theorem Ext.trans {σ τ υ : St} (h : Ext σ τ) (k : Ext τ υ) : Ext σ υ := ⟨Nat.le_trans h.1 k.1, Nat.le_trans h.2.1 k.2.1, fun j hj => (k.2.2 j (Nat.lt_of_lt_of_le hj h.1)).trans (h.2.2 j hj)⟩
theorem Ext_pI (σ : St) (j k : Nat) (v : Int32) : Ext σ (pI σ j k v) := Ext.rf σ
theorem Ext_pL (σ : St) (j k : Nat) (v : Int64) : Ext σ (pL σ j k v) := Ext.rf σ
theorem Ext_pR (σ : St) (j k : Nat) (v : Nat) : Ext σ (pR σ j k v) := Ext.rf σ
theorem Ext_nw (σ : St) (t n : Nat) : Ext σ (nw σ t n) := ⟨Nat.le_succ _, Nat.le_add_right _ _, fun j hj => by
  show (if j = σ.1 then t else σ.2.2.1 j) = σ.2.2.1 j
  rw [if_neg (show ¬ j = σ.1 from Nat.ne_of_lt hj)]⟩
/-- all successors extend -/
def AE (σ : St) (A : Option Act) : Prop := match A with
  | none => True
  | some (.inl s) => Ext σ s.2.2.2
  | some (.inr (.inl (_, s))) => Ext σ s.2.2.2
  | some (.inr (.inr (.inl (_, _, s)))) => Ext σ s.2.2.2
  | some (.inr (.inr (.inr (.inl (_, s, t))))) => Ext σ s.2.2.2 ∧ Ext σ t.2.2.2
  | some (.inr (.inr (.inr (.inr _)))) => True
theorem AE_qI {σ : St} {st : List AV} {f : Int32 → List AV → Option Act} (h : ∀ x r, AE σ (f x r)) : AE σ (qI st f) := by
  unfold qI
  split
  · exact h _ _
  · trivial
theorem AE_qJ {σ : St} {st : List AV} {f : Int64 → List AV → Option Act} (h : ∀ x r, AE σ (f x r)) : AE σ (qJ st f) := by
  unfold qJ
  split
  · exact h _ _
  · trivial
theorem AE_qR {σ : St} {st : List AV} {f : Nat → Nat → List AV → Option Act} (h : ∀ t j r, AE σ (f t j r)) : AE σ (qR st f) := by
  unfold qR
  split
  · exact h _ _ _
  · trivial
theorem AE_bif {σ : St} {b : Bool} {A : Option Act} (h : AE σ A) : AE σ (bif b then A else none) := by
  cases b
  · trivial
  · exact h
theorem AE_endS {σ : St} {r : List AV} {A : Option Act} (h : AE σ A) : AE σ (endS r A) := by
  cases r
  · exact h
  · trivial
theorem AE_qO {σ : St} {t : Nat} {st : List AV} {f : Nat → List AV → Option Act} (h : ∀ j r, AE σ (f j r)) : AE σ (qO t st f) := by
  unfold qO
  split
  · exact AE_bif (h _ _)
  · trivial
theorem AE_pops {σ : St} {f : List AV → List AV → Option Act} (h : ∀ a r, AE σ (f a r)) : ∀ (n : Nat) (acc st : List AV), AE σ (pops n acc st f)
  | 0, acc, st => h acc st
  | _ + 1, _, [] => trivial
  | n + 1, acc, v :: st => AE_pops h n (v :: acc) st
set_option maxHeartbeats 4000000 in
theorem actAE (lay : Nat → Nat → Nat) (rt : Nat) (e : En) (ls st : List AV) (σ : St) : AE σ (act lay rt e ls st σ) := by
  unfold act
  dsimp only
  split <;> first
    | exact Ext.rf σ
    | exact Ext_nw σ _ _
    | trivial
    | (refine AE_qI fun _ _ => ?_; first | exact Ext.rf σ | exact Ext_nw σ _ _ | exact ⟨Ext.rf σ, Ext.rf σ⟩ | trivial | (refine AE_qI fun _ _ => ?_; first | exact Ext.rf σ | exact ⟨Ext.rf σ, Ext.rf σ⟩ | (refine AE_qO fun _ _ => ?_; exact Ext.rf σ) | (refine AE_qR fun _ _ _ => ?_; split <;> first | exact Ext.rf σ | trivial)) | (refine AE_qJ fun _ _ => ?_; exact Ext.rf σ) | (refine AE_qO fun _ _ => ?_; exact Ext.rf σ) | (refine AE_qR fun _ _ _ => ?_; split <;> first | exact Ext.rf σ | trivial) | (refine AE_endS ?_; split <;> trivial))
    | (refine AE_qJ fun _ _ => ?_; first | exact Ext.rf σ | (refine AE_qJ fun _ _ => ?_; exact Ext.rf σ) | (refine AE_qI fun _ _ => ?_; refine AE_qO fun _ _ => ?_; exact Ext.rf σ) | (refine AE_endS ?_; split <;> trivial))
    | (refine AE_qR fun _ _ _ => ?_; first | exact Ext.rf σ | exact ⟨Ext.rf σ, Ext.rf σ⟩ | (refine AE_bif ?_; exact Ext.rf σ) | (refine AE_qI fun _ _ => ?_; refine AE_qR fun _ _ _ => ?_; refine AE_bif ?_; exact Ext.rf σ) | (refine AE_endS ?_; split <;> first | trivial | exact AE_bif trivial))
    | (refine AE_endS ?_; split <;> trivial)
    | (refine AE_qO fun _ _ => ?_; exact Ext.rf σ)
    | (refine AE_pops (fun _ _ => ?_) _ _ _; first | exact AE_bif trivial | (split <;> first | trivial | exact AE_bif trivial))
    | (split <;> first
        | trivial
        | exact AE_bif (Ext.rf σ)
        | (refine AE_qI fun _ _ => ?_; refine AE_qO fun _ _ => ?_; exact Ext.rf σ)
        | (refine AE_qJ fun _ _ => ?_; refine AE_qO fun _ _ => ?_; exact Ext.rf σ)
        | (refine AE_qO fun _ _ => ?_; refine AE_qO fun _ _ => ?_; exact Ext.rf σ)
        | (refine AE_qR fun _ _ _ => ?_; refine AE_bif ?_; exact Ext.rf σ)
        | (refine AE_pops (fun _ _ => ?_) _ _ _; split <;> first | trivial | exact AE_bif trivial))
def eqQ (v : Option AV) (τ : St) (w : Option AV) (υ : St) : Prop := w = v ∧ υ = τ
def DetCl (cl : CLT) : Prop := ∀ (mid : Nat) (args : List AV) (σ : St) (Q : Option AV → St → Prop), cl mid args σ Q → ∃ (v : Option AV) (τ : St), Q v τ ∧ Ext σ τ ∧ cl mid args σ (eqQ v τ)
theorem swt_det {K : Nat → Prop} {x : Int32} {d : Nat} : ∀ {tb : List (Int32 × Nat)}, swt K x d tb → ∃ p, K p ∧ ∀ K' : Nat → Prop, K' p → swt K' x d tb
  | [], h => ⟨d, h, fun _ h' => h'⟩
  | q :: r, h => by
    by_cases e : x = q.1
    · exact ⟨q.2, h.1 e, fun K' h' => ⟨fun _ => h', fun z => absurd e z⟩⟩
    · obtain ⟨p, h1, h2⟩ := swt_det (h.2 e)
      exact ⟨p, h1, fun K' h' => ⟨fun z => absurd z e, fun _ => h2 K' h'⟩⟩
theorem ctn_det {rt nx : Nat} {ls rest : List AV} {K : S4 → Prop} {v : Option AV} {τ : St} (h : ctn rt nx ls rest K v τ) : ∃ st', K (nx, ls, st', τ) ∧ (∀ K' : S4 → Prop, K' (nx, ls, st', τ) → ctn rt nx ls rest K' v τ) ∧ st' = v.toList ++ rest := by
  match rt, h with
  | 0, h => match v, h with
    | none, h => exact ⟨_, h, fun _ h' => h', rfl⟩
  | 1, h => match v, h with
    | some (.inr (.inl r)), h => exact ⟨_, h, fun _ h' => h', rfl⟩
  | 2, h => match v, h with
    | some (.inr (.inl r)), h => exact ⟨_, h, fun _ h' => h', rfl⟩
  | 3, h => match v, h with
    | some (.inr (.inr (.inl r))), h => exact ⟨_, h, fun _ h' => h', rfl⟩
  | t + 4, h => match v, h with
    | some (.inr (.inr (.inr (t', j)))), h =>
      obtain ⟨rfl, h⟩ := h
      exact ⟨_, h, fun _ h' => ⟨rfl, h'⟩, rfl⟩
theorem Wp.det {lay : Nat → Nat → Nat} {rtm : Nat → Nat} {cl : CLT} (hm : Mono cl) (hd : DetCl cl) {cd : List (Nat × En)} {rt : Nat} {Q : Option AV → St → Prop} {s : S4} (h : Wp lay rtm cl cd rt Q s) : ∃ (v : Option AV) (τ : St), Q v τ ∧ Ext s.2.2.2 τ ∧ Wp lay rtm cl cd rt (eqQ v τ) s := by
  refine h (fun s => ∃ (v : Option AV) (τ : St), Q v τ ∧ Ext s.2.2.2 τ ∧ Wp lay rtm cl cd rt (eqQ v τ) s) (fun s hs => ?_)
  have fold : ∀ (v : Option AV) (τ : St), stepS lay rtm cl cd rt (eqQ v τ) (Wp lay rtm cl cd rt (eqQ v τ)) s → Wp lay rtm cl cd rt (eqQ v τ) s := fun _ _ q => Wp.fold hm q
  unfold stepS at hs fold
  cases h1 : lk cd s.1 with
  | none => rw [h1] at hs; exact absurd hs id
  | some e =>
    rw [h1] at hs fold
    dsimp only at hs fold
    have hae := actAE lay rt e s.2.1 s.2.2.1 s.2.2.2
    cases h2 : act lay rt e s.2.1 s.2.2.1 s.2.2.2 with
    | none => rw [h2] at hs; exact absurd hs id
    | some A =>
      rw [h2] at hs fold hae
      dsimp only at hs fold
      match A, hs, fold, hae with
      | .inl s', hs, fold, hae =>
        obtain ⟨v, τ, q, x, w⟩ := hs
        exact ⟨v, τ, q, Ext.trans hae x, fold _ _ w⟩
      | .inr (.inl (j, s')), hs, fold, hae =>
        obtain ⟨hj, v, τ, q, x, w⟩ := nn_to hs
        exact ⟨v, τ, q, Ext.trans hae x, fold _ _ (nn_of hj w)⟩
      | .inr (.inr (.inl (j, ob, s'))), hs, fold, hae =>
        obtain ⟨hj, ho, v, τ, q, x, w⟩ := nn_to hs
        exact ⟨v, τ, q, Ext.trans hae x, fold _ _ (nn_of hj ⟨ho, w⟩)⟩
      | .inr (.inr (.inr (.inl (c, s', t')))), hs, fold, hae =>
        by_cases hc : c
        · obtain ⟨v, τ, q, x, w⟩ := hs.1 hc
          exact ⟨v, τ, q, Ext.trans hae.1 x, fold _ _ ⟨fun _ => w, fun z => absurd hc z⟩⟩
        · obtain ⟨v, τ, q, x, w⟩ := hs.2 hc
          exact ⟨v, τ, q, Ext.trans hae.2 x, fold _ _ ⟨fun z => absurd z hc, fun _ => w⟩⟩
      | .inr (.inr (.inr (.inr (.inl (x, tb, d, ls, st))))), hs, fold, hae =>
        obtain ⟨p, ⟨v, τ, q, x, w⟩, h3⟩ := swt_det hs
        exact ⟨v, τ, q, x, fold _ _ (h3 _ w)⟩
      | .inr (.inr (.inr (.inr (.inr (.inl (j, mid, args, rest)))))), hs, fold, hae =>
        obtain ⟨hj, hc⟩ := nn_to hs
        obtain ⟨v1, τ1, hk, hx1, hc1⟩ := hd _ _ _ _ hc
        obtain ⟨st', ⟨v, τ, q, x, w⟩, hk2, -⟩ := ctn_det hk
        refine ⟨v, τ, q, Ext.trans hx1 x, fold _ _ (nn_of hj (hm _ _ _ _ _ (fun w' υ e => ?_) hc1))⟩
        obtain ⟨rfl, rfl⟩ := e
        exact hk2 _ w
      | .inr (.inr (.inr (.inr (.inr (.inr (.inl v)))))), hs, fold, hae =>
        exact ⟨v, _, hs, Ext.rf _, fold _ _ ⟨rfl, rfl⟩⟩
      | .inr (.inr (.inr (.inr (.inr (.inr (.inr (ob, v))))))), hs, fold, hae =>
        exact ⟨v, _, hs.2, Ext.rf _, fold _ _ ⟨hs.1, rfl, rfl⟩⟩
theorem Cl_det (lay : Nat → Nat → Nat) : ∀ d : Nat, DetCl (Cl lay d)
  | 0 => fun _ _ _ _ h => absurd h id
  | d + 1 => fun mid args σ Q h => by
    unfold Cl at h
    cases hb : Nat.ble (catS args) (mlOf mid) with
    | false => rw [hb] at h; exact absurd h id
    | true =>
      rw [hb] at h
      obtain ⟨v, τ, h1, h2, h3⟩ := Wp.det (Cl_mono lay d) (Cl_det lay d) h
      refine ⟨v, τ, h1, h2, ?_⟩
      unfold Cl
      rw [hb]
      exact h3
