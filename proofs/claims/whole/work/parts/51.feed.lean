/-! ===== LAYER 3, G: THE TEXT and feed() ===== -/
/-- THE TEXT: how many signs, and the signs -/
abbrev Tx : Type := Nat × (Nat → Nat)
def txOK (t : Tx) : Prop := t.1 ≤ 1500 ∧ ∀ i, i < t.1 → t.2 i < 256
def bt (b : Nat) : Int32 := (nI b).toInt8.toInt32
def txC (σ : St) (t : Tx) : Prop := gI σ 5 1 = nI t.1 ∧ ∀ i, i < t.1 → gI σ 6 i = bt (t.2 i)
def txR (σ : St) (t : Tx) : Prop := gI σ 71 1 = nI t.1 ∧ ∀ i, i < t.1 → gI σ 72 i = nI (t.2 i)
theorem bt_and {b : Nat} (h : b < 256) : bt b &&& 255 = nI b := by
  have : ∀ b : Nat, b < 256 → bt b &&& 255 = nI b := by decide +kernel
  exact this b h
/-- the sign that v brings at place i -/
def fby (v : Int64) (i : Nat) : Nat := v.toBitVec.toNat / 2 ^ (8 * i) % 256
theorem fby_lt (v : Int64) (i : Nat) : fby v i < 256 := Nat.mod_lt _ (by decide)
theorem sshr_mod (x : BitVec 64) (c : Nat) (hc : c ≤ 56) : (x.sshiftRight c).toNat % 256 = x.toNat / 2 ^ c % 256 := by
  apply Nat.eq_of_testBit_eq
  intro i
  rw [show (256 : Nat) = 2 ^ 8 from rfl, Nat.testBit_mod_two_pow, Nat.testBit_mod_two_pow, Nat.testBit_div_two_pow]
  by_cases hi : i < 8
  · have e1 : (x.sshiftRight c).toNat.testBit i = (x.sshiftRight c).getLsbD i := rfl
    have e2 : x.toNat.testBit (c + i) = x.getLsbD (c + i) := rfl
    rw [Nat.add_comm i c, e1, e2, BitVec.getLsbD_sshiftRight, if_pos (by omega), decide_eq_false (by omega : ¬ 64 ≤ i)]
    rfl
  · rw [decide_eq_false hi]
    rfl
theorem fby_R {v : Int64} {i : Nat} (hi : i < 8) : ((v >>> (((8 : Int32) * nI i).toInt64 &&& 63)) &&& (255 : Int64)).toInt32 = nI (fby v i) := by
  have key : ∀ (s : Int64) (c : Nat), (s.toBitVec.smod 64).toNat = c → c = 8 * i → ((v >>> s) &&& (255 : Int64)).toInt32 = nI (fby v i) := by
    intro s c hs hc
    have e1 : (v >>> s).toBitVec = v.toBitVec.sshiftRight c := by
      rw [Int64.toBitVec_shiftRight]
      show v.toBitVec.sshiftRight (s.toBitVec.smod 64).toNat = _
      rw [hs]
    have e2 : ((v >>> s) &&& (255 : Int64)) = L64 (fby v i) := by
      apply Int64.toBitVec_inj.mp
      apply BitVec.eq_of_toNat_eq
      rw [Int64.toBitVec_and, BitVec.toNat_and, e1, show (255 : Int64).toBitVec.toNat = 2 ^ 8 - 1 by decide, Nat.and_two_pow_sub_one_eq_mod]
      have h1 := sshr_mod v.toBitVec c (by omega)
      have h2 := fby_lt v i
      show (v.toBitVec.sshiftRight c).toNat % 256 = _
      rw [h1, hc]
      have : (L64 (fby v i : Nat)).toBitVec.toNat = fby v i := by
        show (BitVec.ofInt 64 (fby v i : Nat)).toNat = _
        rw [BitVec.toNat_ofInt]
        omega
      rw [this]
      rfl
    rw [e2, L64_I32, ← nI_I32]
  rcases (show i = 0 ∨ i = 1 ∨ i = 2 ∨ i = 3 ∨ i = 4 ∨ i = 5 ∨ i = 6 ∨ i = 7 by omega) with rfl | rfl | rfl | rfl | rfl | rfl | rfl | rfl
  · exact key _ 0 (by decide) rfl
  · exact key _ 8 (by decide) rfl
  · exact key _ 16 (by decide) rfl
  · exact key _ 24 (by decide) rfl
  · exact key _ 32 (by decide) rfl
  · exact key _ 40 (by decide) rfl
  · exact key _ 48 (by decide) rfl
  · exact key _ 56 (by decide) rfl
theorem fby_C {v : Int64} {i : Nat} (hi : i < 8) : (((v.toUInt64 >>> (((8 : Int32) * nI i).toInt64.toUInt64 &&& Int64.toUInt64 63)).toInt64).toInt32 &&& (255 : Int32)) = nI (fby v i) := by
  have key : ∀ (s : UInt64) (c : Nat), s.toNat % 64 = c → c = 8 * i → (((v.toUInt64 >>> s).toInt64).toInt32 &&& (255 : Int32)) = nI (fby v i) := by
    intro s c hs hc
    rw [pk_and _ 8 (by decide)]
    congr 1
    have e : ((v.toUInt64 >>> s).toInt64).toInt32.toBitVec.toNat % 256 = (v.toUInt64 >>> s).toNat % 256 := by
      show (BitVec.signExtend 32 (v.toUInt64 >>> s).toBitVec).toNat % 256 = _
      rw [BitVec.signExtend_eq_setWidth_of_le _ (by omega), BitVec.toNat_setWidth]
      show (v.toUInt64 >>> s).toNat % 2 ^ 32 % 256 = _
      omega
    show ((v.toUInt64 >>> s).toInt64).toInt32.toBitVec.toNat % 256 = _
    rw [e, UInt64.toNat_shiftRight, hs, hc, Nat.shiftRight_eq_div_pow]
    rfl
  rcases (show i = 0 ∨ i = 1 ∨ i = 2 ∨ i = 3 ∨ i = 4 ∨ i = 5 ∨ i = 6 ∨ i = 7 by omega) with rfl | rfl | rfl | rfl | rfl | rfl | rfl | rfl
  · exact key _ 0 (by decide) rfl
  · exact key _ 8 (by decide) rfl
  · exact key _ 16 (by decide) rfl
  · exact key _ 24 (by decide) rfl
  · exact key _ 32 (by decide) rfl
  · exact key _ 40 (by decide) rfl
  · exact key _ 48 (by decide) rfl
  · exact key _ 56 (by decide) rfl
def tadd (t : Tx) (b : Nat) : Tx := (t.1 + 1, fun i => if i = t.1 then b else t.2 i)
/-- m signs more: those of v from place m - 1 down -/
def tfeed (v : Int64) : Nat → Tx → Tx
  | 0, t => t
  | m + 1, t => tfeed v m (tadd t (fby v m))
theorem tfeed_len (v : Int64) : ∀ (m : Nat) (t : Tx), (tfeed v m t).1 = t.1 + m
  | 0, _ => rfl
  | m + 1, t => by
    show (tfeed v m (tadd t (fby v m))).1 = _
    rw [tfeed_len v m]
    show t.1 + 1 + m = _
    omega
theorem tadd_ok {t : Tx} {b : Nat} (h : ∀ i, i < t.1 → t.2 i < 256) (hb : b < 256) : ∀ i, i < (tadd t b).1 → (tadd t b).2 i < 256 := by
  intro i hi
  have hi : i < t.1 + 1 := hi
  show (if i = t.1 then b else t.2 i) < 256
  split
  · exact hb
  · exact h i (by omega)
theorem tfeed_ok (v : Int64) : ∀ (m : Nat) (t : Tx), (∀ i, i < t.1 → t.2 i < 256) → ∀ i, i < (tfeed v m t).1 → (tfeed v m t).2 i < 256
  | 0, _, h => h
  | m + 1, t, h => tfeed_ok v m _ (tadd_ok h (fby_lt v m))
def spFeed (t : Tx) (n : Int32) (v : Int64) : Int32 × Tx := if 1 ≤ n.toInt ∧ n.toInt ≤ 8 then (if (t.1 : Int) + n.toInt ≤ 1500 then (nI (t.1 + n.toInt.toNat), tfeed v n.toInt.toNat t) else (-3, t)) else (-1, t)
theorem spFeed_ok {t : Tx} {n : Int32} {v : Int64} (h : txOK t) : txOK (spFeed t n v).2 := by
  unfold spFeed
  split
  · split
    · refine ⟨?_, tfeed_ok v _ t h.2⟩
      show (tfeed v n.toInt.toNat t).1 ≤ 1500
      rw [tfeed_len]
      omega
    · exact h
  · exact h
theorem spFeed_len {t : Tx} {n : Int32} {v : Int64} : (spFeed t n v).2.1 ≤ t.1 + 8 := by
  unfold spFeed
  split
  · split
    · show (tfeed v n.toInt.toNat t).1 ≤ t.1 + 8
      rw [tfeed_len]
      omega
    · show t.1 ≤ t.1 + 8
      omega
  · show t.1 ≤ t.1 + 8
    omega
/-- what feeding changes -/
def fdC (σ τ : St) : Prop := sN τ = sN σ ∧ sS τ = sS σ ∧ gN τ = gN σ ∧ gR τ = gR σ ∧ gL τ = gL σ ∧ ∀ j k, j ≠ 6 → ¬ (j = 5 ∧ k = 1) → gI τ j k = gI σ j k
theorem fdC.rf (σ : St) : fdC σ σ := ⟨rfl, rfl, rfl, rfl, rfl, fun _ _ _ _ => rfl⟩
theorem fdC.trans {σ τ υ : St} (h : fdC σ τ) (g : fdC τ υ) : fdC σ υ := ⟨g.1.trans h.1, g.2.1.trans h.2.1, g.2.2.1.trans h.2.2.1, g.2.2.2.1.trans h.2.2.2.1, g.2.2.2.2.1.trans h.2.2.2.2.1, fun j k a b => (g.2.2.2.2.2 j k a b).trans (h.2.2.2.2.2 j k a b)⟩
def fdR (σ τ : St) : Prop := sN τ = sN σ ∧ sS τ = sS σ ∧ gN τ = gN σ ∧ gR τ = gR σ ∧ gL τ = gL σ ∧ ∀ j k, j ≠ 72 → ¬ (j = 71 ∧ k = 1) → gI τ j k = gI σ j k
theorem fdR.rf (σ : St) : fdR σ σ := ⟨rfl, rfl, rfl, rfl, rfl, fun _ _ _ _ => rfl⟩
theorem fdR.trans {σ τ υ : St} (h : fdR σ τ) (g : fdR τ υ) : fdR σ υ := ⟨g.1.trans h.1, g.2.1.trans h.2.1, g.2.2.1.trans h.2.2.1, g.2.2.2.1.trans h.2.2.2.1, g.2.2.2.2.1.trans h.2.2.2.2.1, fun j k a b => (g.2.2.2.2.2 j k a b).trans (h.2.2.2.2.2 j k a b)⟩
section FEED
variable {d : Nat}
theorem sp_append {σ : St} {Q : Option AV → St → Prop} {t : Tx} {b : Nat} (hln : LN σ) (ht : txC σ t) (h1 : t.1 < 1500) (h : ∀ τ, fdC σ τ → txC τ (tadd t b) → Q none τ) : Cl lay1 (d + 1) M_Te_append [aO 10 5, aI (nI b)] σ Q := by
  refine bk_Te_append_0 _ ⟨fun c => absurd c ?_, fun _ => ⟨by rw [ht.1, hln.at 6 1500 (by decide)]; exact inb_nI h1 (by omega), ?_⟩⟩
  · rw [ht.1, show (1500 : Int32) = nI 1500 from rfl, nI_leI (by omega) (by omega)]; omega
  rw [ht.1, ix_nI (by omega), pk_vb]
  have e5 : gI (pI σ 6 t.1 (nI b).toInt8.toInt32) 5 1 = nI t.1 := by rw [gI_pI, if_neg (by omega)]; exact ht.1
  rw [e5, nI_1]
  refine h _ ⟨rfl, rfl, rfl, rfl, rfl, fun j k a b => by rw [gI_pI, if_neg b, gI_pI, if_neg (by omega)]⟩ ⟨by rw [gI_pI, if_pos ⟨rfl, rfl⟩]; rfl, fun i hi => ?_⟩
  have hi : i < t.1 + 1 := hi
  rw [gI_pI, if_neg (by omega), gI_pI]
  show _ = bt (if i = t.1 then b else t.2 i)
  by_cases e : i = t.1
  · rw [if_pos ⟨rfl, e⟩, if_pos e]; rfl
  · rw [if_neg (by omega), if_neg e]; exact ht.2 i (by omega)
theorem sp_C_feed_loop {v : Int64} : ∀ (m : Nat) (t : Tx) (u1 : AV) (σ : St) (Q : Option AV → St → Prop), m ≤ 8 → t.1 + m ≤ 1500 → LN σ → txC σ t → (∀ τ, fdC σ τ → txC τ (tfeed v m t) → Q (some (aI (nI (t.1 + m)))) τ) → Wp lay1 rtOf (Cl lay1 (d + 1)) k_C_feed 1 Q (39, [aO 11 3, u1, aJ v, aZ, aI (nI m - 1)], [], σ) := by
  intro m
  induction m with
  | zero =>
    intro t u1 σ Q _ h1 hln ht h
    refine bk_C_feed_39 _ _ _ ⟨fun _ => ?_, fun c => absurd (by decide) c⟩
    rw [ht.1]
    exact h σ (fdC.rf _) ht
  | succ m ih =>
    intro t u1 σ Q h8 h1 hln ht h
    rw [nI_pred]
    refine bk_C_feed_39 _ _ _ ⟨fun c => absurd c (nI_pos (by omega)), fun _ => ?_⟩
    rw [fby_C (by omega)]
    refine sp_append hln ht (by omega) (fun τ a ht' => ?_)
    show Wp lay1 rtOf (Cl lay1 (d + 1)) k_C_feed 1 Q (39, [aO 11 3, u1, aJ v, aZ, aI (nI m + (-1))], [], τ)
    rw [← Int32.sub_eq_add_neg]
    refine ih (tadd t (fby v m)) u1 τ Q (by omega) (by show t.1 + 1 + m ≤ 1500; omega) (hln.of a.2.2.1) ht' (fun υ b1 b2 => ?_)
    have := h υ (a.trans b1) b2
    rw [show t.1 + (m + 1) = (tadd t (fby v m)).1 + m by show _ = t.1 + 1 + m; omega] at this
    exact this
theorem sp_C_feed {σ : St} {Q : Option AV → St → Prop} {t : Tx} {n : Int32} {v : Int64} (hln : LN σ) (ht : txC σ t) (hto : txOK t) (h : ∀ τ, fdC σ τ → txC τ (spFeed t n v).2 → Q (some (aI (spFeed t n v).1)) τ) : Cl lay1 (d + 2) M_C_feed [aO 11 3, aI n, aJ v] σ Q := by
  have h1500 := hto.1
  have x1 := Int32.toInt_lt n
  have x2 := Int32.le_toInt n
  have bad : ∀ w, spFeed t n v = (w, t) → Q (some (aI w)) σ := fun w e => by
    have := h σ (fdC.rf _) (by rw [e]; exact ht)
    rw [e] at this
    exact this
  have e5 : ((1500 : Int32) - gI σ 5 1) = nI (1500 - t.1) := by
    rw [ht.1, show (1500 : Int32) = nI 1500 from rfl, pk_sub (by omega)]
  refine bk_C_feed_0 _ _ ?_
  rw [e5]
  simp only [Int32.lt_iff_toInt_lt, Int32.le_iff_toInt_le, show (1 : Int32).toInt = 1 by decide, show (8 : Int32).toInt = 8 by decide, nI_toInt (show 1500 - t.1 < 2147483648 by omega)]
  refine ⟨fun c => bad _ (if_neg (by omega)), fun c1 => ⟨fun c2 => ⟨fun c3 => ?_, fun c3 => bad _ ((if_pos (by omega)).trans (if_neg (by omega)))⟩, fun c2 => bad _ (if_neg (by omega))⟩⟩
  have e : spFeed t n v = _ := (if_pos (by omega)).trans (if_pos (by omega))
  rw [e] at h
  have en := nI_self (x := n) (by omega)
  rw [en]
  exact sp_C_feed_loop n.toInt.toNat t _ σ Q (by omega) (by omega) hln ht h
theorem sp_R_feed_loop {v : Int64} : ∀ (m : Nat) (t : Tx) (u1 : AV) (σ : St) (Q : Option AV → St → Prop), m ≤ 8 → t.1 + m ≤ 1500 → LN σ → txR σ t → (∀ τ, fdR σ τ → txR τ (tfeed v m t) → Q (some (aI (nI (t.1 + m)))) τ) → Wp lay1 rtOf (Cl lay1 (d + 1)) k_R_feed 1 Q (34, [aO 12 71, u1, aJ v, aZ, aI (nI m - 1)], [], σ) := by
  intro m
  induction m with
  | zero =>
    intro t u1 σ Q _ h1 hln ht h
    refine bk_R_feed_34 _ _ _ ⟨fun _ => ?_, fun c => absurd (by decide) c⟩
    rw [ht.1]
    exact h σ (fdR.rf _) ht
  | succ m ih =>
    intro t u1 σ Q h8 h1 hln ht h
    rw [nI_pred]
    refine bk_R_feed_34 _ _ _ ⟨fun c => absurd c (nI_pos (by omega)), fun _ => ⟨by rw [ht.1, hln.at 72 1500 (by decide)]; exact inb_nI (by omega) (by omega), ?_⟩⟩
    rw [fby_R (by omega), ht.1, ix_nI (by omega)]
    have e5 : gI (pI σ 72 t.1 (nI (fby v m))) 71 1 = nI t.1 := by rw [gI_pI, if_neg (by omega)]; exact ht.1
    rw [e5, nI_1]
    have a : fdR σ (pI (pI σ 72 t.1 (nI (fby v m))) 71 1 (nI (t.1 + 1))) := ⟨rfl, rfl, rfl, rfl, rfl, fun j k a b => by rw [gI_pI, if_neg b, gI_pI, if_neg (by omega)]⟩
    have ht' : txR (pI (pI σ 72 t.1 (nI (fby v m))) 71 1 (nI (t.1 + 1))) (tadd t (fby v m)) := by
      refine ⟨by rw [gI_pI, if_pos ⟨rfl, rfl⟩]; rfl, fun i hi => ?_⟩
      have hi : i < t.1 + 1 := hi
      rw [gI_pI, if_neg (by omega), gI_pI]
      show _ = nI (if i = t.1 then fby v m else t.2 i)
      by_cases e : i = t.1
      · rw [if_pos ⟨rfl, e⟩, if_pos e]
      · rw [if_neg (by omega), if_neg e]; exact ht.2 i (by omega)
    rw [← Int32.sub_eq_add_neg]
    refine ih (tadd t (fby v m)) u1 _ Q (by omega) (by show t.1 + 1 + m ≤ 1500; omega) (hln.of rfl) ht' (fun υ b1 b2 => ?_)
    have := h υ (a.trans b1) b2
    rw [show t.1 + (m + 1) = (tadd t (fby v m)).1 + m by show _ = t.1 + 1 + m; omega] at this
    exact this
theorem sp_R_feed {σ : St} {Q : Option AV → St → Prop} {t : Tx} {n : Int32} {v : Int64} (hln : LN σ) (ht : txR σ t) (hto : txOK t) (h : ∀ τ, fdR σ τ → txR τ (spFeed t n v).2 → Q (some (aI (spFeed t n v).1)) τ) : Cl lay1 (d + 2) M_R_feed [aO 12 71, aI n, aJ v] σ Q := by
  have h1500 := hto.1
  have x1 := Int32.toInt_lt n
  have x2 := Int32.le_toInt n
  have bad : ∀ w, spFeed t n v = (w, t) → Q (some (aI w)) σ := fun w e => by
    have := h σ (fdR.rf _) (by rw [e]; exact ht)
    rw [e] at this
    exact this
  refine bk_R_feed_0 _ _ ?_
  rw [i64_self, show (8 : Int64) = L64 8 by decide, L64_1]
  refine sp_in (by omega) (by omega) (by omega) (by omega) (by omega) (by omega) (fun c => ⟨fun z => absurd z (by decide), fun _ => ?_⟩) (fun c => ⟨fun _ => bad _ (if_neg (by omega)), fun z => absurd rfl z⟩)
  have en := nI_self (x := n) (by omega)
  rw [en, ht.1, nI_add, show (1500 : Int32) = nI 1500 from rfl, nI_leI (by omega) (by omega)]
  refine ⟨fun c3 => ?_, fun c3 => bad _ ((if_pos (by omega)).trans (if_neg (by omega)))⟩
  have e : spFeed t n v = _ := (if_pos (by omega)).trans (if_pos (by omega))
  rw [e] at h
  exact sp_R_feed_loop n.toInt.toNat t _ σ Q (by omega) (by omega) hln ht h
end FEED
