/-! ===== the rows of heap instructions over the whole world ===== -/
def tyMB (ty : Nat) (r : Option FieldType) : Bool := match ty with
  | 0 => decide (r = some .int)
  | 1 => decide (r = some .boolean)
  | 3 => decide (r = some .long)
  | _ + 4 => (match r with
    | some (.object _) => true
    | some (.array _) => true
    | _ => false)
  | _ => false
theorem tyM_ok : ∀ ci, ci < 13 → ∀ k, k < nF ci → tyMB (fty ci k) (parseFieldDescriptor (tC ci k).2.2.1) = true := by decide +kernel
/-- what the tables say of class ci -/
theorem cls_ok : ∀ ci, ci < 13 → ∃ (T : u_T) (ty : Nat → FieldType), vwCl[ci]? = some (nmC ci, T, nF ci) ∧ (∀ k, T k = tC ci k) ∧ (∀ w ∈ u_ws (nmC ci) T (nF ci), w ∈ lw_tbl) ∧ (∀ k, k < nF ci → parseFieldDescriptor (T k).2.2.1 = some (ty k)) ∧ (∀ a, a < nF ci → ∀ b, b < nF ci → a ≠ b → (T a).2.1 ≠ (T b).2.1) := by
  intro ci h
  match ci, h with
  | 0, _ => exact ⟨TX0, tyX0, rfl, fun _ => rfl, inX0, tyX0_ok, nmX0⟩
  | 1, _ => exact ⟨TX1, tyX1, rfl, fun _ => rfl, inX1, tyX1_ok, nmX1⟩
  | 2, _ => exact ⟨TX2, tyX2, rfl, fun _ => rfl, inX2, tyX2_ok, nmX2⟩
  | 3, _ => exact ⟨TX3, tyX3, rfl, fun _ => rfl, inX3, tyX3_ok, nmX3⟩
  | 4, _ => exact ⟨TX4, tyX4, rfl, fun _ => rfl, inX4, tyX4_ok, nmX4⟩
  | 5, _ => exact ⟨TX5, tyX5, rfl, fun _ => rfl, inX5, tyX5_ok, nmX5⟩
  | 6, _ => exact ⟨TX6, tyX6, rfl, fun _ => rfl, inX6, tyX6_ok, nmX6⟩
  | 7, _ => exact ⟨TX7, tyX7, rfl, fun _ => rfl, inX7, tyX7_ok, nmX7⟩
  | 8, _ => exact ⟨TX8, tyX8, rfl, fun _ => rfl, inX8, tyX8_ok, nmX8⟩
  | 9, _ => exact ⟨TX9, tyX9, rfl, fun _ => rfl, inX9, tyX9_ok, nmX9⟩
  | 10, _ => exact ⟨TX10, tyX10, rfl, fun _ => rfl, inX10, tyX10_ok, nmX10⟩
  | 11, _ => exact ⟨TX11, tyX11, rfl, fun _ => rfl, inX11, tyX11_ok, nmX11⟩
  | 12, _ => exact ⟨TX12, tyX12, rfl, fun _ => rfl, inX12, tyX12_ok, nmX12⟩
  | n + 13, h => exact absurd h (by omega)
/-- the words of the fields' layout are of those that last -/
theorem lay_wOK {C : String} {T : u_T} {N : Nat} : ∀ w ∈ u_ws C T N, wOK w = true := by
  intro w hw
  obtain ⟨k, -, rfl⟩ := List.mem_map.mp hw
  unfold u_lay
  split <;> rfl
theorem inb_in {i : Int32} {n : Nat} (h : inb i n) : vp_in i n := vp_in_iff.mpr h
theorem ref_of {σ : St} {t j : Nat} (hv : vOK σ (aO t j)) (hj : j ≠ 0) (ht : t ≠ 22) : 3 ≤ j ∧ j < sN σ ∧ gT σ j = t := by
  rcases hv with h | ⟨h, -⟩ | ⟨-, h⟩
  · exact absurd h hj
  · exact absurd h ht
  · exact h
theorem cvt_ge {X : Cx} {j : Nat} (h : 3 ≤ j) : cvt X j = .ref (X.1 + (j - 3)) := by
  unfold cvt
  rw [if_neg (by omega), if_neg (by omega), if_neg (by omega)]
theorem entO_obj {X : Cx} {σ : St} {j ci : Nat} (h : gT σ j = ci) (hc : ci < 13) : entO X σ j = .inr (ci, (List.range (nF ci)).map (fun k => slV X σ (fty ci k) j k)) := by
  unfold entO
  rw [h, if_pos hc]
theorem entO_arr {X : Cx} {σ : St} {j t : Nat} (h : gT σ j = t) (hc : 16 ≤ t) : entO X σ j = .inl (X.2.2.2.2 t, entA X σ t j) := by
  unfold entO
  rw [h, if_neg (by omega)]
section HROWS
variable {p : Program} {l : Launch} {e : Env} {R : Room} {s : State} {m : MethodId} {args : Array Value} {below : List Frame} {meth : Method} {c : Code} {H : Heap} {locs : List Loc} {cells slots : Nat} {Q : State → Prop}
variable {cc : ByteArray} {pc : Nat} {L : Array Slot} {rest : List Value} {X : Cx} {lay : Nat → Nat → Nat} {L0 : Nat} {σ : St} {own : String}
theorem h_get (hx : p.tables.exec = Jvm.exec) (hb : c.code = cc) (hT : TW X s) (hown : s.vm.findClass own = some m.cls) (hH : HW lay L0 X σ s H) {ci k j i q : Nat} {nest : Bool} (hci : ci < 13) (hk : k < nF ci) (h3 : 3 ≤ j) (hn : j < sN σ) (ht : gT σ j = ci)
    (hl : gw q (bif nest then .fieldLinkNest own i (tC ci k).1 (tC ci k).2.1 (tC ci k).2.2.1 "MagnetRing" else .fieldLink own i (tC ci k).1 (tC ci k).2.1 (tC ci k).2.2.1) = true) (hdg : decode cc pc = .ok (.getfield i, 3))
    (kk : W p l e R s m args below meth c H locs cells slots Q (F0 m (pc + 3) L (slV X σ (fty ci k) j k :: rest))) : W p l e R s m args below meth c H locs cells slots Q (F0 m pc L (.ref (X.1 + (j - 3)) :: rest)) := by
  obtain ⟨T, ty, hvw, hTk, hin, hty, hnm⟩ := cls_ok ci hci
  have hts : ∀ w ∈ u_ws (nmC ci) T (nF ci), w.before args s = true := fun w hw => hT.2 w (hin w hw) (lay_wOK w hw) args
  have he := conc_get (X := X) h3 hn
  rw [entO_obj ht hci] at he
  cases nest with
  | false =>
    refine va_get (D := X.2.2.2.1) (cl := vwCl) (ci := ci) (C := nmC ci) (T := T) (N := nF ci) (ref := (tC ci k).1) hx hb (Ts := u_ws (nmC ci) T (nF ci)) hts (fun _ h => h) hown hT.1 hH.1 (j - 3) he hvw k hk (by rw [hTk]; exact hT.2.get hl rfl args) (fun x h => by rw [hTk] at h ⊢; exact h) (v := slV X σ (fty ci k) j k) (by simp [hk]) hdg kk
  | true =>
    refine va_getN (D := X.2.2.2.1) (cl := vwCl) (ci := ci) (C := nmC ci) (T := T) (N := nF ci) (ref := (tC ci k).1) (host := "MagnetRing") hx hb (Ts := u_ws (nmC ci) T (nF ci)) hts (fun _ h => h) hown hT.1 hH.1 (j - 3) he hvw k hk (by rw [hTk]; exact hT.2.get hl rfl args) (fun x h => by rw [hTk] at h ⊢; exact h) (v := slV X σ (fty ci k) j k) (by simp [hk]) hdg kk
/-- the world behind a write to cell j, of which slot k changes -/
theorem HW.put {τ : St} {H1 : Heap} {locs1 : List Loc} (hH : HW lay L0 X σ s H) (hS : va_S (fun q => X.1 ≤ q) s.heap H1 locs1) (hS0 : va_S (fun q => X.1 ≤ q) s.heap H locs) (hz : H1.size = H.size) (hP : va_P X.2.2.2.1 vwCl (conc X τ) H1) (hn : sN τ = sN σ) (hw : wt τ) (hl : ∀ j k, lay j k ≠ 0 → gR τ j k = lay j k) (h1 : gN τ 1 = gN σ 1 ∧ gI τ 1 = gI σ 1) (h2 : gN τ 2 = gN σ 2 ∧ gI τ 2 = gI σ 2) (hsz : X.1 ≤ s.heap.size) : HW lay L0 X τ s H1 := by
  obtain ⟨-, g2, g3, -, g5, g6, g7, g8, g9⟩ := hH
  have low : ∀ q, q < X.1 → H1[q]? = H[q]? := fun q hq => by
    rw [hS.2.1 q (Nat.lt_of_lt_of_le hq hsz) (Nat.not_le.mpr hq), hS0.2.1 q (Nat.lt_of_lt_of_le hq hsz) (Nat.not_le.mpr hq)]
  refine ⟨hP, by rw [hz, hn]; exact g2, by rw [hn]; exact g3, hw, ⟨by rw [hn]; exact g5.1, hl⟩, g6, ?_, ?_, ?_⟩
  · rw [h1.1, h1.2]; exact g7.kept (low _ g6.1)
  · rw [h2.1, h2.2]; exact g8.kept (fun a _ ha => low a (Nat.not_le.mp ha))
  · exact g9.kept (fun a _ ha => low a (Nat.not_le.mp ha))
end HROWS
