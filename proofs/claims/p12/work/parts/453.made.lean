-- deps: 452
/-! the reference, partial: a call is made -/
theorem p_made33 [DecidableEq Ob] {f x5 : Int} {Q : Int → iST → Prop} {u w : iST} (hT : TI u) (hU : TU u) (hG : GZ fI u w) (w69 : w.1 69 = u.1 69) (e5 : u.1 71 = x5) (h5 : 0 ≤ x5) (n : Nat) (w71 : w.1 71 = x5 + (n : Int))
    (f0 : 0 ≤ f) (f1 : f < u.1 8) (fs : (ob u f).isSym = true) (fq : ob u f ≠ Ob.quote) {os : List Ob} (hb : bl w x5 n = os) (hv : ∀ i, x5 ≤ i → i < w.1 71 → 0 ≤ w.2.1 70 i ∧ w.2.1 70 i < w.1 8 ∧ Tm w (ob w (w.2.1 70 i)))
    (hq : ∀ k v, GM u v → 0 ≤ k → k < v.1 8 → ob v k = .pr (ob u f) (Ob.ofList os) → Tm v (ob v k) → v.1 61 = bw u (ob v k) → Q k v) : pw_made_33 Q f x5 w := by
  have hl := hG.le
  unfold pw_made_33
  refine p_callFrom hG.1 hG.2.1 f0 (by omega) (by rw [hG.ob hT f0 f1]; exact fs) (by rw [hG.ob hT f0 f1]; exact fq) h5 (by omega) hv (fun c v hV c0 c1 ec ez tc => ?_)
  intro z ez' _ _ y ey _
  have hZ : GZ fI v z := by subst ez'; exact GZ_eq (GZ.rf hV.1 hV.2.1) (fun k hk => ⟨if_neg (by omega), rfl⟩) rfl (Fx_I (by decide))
  have z3 : z.2.1 3 = v.2.1 3 := by rw [ez']; rfl
  have z8 : z.1 8 = v.1 8 := by rw [ez']; rfl
  have z71 : z.1 71 = u.1 71 := by rw [ez', e5]; rfl
  have z69 : z.1 69 = u.1 69 := by
    have a : z.1 69 = v.1 69 := by rw [ez']; rfl
    exact a.trans ((hV.2.2.2.2 69 (by decide)).1.trans w69)
  have z61 : z.1 61 = u.1 61 := (hZ.2.2.2.2 61 (by decide)).1.trans ((hV.2.2.2.2 61 (by decide)).1.trans (hG.2.2.2.2 61 (by decide)).1)
  clear ez'
  have hGz : GM u z := ⟨((hG.tr (hV.mono fT_I)).tr hZ).mono fI_7M, z71, z69⟩
  have eo : ob z c = ob v c := hZ.ob hV.1 c0 c1
  have en : (w.1 71 - x5).toNat = n := by omega
  rw [en, hb, hG.ob hT f0 f1] at ec
  rw [z3, ez] at ey
  subst ey
  refine ⟨fun hc => hq c z hGz c0 (by omega) (eo.trans ec) (by rw [eo]; exact tc.mono hZ hV.1) ?_, fun hc => ?_⟩
  · have := cap_le.mp hc
    unfold bw
    rw [z61, eo, if_neg (show ¬ 120 < Ob.sz (ob v c) by omega)]
    split <;> omega
  · refine p_fail hZ.1 hZ.2.1 (fun y hy hk h2 h61 => ?_)
    have ey : ob y c = ob v c := (hy.ob hZ.1 c0 (by omega)).trans eo
    refine hq c y (hGz.tr hy) c0 (by have := hy.le; omega) (ey.trans ec) (by rw [ey]; exact (tc.mono hZ hV.1).mono hy.1 hZ.1) ?_
    have : ¬ Ob.sz (ob v c) ≤ 120 := fun z => hc (cap_le.mpr z)
    unfold bw
    rw [h61, z61, ey, if_pos (show 120 < Ob.sz (ob v c) by omega)]
theorem bl_snoc [DecidableEq Ob] (u : iST) (lo : Int) (n : Nat) : bl u lo (n + 1) = bl u lo n ++ [ob u (u.2.1 70 (lo + (n : Int)))] := by
  unfold bl
  rw [List.range_succ, List.map_append]
  rfl
theorem bl_mono [DecidableEq Ob] {u v : iST} (hT : TI u) (hG : GZ fI u v) {lo : Int} {n : Nat} (hv : ∀ i, lo ≤ i → i < lo + (n : Int) → 0 ≤ u.2.1 70 i ∧ u.2.1 70 i < u.1 8) (he : ∀ i, lo ≤ i → i < lo + (n : Int) → v.2.1 70 i = u.2.1 70 i) : bl v lo n = bl u lo n := by
  unfold bl
  refine List.map_congr_left (fun i hi => ?_)
  have hi := List.mem_range.mp hi
  obtain ⟨a, b⟩ := hv (lo + (i : Int)) (by omega) (by omega)
  rw [he _ (by omega) (by omega), hG.ob hT a b]
/-- some terms stand built, behind a place -/
def BT [DecidableEq Ob] (u w : iST) (n : Nat) (os : List Ob) : Prop := GZ fI u w ∧ w.1 69 = u.1 69 ∧ w.1 71 = u.1 71 + (n : Int) ∧ bl w (u.1 71) n = os ∧ ∀ i, u.1 71 ≤ i → i < w.1 71 → 0 ≤ w.2.1 70 i ∧ w.2.1 70 i < w.1 8 ∧ Tm w (ob w (w.2.1 70 i))
theorem BT.rf [DecidableEq Ob] {u : iST} (hT : TI u) (hU : TU u) : BT u u 0 [] := ⟨GZ.rf hT hU, rfl, by omega, rfl, fun i i0 i1 => by omega⟩
theorem BT.more [DecidableEq Ob] {u w : iST} {n : Nat} {os : List Ob} (hT : TI u) (h : BT u w n os) {a : Int} (a0 : 0 ≤ a) (a1 : a < u.1 8) (ta : Tm u (ob u a)) {Q : iST → Prop} (hq : ∀ v, BT u v (n + 1) (os ++ [ob u a]) → Q v) : pw_build a Q w := by
  obtain ⟨hG, h69, h71, hb, hv⟩ := h
  have hl := hG.le
  refine p_build hG.1 hG.2.1 rfl (fun v hA e69 e71 e70 => hq v ?_)
  have hw := hA 0 0
  have hl2 := hw.1.le
  have ea : ob v a = ob u a := (hw.1.ob hG.1 a0 (by omega)).trans (hG.ob hT a0 a1)
  have key : ∀ i, u.1 71 ≤ i → i < w.1 71 → v.2.1 70 i = w.2.1 70 i := fun i _ i1 => hw.2.2.2 i i1
  refine ⟨hG.tr hw.1, by omega, by omega, ?_, fun i i0 i1 => ?_⟩
  · rw [bl_snoc, bl_mono hG.1 hw.1 (fun i i0 i1 => ⟨(hv i i0 (by omega)).1, (hv i i0 (by omega)).2.1⟩ : ∀ i, u.1 71 ≤ i → i < u.1 71 + (n : Int) → _) (fun i i0 i1 => key i i0 (by omega)), hb, ← h71, e70, ea]
  · by_cases c : i = w.1 71
    · subst c
      rw [e70, ea]
      exact ⟨a0, by omega, (ta.mono hG hT).mono hw.1 hG.1⟩
    · have i2 : i < w.1 71 := by omega
      obtain ⟨p, q, r⟩ := hv i i0 i2
      rw [key i i0 i2, hw.1.ob hG.1 p q]
      exact ⟨p, by omega, r.mono hw.1 hG.1⟩
theorem BT.call [DecidableEq Ob] {f : Int} {Q : Int → iST → Prop} {u w : iST} {n : Nat} {os : List Ob} (hT : TI u) (hU : TU u) (h71 : 0 ≤ u.1 71) (h : BT u w n os) (f0 : 0 ≤ f) (f1 : f < u.1 8) (fs : (ob u f).isSym = true) (fq : ob u f ≠ Ob.quote)
    (hq : ∀ k v, GM u v → 0 ≤ k → k < v.1 8 → ob v k = .pr (ob u f) (Ob.ofList os) → Tm v (ob v k) → v.1 61 = bw u (ob v k) → Q k v) : pw_made_33 Q f (u.1 71) w :=
  p_made33 hT hU h.1 h.2.1 rfl h71 n h.2.2.1 f0 f1 fs fq h.2.2.2.1 h.2.2.2.2 hq
/-- a known symbol -/
theorem kn [DecidableEq Ob] {u : iST} (hT : TI u) (hU : TU u) (k : Int) {o : Ob} (h0 : 0 ≤ k) (h4 : k < 44) (ho : Ob.known[k.toNat]? = some o) : 0 ≤ k ∧ k < u.1 8 ∧ ob u k = o := by
  have h8 := hT.1
  exact ⟨h0, by omega, (TU.at hT hU (i := k.toNat) (by omega) ho h0 (by omega)).mp (by omega)⟩
/-- and which it is -/
theorem kat [DecidableEq Ob] {u : iST} (hT : TI u) (hU : TU u) (c : Int) {o : Ob} (h0 : 0 ≤ c) (h4 : c < 44) (ho : Ob.known[c.toNat]? = some o) {k : Int} (k0 : 0 ≤ k) (k1 : k < u.1 8) : k = c ↔ ob u k = o := by
  obtain ⟨a, b, e⟩ := kn hT hU c h0 h4 ho
  rw [← e]
  exact (hT.inj hU k0 k1 a b).symm
theorem p_made1 [DecidableEq Ob] {f a : Int} {Q : Int → iST → Prop} {u : iST} (hT : TI u) (hU : TU u) (h71 : 0 ≤ u.1 71) (f0 : 0 ≤ f) (f1 : f < u.1 8) (fs : (ob u f).isSym = true) (fq : ob u f ≠ Ob.quote) (a0 : 0 ≤ a) (a1 : a < u.1 8) (ta : Tm u (ob u a))
    (hq : ∀ k v, GM u v → 0 ≤ k → k < v.1 8 → ob v k = .pr (ob u f) (.pr (ob u a) Ob.nil) → Tm v (ob v k) → v.1 61 = bw u (ob v k) → Q k v) : pw_made f a (-1) (-1) Q u := by
  unfold pw_made
  intro v1 e1 _
  subst e1
  refine (BT.rf hT hU).more hT a0 a1 ta (fun w hw => ⟨fun _ => ?_, fun z => absurd rfl z⟩)
  unfold pw_made_21
  exact ⟨fun _ => hw.call hT hU h71 f0 f1 fs fq hq, fun z => absurd rfl z⟩
theorem p_made2 [DecidableEq Ob] {f a b : Int} {Q : Int → iST → Prop} {u : iST} (hT : TI u) (hU : TU u) (h71 : 0 ≤ u.1 71) (f0 : 0 ≤ f) (f1 : f < u.1 8) (fs : (ob u f).isSym = true) (fq : ob u f ≠ Ob.quote) (a0 : 0 ≤ a) (a1 : a < u.1 8) (ta : Tm u (ob u a)) (b0 : 0 ≤ b) (b1 : b < u.1 8) (tb : Tm u (ob u b))
    (hq : ∀ k v, GM u v → 0 ≤ k → k < v.1 8 → ob v k = .pr (ob u f) (.pr (ob u a) (.pr (ob u b) Ob.nil)) → Tm v (ob v k) → v.1 61 = bw u (ob v k) → Q k v) : pw_made2 f a b Q u := by
  unfold pw_made2 pw_made
  intro v1 e1 _
  subst e1
  refine (BT.rf hT hU).more hT a0 a1 ta (fun w hw => ⟨fun z => by omega, fun _ => hw.more hT b0 b1 tb (fun w2 hw2 => ?_)⟩)
  unfold pw_made_21
  exact ⟨fun _ => hw2.call hT hU h71 f0 f1 fs fq hq, fun z => absurd rfl z⟩
theorem p_made3 [DecidableEq Ob] {f a b c : Int} {Q : Int → iST → Prop} {u : iST} (hT : TI u) (hU : TU u) (h71 : 0 ≤ u.1 71) (f0 : 0 ≤ f) (f1 : f < u.1 8) (fs : (ob u f).isSym = true) (fq : ob u f ≠ Ob.quote) (a0 : 0 ≤ a) (a1 : a < u.1 8) (ta : Tm u (ob u a)) (b0 : 0 ≤ b) (b1 : b < u.1 8) (tb : Tm u (ob u b)) (c0 : 0 ≤ c) (c1 : c < u.1 8) (tc : Tm u (ob u c))
    (hq : ∀ k v, GM u v → 0 ≤ k → k < v.1 8 → ob v k = .pr (ob u f) (.pr (ob u a) (.pr (ob u b) (.pr (ob u c) Ob.nil))) → Tm v (ob v k) → v.1 61 = bw u (ob v k) → Q k v) : pw_made f a b c Q u := by
  unfold pw_made
  intro v1 e1 _
  subst e1
  refine (BT.rf hT hU).more hT a0 a1 ta (fun w hw => ⟨fun z => by omega, fun _ => hw.more hT b0 b1 tb (fun w2 hw2 => ?_)⟩)
  unfold pw_made_21
  exact ⟨fun z => by omega, fun _ => hw2.more hT c0 c1 tc (fun w3 hw3 => hw3.call hT hU h71 f0 f1 fs fq hq)⟩
