/-! texts and fill -/
def alK (i : Int) : Int := (s_ch 1 i.toNat).toInt
def ixK (a : Int) : Int := (s_idx 1 (jI a)).toInt
def ri (a : Int) (P : Int → Prop) : Prop := ∀ v, (v = ixK a ∧ -1 ≤ v ∧ v < 47) → P v
def rk (a : Int) (P : Int → Prop) : Prop := ∀ v, (v = alK a ∧ inC v) → P v
def rw5 (u : iST) (r : Nat) (n x : Int) (P : iST → Prop) : Prop := ∀ f : Int → Int, (∀ i, inR (f i)) → (∀ i, 0 ≤ i → i < n → f i = x) → P (iRw u r f)
theorem ysS_in {w : Cond} (h : w ∈ ysS) : w ∈ wsN := ysJ_in (List.mem_append_right _ h)
theorem gIdx : GoodIn wsN (wsV RX5 66 RJ0 yJ0_indexOf_0f7a4 wsJ0_indexOf_0f7a4) := fun w h => have hm := ysS_in (List.mem_append_left _ h); ⟨hm, good_of_word (wsN_good w hm)⟩
theorem gChr : GoodIn wsN (wsV RX9 67 RJ0 yJ0_charAt_5068e wsJ0_charAt_5068e) := fun w h => have hm := ysS_in (List.mem_append_right _ (List.mem_append_left _ h)); ⟨hm, good_of_word (wsN_good w hm)⟩
theorem gFil : GoodIn wsN (va_wsS RX11 137 yJ7_fill_53178 wsJ7_fill_53178) := fun w h => have hm := ysS_in (List.mem_append_right _ (List.mem_append_right _ h)); ⟨hm, good_of_word (wsN_good w hm)⟩
theorem s_ix_r (b : Int32) : ∀ (l : List Int32) (k : Nat), s_ix b l k = -1 ∨ ∃ j : Nat, k ≤ j ∧ j < k + l.length ∧ s_ix b l k = nI j
  | [], _ => Or.inl rfl
  | x :: l, k => by
    show (if x = b then nI k else s_ix b l (k + 1)) = -1 ∨ ∃ j : Nat, k ≤ j ∧ j < k + (x :: l).length ∧ (if x = b then nI k else s_ix b l (k + 1)) = nI j
    by_cases e : x = b
    · rw [if_pos e]; exact Or.inr ⟨k, Nat.le_refl _, by rw [List.length_cons]; omega, rfl⟩
    · rw [if_neg e]
      rcases s_ix_r b l (k + 1) with h | ⟨j, h1, h2, h3⟩
      · exact Or.inl h
      · exact Or.inr ⟨j, by omega, by rw [List.length_cons]; omega, h3⟩
theorem s_idx_r (c : Int32) : ∃ v : Int, s_idx 1 c = jI v ∧ (-1 ≤ v ∧ v < 47) := by
  unfold s_idx
  by_cases h : 0 ≤ c ∧ c ≤ 255
  · rw [if_pos h]
    rcases s_ix_r c.toInt8.toInt32 (sByt.getD 1 []) 0 with q | ⟨j, h1, h2, h3⟩
    · exact ⟨-1, by rw [q]; rfl, by decide⟩
    · have : (sByt.getD 1 []).length = 47 := rfl
      exact ⟨j, by rw [h3, jI_nat]; rfl, by omega⟩
  · rw [if_neg h]; exact ⟨-1, rfl, by decide⟩
theorem wc_in (y : Int32) : inC (y.toUInt32 % 65536).toInt32.toInt := by
  generalize y.toUInt32 = x
  have h1 : (x % 65536).toNat < 65536 := by
    rw [UInt32.toNat_mod]
    exact Nat.mod_lt _ (by decide)
  have h2 : (x % 65536).toInt32.toInt = ((x % 65536).toNat : Int) := by
    show (x % 65536).toBitVec.toInt = _
    rw [BitVec.toInt_eq_toNat_of_lt (by show 2 * (x % 65536).toNat < 2 ^ 32; omega)]
    rfl
  rw [h2]
  exact ⟨by omega, by omega⟩
section
variable {p : Program} {l : Launch} {e : Env} {R : Room} {s : State} {m : MethodId} {args : Array Value} {below : List Frame} {meth : Method} {c : Code} {H : Heap} {locs : List Loc} {Q : State → Prop}
variable {cc : ByteArray} {pc nL : Nat} {ls : Array Slot} {rest : List Value} {D : va_G} {ca : Nat → ClassId} {A : Nat → Prop} {ad : Nat → Nat → Nat} {u : iST} {own : String}
theorem ySt_5_64 (X : yX RX5 p m c cc nL s args D ca ad A) (hw : yW D ca A ad s H locs u) (d : decode cc pc = .ok (.ldc 64, 2)) (kk : W p l e R s m args below meth c H locs 0 0 Q (F0 m (pc + 2) ls (.ref (ad 14 0) :: rest))) : W p l e R s m args below meth c H locs 0 0 Q (F0 m pc ls (rest)) := va_ldcS X.1.1 X.1.2.1 X.1.2.2.2.1 X.2.2.2.2.2.2.2.2.2.2.1 d kk
theorem ySt_9_65 (X : yX RX9 p m c cc nL s args D ca ad A) (hw : yW D ca A ad s H locs u) (d : decode cc pc = .ok (.ldc 65, 2)) (kk : W p l e R s m args below meth c H locs 0 0 Q (F0 m (pc + 2) ls (.ref (ad 14 1) :: rest))) : W p l e R s m args below meth c H locs 0 0 Q (F0 m pc ls (rest)) := va_ldcS X.1.1 X.1.2.1 X.1.2.2.2.1 X.2.2.2.2.2.2.2.2.2.2.2 d kk
theorem yNoA (hw : yW D ca A ad s H locs u) : ∀ q, va_A [] H.size q → A q := fun q h => by
  rcases h with ⟨k, e, h⟩ | h
  · simp at h
  · exact hw.2.2.2.2 q (Nat.le_trans hw.2.2.1.1 h)
theorem yKeep (hw : yW D ca A ad s H locs u) {H1 : Heap} {locs1 : List Loc} (hk : ∀ q : Nat, q < H.size → ¬ va_A [] H.size q → H1[q]? = H[q]?) (hS : va_S A s.heap H1 locs1) : yW D ca A ad s H1 locs1 u := by
  obtain ⟨a1, a2, a3, a4, a5⟩ := hw
  exact ⟨a1.kept (fun k x hx => hk x.1 (a1 k x hx).lt (fun h => by rcases h with ⟨k2, e2, h⟩ | h; · simp at h
                                                                   · have := (a1 k x hx).lt; omega)), a2, hS, a4, a5⟩
theorem yIdx_5_66 (X : yX RX5 p m c cc nL s args D ca ad A) (hw : yW D ca A ad s H locs u) {a : Int} (ra : inR a) (hls : ls.size = nL) (hst : (rest.map fun v => v.category).sum ≤ 8) (hRf : 6 ≤ R.frames) (hRl : 200 ≤ R.locals) (d : decode cc pc = .ok (.invokevirtual 66, 3)) {P : Int → Prop} (h : ri a P) (kk : ∀ v (H : Heap) (locs : List Loc), inR v → yW D ca A ad s H locs u → P v → W p l e R s m args below meth c H locs 0 0 Q (F0 m (pc + 3) ls (.int (jI v) :: rest))) : W p l e R s m args below meth c H locs 0 0 Q (F0 m pc ls (.int (jI a) :: .ref (ad 14 0) :: rest)) := by
  refine va_calli (va_runV (b := yK1 ad 1) (As := [.int (jI a)]) (rest := rest) X.1 (c_J0_indexOf l D (yK1 ad) (yV1 ad) H.size 1 (jI a) (by decide)) (cwV 1 X.1.2.2.2.2 gIdx rfl rfl rfl (by decide +kernel) ⟨show 3 + 1 ≤ R.frames by omega, show 8 + (2 + 11) + 77 ≤ R.locals by omega⟩) ⟨fun a U g mk q => by obtain ⟨q0, q1, qP, qK, qD, qE⟩ := q; exact ⟨q0, q1, qP, va_K.moved (u := U) (U := U.calling g mk a) (Vm.Alike.refl U.vm) qK, qD, sS.moved (u := U) (U := U.calling g mk a) (Vm.Alike.refl U.vm) qE⟩, vk_recv X.2.2.2.2.2.2.2.2.1.1 (i := 1) (by decide) hw.2.2.1, fun U hU hW => ⟨rfl, by rw [hU], p_nil, va_K.moved hW.alike (X.2.1.sub (tys' := []) [] rfl), d_nil, by rw [hU]; exact sS.moved hW.alike ((X.2.2.2.2.2.2.2.2.1.kept hw.2.2.1.2.1).narrow (yNoA hw))⟩⟩ rfl rfl hls rfl (lv_room hst) d ⟨Nat.zero_le _, Nat.zero_le _⟩) hw.2.2.1 (fun q _ h => yNoA hw q h) (yNoA hw) ?_
  intro r un t H1 lo1 ht hvm hwu hB hz1 hk1 hS1
  obtain ⟨v, e1, hv⟩ := s_idx_r (jI a)
  have hwu : r = s_idx 1 (jI a) := hwu
  rw [hwu, e1]
  exact kk v H1 lo1 ⟨by omega, by omega⟩ (yKeep hw hk1 hS1) (h v ⟨by unfold ixK; rw [e1]; exact (jI_toInt ⟨by omega, by omega⟩).symm, hv⟩)
theorem yChr_9_67 (X : yX RX9 p m c cc nL s args D ca ad A) (hw : yW D ca A ad s H locs u) {i : Int} (ri : inR i) (hls : ls.size = nL) (hst : (rest.map fun v => v.category).sum ≤ 8) (hRf : 6 ≤ R.frames) (hRl : 200 ≤ R.locals) (d : decode cc pc = .ok (.invokevirtual 67, 3)) {P : Int → Prop} (h : bd i 47 (rk i P)) (kk : ∀ v (H : Heap) (locs : List Loc), inC v → yW D ca A ad s H locs u → P v → W p l e R s m args below meth c H locs 0 0 Q (F0 m (pc + 3) ls (.int (jI v) :: rest))) : W p l e R s m args below meth c H locs 0 0 Q (F0 m pc ls (.int (jI i) :: .ref (ad 14 1) :: rest)) := by
  obtain ⟨h0, h1, h2⟩ := h
  obtain ⟨k, rfl⟩ := Int.eq_ofNat_of_zero_le h0
  have hk : k < 47 := by omega
  rw [jI_nat]
  refine va_calli (va_runV (b := yK2 ad 1) (As := [.int (nI k)]) (rest := rest) X.1 (c_J0_charAt l D (yK2 ad) (yV2 ad) H.size 1 k (by decide) hk) (cwV 1 X.1.2.2.2.2 gChr rfl rfl rfl (by decide +kernel) ⟨show 3 + 1 ≤ R.frames by omega, show 8 + (2 + 11) + 66 ≤ R.locals by omega⟩) ⟨fun a U g mk q => by obtain ⟨q0, q1, qP, qK, qD, qE⟩ := q; exact ⟨q0, q1, qP, va_K.moved (u := U) (U := U.calling g mk a) (Vm.Alike.refl U.vm) qK, qD, sS.moved (u := U) (U := U.calling g mk a) (Vm.Alike.refl U.vm) qE⟩, vk_recv X.2.2.2.2.2.2.2.2.2.1.1 (i := 1) (by decide) hw.2.2.1, fun U hU hW => ⟨rfl, by rw [hU], p_nil, va_K.moved hW.alike (X.2.1.sub (tys' := []) [] rfl), d_nil, by rw [hU]; exact sS.moved hW.alike ((X.2.2.2.2.2.2.2.2.2.1.kept hw.2.2.1.2.1).narrow (yNoA hw))⟩⟩ rfl rfl hls rfl (lv_room hst) d ⟨Nat.zero_le _, Nat.zero_le _⟩) hw.2.2.1 (fun q _ h => yNoA hw q h) (yNoA hw) ?_
  intro r un t H1 lo1 ht hvm hwu hB hz1 hk1 hS1
  have hwu : r = s_ch 1 k := hwu
  have hc : inC r.toInt := by rw [hwu]; exact wc_in _
  rw [← jI_of r]
  exact kk r.toInt H1 lo1 hc (yKeep hw hk1 hS1) (h2 _ ⟨by rw [hwu]; rfl, hc⟩)
set_option maxRecDepth 100000 in
theorem yPw {f : Int → Int} : (yCl ca ad u).set 55 (ad 1 45, .inl (ca 0, 5, .inl (fun j => jI (f (j : Int))))) = yCl ca ad (iRw u 45 f) := rfl
theorem yR_w {f : Int → Int} (h : yR u) (hf : ∀ i, inR (f i)) : yR (iRw u 45 f) := by
  obtain ⟨h1, h2, h3, h4, h5, h6, h7⟩ := h
  refine ⟨h1, fun k i => ?_, h3, h4, fun k hk i => ?_, fun k hk i => ?_, h7⟩
  · show inR ((if k = 45 then f else u.2.1 k) i)
    split
    · exact hf i
    · exact h2 k i
  · show bz ((if k = 45 then f else u.2.1 k) i)
    rw [if_neg (fun e => by rw [e] at hk; revert hk; decide)]
    exact h5 k hk i
  · show inC ((if k = 45 then f else u.2.1 k) i)
    rw [if_neg (fun e => by rw [e] at hk; revert hk; decide)]
    exact h6 k hk i
theorem yFill_11_137 (X : yX RX11 p m c cc nL s args D ca ad A) (hw : yW D ca A ad s H locs u) {v : Int} (rv : inR v) (hls : ls.size = nL) (hst : (rest.map fun v => v.category).sum ≤ 8) (hRf : 6 ≤ R.frames) (hRl : 200 ≤ R.locals) (d : decode cc pc = .ok (.invokestatic 137, 3)) {P : iST → Prop} (h : rw5 u 45 5 v P) (kk : ∀ (H : Heap) (locs : List Loc) (u : iST), yW D ca A ad s H locs u → P u → W p l e R s m args below meth c H locs 0 0 Q (F0 m (pc + 3) ls (rest))) : W p l e R s m args below meth c H locs 0 0 Q (F0 m pc ls (.int (jI v) :: .ref (ad 1 45) :: rest)) := by
  have g1 := yGa_45 (ca := ca) (ad := ad) (u := u)
  have hPc : va_P D vwCl [(ad 1 45, .inl (ca 0, 5, .inl (fun j => jI (u.2.1 45 (j : Int)))))] H := hw.1.sub [55] (by show List.filterMap _ [55] = _; rw [List.filterMap_cons, g1]; rfl)
  have hDc : va_D A [(ad 1 45, .inl (ca 0, 5, .inl (fun j => jI (u.2.1 45 (j : Int)))))] := hw.2.1.sub [55] (by decide) (by show [(yCl ca ad u)[55]?] = _; rw [g1]; rfl)
  have hF : ∀ q, va_A [(ad 1 45, .inl (ca 0, 5, .inl (fun j => jI (u.2.1 45 (j : Int)))))] H.size q → A q := fun q z => by
    rcases z with ⟨k, e, z⟩ | z
    · exact hDc.2 k (q, e) z
    · exact hw.2.2.2.2 q (Nat.le_trans hw.2.2.1.1 z)
  refine va_callv (va_runS (As := [.ref (ad 1 45), .int (jI v)]) (rest := rest) X.1 (c_J7_fill l D (ad 1 45) H.size 5 (ca 0) _ (jI v) (by decide)) (va_cwS 2 X.1.2.2.2.2 gFil rfl rfl rfl (by decide +kernel) ⟨show 0 + 1 ≤ R.frames by omega, show 8 + (4 + 11) + 0 ≤ R.locals by omega⟩) ⟨fun a U g mk q => by obtain ⟨q0, q1, qP, qK, qD⟩ := q; exact ⟨q0, q1, qP, va_K.moved (u := U) (U := U.calling g mk a) (Vm.Alike.refl U.vm) qK, qD⟩, fun U hU hW => ⟨rfl, by rw [hU], by rw [hU]; exact hPc, va_K.moved hW.alike (X.2.1.sub (tys' := [(ca 0, .int)]) [0] rfl), hDc.weaken (fun _ _ _ _ => trivial)⟩⟩ rfl rfl hls rfl (lv_room hst) d ⟨Nat.zero_le _, Nat.zero_le _⟩) hw.2.2.1 (fun q _ h => hF q h) hF ?_
  intro f t H1 lo1 ht hvm hf hB hz1 hk1 hS1
  obtain ⟨hP1, -, -⟩ := hB
  rw [ht] at hP1
  have he : va_at D vwCl (ad 1 45, .inl (ca 0, 5, .inl f)) H1 := hP1 0 _ rfl
  have ef : f = fun (j : Nat) => jI ((fun i : Int => (f i.toNat).toInt) (j : Int)) := funext fun j => by show f j = jI (f ((j : Int)).toNat).toInt; rw [jI_of, Int.toNat_natCast]
  have ev : ∀ i : Int, 0 ≤ i → i < 5 → (f i.toNat).toInt = v := fun i i0 i1 => by rw [hf i.toNat (by omega), jI_toInt rv]
  rw [ef] at he
  obtain ⟨a1, a2, a3, a4, a5⟩ := hw
  have hP2 : va_P D vwCl ((yCl ca ad u).set 55 (ad 1 45, .inl (ca 0, 5, .inl (fun j => jI ((fun i : Int => (f i.toNat).toInt) (j : Int)))))) H1 := by
    intro k q hq
    rw [List.getElem?_set] at hq
    by_cases e : 55 = k
    · subst e
      rw [if_pos rfl] at hq
      split at hq
      · exact Option.some.inj hq ▸ he
      · cases hq
    · rw [if_neg e] at hq
      refine (a1 k q hq).kept (hk1 q.1 (a1 k q hq).lt (fun z => ?_))
      rcases z with ⟨k2, e2, z⟩ | z
      · have z1 := List.mem_of_getElem? z
        rw [List.mem_singleton] at z1
        have : q.1 = ad 1 45 := (Prod.mk.inj z1).1
        exact e (a2.1 _ _ _ _ g1 hq this.symm)
      · have := (a1 k q hq).lt
        omega
  have hD2 := a2.set (e := .inl (ca 0, 5, .inl (fun j => jI ((fun i : Int => (f i.toNat).toInt) (j : Int))))) g1
  rw [yPw (f := fun i : Int => (f i.toNat).toInt)] at hP2 hD2
  exact kk H1 lo1 _ ⟨hP2, hD2, hS1, yR_w a4 (fun i => inR_of _), a5⟩ (h _ (fun i => inR_of _) ev)
end
