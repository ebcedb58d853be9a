-- deps: 747
/-! the class: a clause becomes two -/
theorem pc_fillSplit [DecidableEq Ob] {m f a b : Int} {p : Nat} {Q : iST → Prop} {u : iST} {E : Sp.Env} (hT : CT u) (hmf : f ≠ m) (hF : ClW u E f) (hp : (p : Int) < u.2.1 46 f) (na : NdC u E a) (nb : NdC u E b) (h32 : u.1 32 = 0)
    (hok : ∀ v, CkC m u v → v.1 = u.1 → ClW v E m → clC v m = ((clC u f).take p ++ [oc u a, oc u b] ++ (clC u f).drop (p + 1)).foldl Sp.putL [] → Sp.bnd (clC v m) = true → v.2.1 48 m = u.2.1 48 f → Q v) (hbad : ∀ v, CG f8T f8C u v → v.1 32 ≠ 0 → Sp.bnd (((clC u f).take p ++ [oc u a, oc u b] ++ (clC u f).drop (p + 1)).foldl Sp.putL []) = false → OtK m u v → Q v) : pv_4_fillSplit m f (p : Int) a b Q u := by
  have hl := hF.1
  have hlen := clC_len u f
  -- all of it
  generalize hL : (clC u f).take p ++ [oc u a, oc u b] ++ (clC u f).drop (p + 1) = L at hok hbad
  have gL : ∀ k : Nat, k < p → L[k]? = some (oc u (u.2.1 49 (30 * f + (k : Int)))) := fun k hk => by
    rw [← hL, List.append_assoc, List.getElem?_append_left (by rw [List.length_take]; omega), List.getElem?_take_of_lt hk, clC_get (by omega)]
  have ga : L[p]? = some (oc u a) := by
    rw [← hL, List.append_assoc, List.getElem?_append_right (by rw [List.length_take]; omega), List.length_take, Nat.min_eq_left (by omega), Nat.sub_self]
    rfl
  have gb : L[p + 1]? = some (oc u b) := by
    rw [← hL, List.append_assoc, List.getElem?_append_right (by rw [List.length_take]; omega), List.length_take, Nat.min_eq_left (by omega), show p + 1 - p = 1 by omega]
    rfl
  have gH : ∀ k : Nat, p < k → (k : Int) < u.2.1 46 f → L[k + 1]? = some (oc u (u.2.1 49 (30 * f + (k : Int)))) := fun k h1 h2 => by
    have e : L = ((clC u f).take p ++ [oc u a, oc u b]) ++ (clC u f).drop (p + 1) := hL.symm
    rw [e, List.getElem?_append_right (by rw [List.length_append, List.length_take]; show _ + 2 ≤ _; omega), List.length_append, List.length_take, Nat.min_eq_left (by omega), List.getElem?_drop]
    show (clC u f)[p + 1 + (k + 1 - (p + 2))]? = _
    rw [show p + 1 + (k + 1 - (p + 2)) = k by omega, clC_get (by omega)]
  have nL : L.length = (u.2.1 46 f).toNat + 1 := by
    rw [← hL, List.length_append, List.length_append, List.length_take, List.length_drop]
    show _ + 2 + _ = _
    omega
  have step : ∀ (k : Nat) (o : Ob), L[k]? = some o → (L.take (k + 1)).foldl Sp.putL [] = Sp.putL ((L.take k).foldl Sp.putL []) o := fun k o h => by
    rw [List.take_add_one, h]
    show (L.take k ++ [o]).foldl Sp.putL [] = _
    rw [List.foldl_append]
    rfl
  have bad : ∀ k : Nat, Sp.bnd ((L.take k).foldl Sp.putL []) = false → Sp.bnd (L.foldl Sp.putL []) = false := fun k h => bf_of (fun q => by
    have e : L.foldl Sp.putL [] = (L.drop k).foldl Sp.putL ((L.take k).foldl Sp.putL []) := by rw [← List.foldl_append, List.take_append_drop]
    rw [e] at q
    rw [bnd_fold _ _ q] at h
    cases h)
  unfold pv_4_fillSplit
  refine pc_clear1 (E := E) hT (fun y0 k0 y0n hW0 e0 _ => ?_)
  refine pv_4_fillSplit_7_i (fun x1 x2 x3 x4 x5 x6 y => x1 = m ∧ x2 = f ∧ x3 = (p : Int) ∧ x4 = a ∧ x5 = b ∧ ∃ k : Nat, x6 = (k : Int) ∧ ((CkC m u y ∧ y.1 = u.1 ∧ ClW y E m ∧ Sp.bnd (clC y m) = true ∧ k ≤ (u.2.1 46 f).toNat ∧ clC y m = (L.take (if k ≤ p then k else k + 1)).foldl Sp.putL []) ∨ (CG f8T f8C u y ∧ y.1 32 ≠ 0 ∧ Sp.bnd (L.foldl Sp.putL []) = false ∧ OtK m u y))) ?_ ⟨rfl, rfl, rfl, rfl, rfl, 0, rfl, Or.inl ⟨k0, y0n, hW0, by rw [e0]; rfl, Nat.zero_le _, by rw [e0, if_pos (Nat.zero_le _)]; rfl⟩⟩
  rintro x1 x2 x3 x4 x5 x6 y ⟨b1, b2, b3, b4, b5, k, b6, hI⟩
  rw [b1, b2, b3, b4, b5, b6]
  unfold pv_4_fillSplit_7b
  intro n2 en2 _
  rcases hI with ⟨ky, yn, hW, hb, hk, el⟩ | ⟨gy, y32, hbd, oy⟩
  rotate_left
  · have fin : pv_4_fillSplit_76 Q m f y := by
      unfold pv_4_fillSplit_76
      intro n3 en3 _ y1 e1
      have g1 : CG f8T f8C y y1 := by rw [e1]; exact CG_A gy.1 (by omega) (by decide)
      exact hbad y1 (gy.tr g1) (by rw [e1]; exact y32) hbd (oy.tr (by rw [e1]; exact (CkC_A gy.1 (by decide) (by decide)).ok))
    refine ⟨fun _ => fin, fun _ => ?_⟩
    intro n4 en4 _
    rw [en4]
    exact ⟨fun _ => fin, fun z => absurd y32 z⟩
  have hO := ky.other (E := E) hT hmf hl.2
  have y46 : y.2.1 46 f = u.2.1 46 f := (ky.2.2.1 f hmf).1
  have y32 : y.1 32 = 0 := by rw [yn]; exact h32
  have hTy := ky.1.1
  rw [en2, y46]
  refine ⟨fun q => ?_, fun q => ?_⟩
  · unfold pv_4_fillSplit_76
    intro n3 en3 _ y1 e1
    have k1 : CkC m y y1 := by rw [e1]; exact CkC_A hTy (by decide) (by decide)
    have r1 : ∀ j, j ≠ 48 → y1.2.1 j = y.2.1 j := fun j hj => by rw [e1, iAc_ne _ _ _ hj]
    have h48 : y1.2.1 48 m = u.2.1 48 f := by rw [e1, iAc_at, en3, hO.2.2]
    have el1 : clC y1 m = clC y m := by
      unfold clC lsC
      rw [r1 46 (by decide), r1 49 (by decide)]
      exact List.map_congr_left (fun i _ => oc_same k1.2.1 _)
    have hW1 : ClW y1 E m := by
      refine ⟨by rw [r1 46 (by decide)]; exact hW.1, fun i i0 i1 => ?_, by rw [el1]; exact hW.2.2.1, by rw [r1 47 (by decide), el1]; exact hW.2.2.2⟩
      rw [r1 46 (by decide)] at i1
      rw [r1 49 (by decide)]
      exact ((hW.2.1 i i0 i1).up hTy k1.1).1
    refine hok y1 (ky.tr k1) (by rw [e1]; exact yn) hW1 ?_ (by rw [el1]; exact hb) h48
    rw [el1, el, if_neg (by omega), List.take_of_length_le (by omega)]
  intro n4 en4 _
  rw [en4]
  refine ⟨fun z => absurd y32 z, fun _ => ⟨fun hne => ?_, fun heq => ?_⟩⟩
  · have nek : k ≠ p := by omega
    intro _ _ n5 en5 _
    have y49 : y.2.1 49 (30 * f + (k : Int)) = u.2.1 49 (30 * f + (k : Int)) := ky.2.2.2 _ (by
      rcases Int.lt_or_gt_of_ne hmf with h | h <;> omega)
    rw [en5, y49]
    have nd := hF.2.1 (k : Int) (by omega) (by omega)
    obtain ⟨ndy, edy⟩ := nd.up hT ky.1
    -- where it stands in the whole
    have hq : ∃ q : Nat, L[q]? = some (oc u (u.2.1 49 (30 * f + (k : Int)))) ∧ q = (if k ≤ p then k else k + 1) ∧ q + 1 = (if k + 1 ≤ p then k + 1 else k + 1 + 1) ∨ (k < p ∧ k + 1 = p + 1) := by
      by_cases c1 : k < p
      · exact ⟨k, Or.inl ⟨gL k c1, by rw [if_pos (by omega)], by rw [if_pos (by omega)]⟩⟩
      · exact ⟨k + 1, Or.inl ⟨gH k (by omega) (by omega), by rw [if_neg (by omega)], by rw [if_neg (by omega)]⟩⟩
    obtain ⟨q, hq | hq⟩ := hq
    rotate_left
    · omega
    obtain ⟨h1, h2, h3⟩ := hq
    rw [← h2] at el
    refine pc_join hTy hW hb ndy (fun w kw wn w48 hWw ew hbw _ => ?_) (fun w gw w32 hbw ow _ => ?_)
    · rw [edy, el, ← step q _ h1, h3] at ew
      exact ⟨rfl, rfl, rfl, rfl, rfl, k + 1, by omega, Or.inl ⟨ky.tr kw, by rw [wn, yn], hWw, hbw, by omega, ew⟩⟩
    · rw [edy, el, ← step q _ h1] at hbw
      exact ⟨rfl, rfl, rfl, rfl, rfl, k + 1, by omega, Or.inr ⟨(ky.1.mono f80_T (fun _ h => h)).tr gw, w32, bad _ hbw, ky.ok.tr ow⟩⟩
  · have ek : k = p := by have := Decidable.not_not.mp heq; omega
    rw [ek, if_pos (Nat.le_refl p)] at el
    obtain ⟨nay, eay⟩ := na.up hT ky.1
    refine pc_join hTy hW hb nay (fun w kw wn w48 hWw ew hbw => ?_) (fun w gw w32 hbw ow => ?_)
    · rw [eay, el, ← step p _ ga] at ew
      obtain ⟨nbw, ebw⟩ := nb.up hT (ky.tr kw).1
      refine pc_join kw.1.1 hWw hbw nbw (fun z kz zn z48 hWz ez hbz _ => ?_) (fun z gz z32 hbz oz _ => ?_)
      · rw [ebw, ew, ← step (p + 1) _ gb] at ez
        refine ⟨rfl, rfl, rfl, rfl, rfl, p + 1, by omega, Or.inl ⟨(ky.tr kw).tr kz, by rw [zn, wn, yn], hWz, hbz, by omega, ?_⟩⟩
        rw [if_neg (by omega)]
        exact ez
      · rw [ebw, ew, ← step (p + 1) _ gb] at hbz
        exact ⟨rfl, rfl, rfl, rfl, rfl, p + 1, by omega, Or.inr ⟨((ky.tr kw).1.mono f80_T (fun _ h => h)).tr gz, z32, bad _ hbz, (ky.tr kw).ok.tr oz⟩⟩
    · rw [eay, el, ← step p _ ga] at hbw
      have g1 : CG f8T f8C u w := (ky.1.mono f80_T (fun _ h => h)).tr gw
      have vb := nb.1.up g1
      refine pc_joinD gw.1 ⟨vb.2, by have := vb.1; omega⟩ w32 (fun z gz z32 oz _ => ?_)
      exact ⟨rfl, rfl, rfl, rfl, rfl, p + 1, by omega, Or.inr ⟨g1.tr gz, z32, bad _ hbw, (ky.ok.tr ow).tr oz⟩⟩
/-- the same when work has failed -/
theorem pc_fillSplitD [DecidableEq Ob] {m f p a b : Int} {Q : iST → Prop} {u : iST} (hT : CT u) (h32 : u.1 32 ≠ 0) (hq : ∀ v, CG f80 f8C u v → OtK m u v → Q v) : pv_4_fillSplit m f p a b Q u := by
  unfold pv_4_fillSplit pv_1_clear
  intro y1 e1 y2 e2 y3 e3
  have k1 : CG f80 f8C u y1 := by rw [e1]; exact CG_A hT (by omega) (by decide)
  have k2 : CG f80 f8C y1 y2 := by rw [e2]; exact CG_A k1.1 (by omega) (by decide)
  have k3 : CG f80 f8C y2 y3 := by rw [e3]; exact CG_A k2.1 (by omega) (by decide)
  have k := (k1.tr k2).tr k3
  have o1 : OtK m u y1 := by rw [e1]; exact (CkC_A hT (by decide) (by decide)).ok
  have o2 : OtK m y1 y2 := by rw [e2]; exact (CkC_A k1.1 (by decide) (by decide)).ok
  have o3 : OtK m y2 y3 := by rw [e3]; exact (CkC_A k2.1 (by decide) (by decide)).ok
  have y32 : y3.1 32 ≠ 0 := by rw [k.2.2.1 32 rfl]; exact h32
  have fin : pv_4_fillSplit_76 Q m f y3 := by
    unfold pv_4_fillSplit_76
    intro n3 en3 _ y4 e4
    have k4 : CG f80 f8C y3 y4 := by rw [e4]; exact CG_A k.1 (by omega) (by decide)
    exact hq y4 (k.tr k4) (((o1.tr o2).tr o3).tr (by rw [e4]; exact (CkC_A k.1 (by decide) (by decide)).ok))
  refine fo_v_4_fillSplit_7 ?_
  unfold pv_4_fillSplit_7b
  intro n2 en2 _
  refine ⟨fun _ => fin, fun _ => ?_⟩
  intro n4 en4 _
  rw [en4]
  exact ⟨fun _ => fin, fun z => absurd y32 z⟩
theorem OtK_Cp [DecidableEq Ob] {c b : Int} {u : iST} : OtK c u (iCp u 49 49 (30 * c) b 30) := fun j hj => by
  have h : ∀ a, (iCp u 49 49 (30 * c) b 30).2.1 49 a = if 30 * c ≤ a ∧ a < 30 * c + 30 then u.2.1 49 (b + (a - 30 * c)) else u.2.1 49 a := fun a => rfl
  refine ⟨rfl, rfl, rfl, fun k k0 k1 => ?_⟩
  rw [h, if_neg (by rcases Int.lt_or_gt_of_ne hj with q | q <;> omega)]
theorem pc_copyD [DecidableEq Ob] {c a : Int} {Q : iST → Prop} {u : iST} (hT : CT u) (hq : ∀ v, CG f80 f8C u v → OtK c u v → Q v) : pv_1_copy c a Q u := by
  unfold pv_1_copy
  intro y0 e0 n1 en1 _ y1 e1 n2 en2 _ y2 e2 n3 en3 _ y3 e3
  have k0 : CG f80 f8C u y0 := by rw [e0]; exact CG_Cp hT (by omega) (by decide)
  have k1 : CG f80 f8C y0 y1 := by rw [e1]; exact CG_A k0.1 (by omega) (by decide)
  have k2 : CG f80 f8C y1 y2 := by rw [e2]; exact CG_A k1.1 (by omega) (by decide)
  have k3 : CG f80 f8C y2 y3 := by rw [e3]; exact CG_A k2.1 (by omega) (by decide)
  have o0 : OtK c u y0 := by rw [e0]; exact OtK_Cp
  have o1 : OtK c y0 y1 := by rw [e1]; exact (CkC_A k0.1 (by decide) (by decide)).ok
  have o2 : OtK c y1 y2 := by rw [e2]; exact (CkC_A k1.1 (by decide) (by decide)).ok
  have o3 : OtK c y2 y3 := by rw [e3]; exact (CkC_A k2.1 (by decide) (by decide)).ok
  exact hq y3 (((k0.tr k1).tr k2).tr k3) (((o0.tr o1).tr o2).tr o3)
/-- what is made without STEPS -/
def Dt [DecidableEq Ob] {α : Type} (m : Sp.M α) : Prop := (∃ x n, n ≤ 2 ∧ ∀ s, m s = .ok x (s.1, s.2 + n)) ∨ ∃ n, n ≤ 2 ∧ ∀ s, m s = .error () (s.1, s.2 + n)
theorem dt_ret [DecidableEq Ob] {α : Type} (x : α) : Dt (Sp.ret x) := Or.inl ⟨x, 0, by omega, fun s => rfl⟩
theorem dt_big [DecidableEq Ob] {o : Ob} {n : Nat} (h : n ≤ 2) : Dt (Sp.big o n) := by
  by_cases c : 120 < o.sz
  · exact Or.inr ⟨n, h, fun s => big_err c⟩
  · exact Or.inl ⟨o, n, h, fun s => big_ok (by omega)⟩
theorem dt_not [DecidableEq Ob] (o : Ob) : Dt (Sp.mkNot o) := by
  unfold Sp.mkNot
  split
  · exact dt_ret _
  · split
    · exact dt_ret _
    · split
      · exact dt_ret _
      · exact dt_big (n := 2) (Nat.le_refl 2)
theorem dt_bounded [DecidableEq Ob] (l : List Ob) : (Sp.bnd l = true ∧ ∀ s, Sp.bounded l s = .ok l s) ∨ (Sp.bnd l = false ∧ ∀ s, Sp.bounded l s = .error () s) := by
  unfold Sp.bounded
  cases h : Sp.bnd l with
  | true => exact Or.inl ⟨rfl, fun s => rfl⟩
  | false => exact Or.inr ⟨rfl, fun s => rfl⟩
/-- the two clauses, as the class makes them -/
def splD [DecidableEq Ob] (mb mc ma : Sp.M Ob) (X : Ob → Ob → List Ob) (Y : Ob → List Ob) (r : Nat) : Sp.M Sp.Out := Sp.bd ma fun a => Sp.bd mb fun b => Sp.bd (Sp.bounded (X a b)) fun x => Sp.bd mc fun c => Sp.bd (Sp.bounded (Y c)) fun y => Sp.ret (some (.inl ((x, r), (y, r))))
def splC [DecidableEq Ob] (mb mc ma : Sp.M Ob) (X : Ob → Ob → List Ob) (Y : Ob → List Ob) (r : Nat) : Sp.M Sp.Out := Sp.bd mb fun b => Sp.bd mc fun c => Sp.bd ma fun a => Sp.bd (Sp.bounded (X a b)) fun x => Sp.bd (Sp.bounded (Y c)) fun y => Sp.ret (some (.inl ((x, r), (y, r))))
theorem spl_eq [DecidableEq Ob] {mb mc ma : Sp.M Ob} {X : Ob → Ob → List Ob} {Y : Ob → List Ob} {r : Nat} (hb : Dt mb) (hc : Dt mc) (ha : Dt ma) (s : Sp.Wk) : (∃ o s', splC mb mc ma X Y r s = .ok o s' ∧ splD mb mc ma X Y r s = .ok o s') ∨ ∃ s1 s2, splC mb mc ma X Y r s = .error () s1 ∧ splD mb mc ma X Y r s = .error () s2 ∧ s1.1 = s.1 ∧ s2.1 = s.1 ∧ s2.2 ≤ s.2 + 8 := by
  unfold splC splD
  rcases hb with ⟨b, nb, lb, eb⟩ | ⟨nb, lb, eb⟩ <;> rcases hc with ⟨c, nc, lc, ec⟩ | ⟨nc, lc, ec⟩ <;> rcases ha with ⟨a, na, la, ea⟩ | ⟨na, la, ea⟩
  · rcases dt_bounded (X a b) with ⟨_, ex⟩ | ⟨_, ex⟩ <;> rcases dt_bounded (Y c) with ⟨_, ey⟩ | ⟨_, ey⟩
    · refine Or.inl ⟨some (.inl ((X a b, r), (Y c, r))), (s.1, s.2 + nb + nc + na), ?_, ?_⟩
      · simp only [Sp.bd, eb, ec, ea, ex, ey, Sp.ret]
      · simp only [Sp.bd, eb, ec, ea, ex, ey, Sp.ret]
        rw [show s.2 + na + nb + nc = s.2 + nb + nc + na by omega]
    · refine Or.inr ⟨(s.1, s.2 + nb + nc + na), (s.1, s.2 + na + nb + nc), ?_, ?_, rfl, rfl, by show s.2 + na + nb + nc ≤ _; omega⟩
      · simp only [Sp.bd, eb, ec, ea, ex, ey]
      · simp only [Sp.bd, eb, ec, ea, ex, ey]
    · refine Or.inr ⟨(s.1, s.2 + nb + nc + na), (s.1, s.2 + na + nb), ?_, ?_, rfl, rfl, by show s.2 + na + nb ≤ _; omega⟩
      · simp only [Sp.bd, eb, ec, ea, ex]
      · simp only [Sp.bd, eb, ea, ex]
    · refine Or.inr ⟨(s.1, s.2 + nb + nc + na), (s.1, s.2 + na + nb), ?_, ?_, rfl, rfl, by show s.2 + na + nb ≤ _; omega⟩
      · simp only [Sp.bd, eb, ec, ea, ex]
      · simp only [Sp.bd, eb, ea, ex]
  · refine Or.inr ⟨(s.1, s.2 + nb + nc + na), (s.1, s.2 + na), ?_, ?_, rfl, rfl, by show s.2 + na ≤ _; omega⟩
    · simp only [Sp.bd, eb, ec, ea]
    · simp only [Sp.bd, ea]
  · rcases dt_bounded (X a b) with ⟨_, ex⟩ | ⟨_, ex⟩
    · refine Or.inr ⟨(s.1, s.2 + nb + nc), (s.1, s.2 + na + nb + nc), ?_, ?_, rfl, rfl, by show s.2 + na + nb + nc ≤ _; omega⟩
      · simp only [Sp.bd, eb, ec]
      · simp only [Sp.bd, eb, ec, ea, ex]
    · refine Or.inr ⟨(s.1, s.2 + nb + nc), (s.1, s.2 + na + nb), ?_, ?_, rfl, rfl, by show s.2 + na + nb ≤ _; omega⟩
      · simp only [Sp.bd, eb, ec]
      · simp only [Sp.bd, eb, ea, ex]
  · refine Or.inr ⟨(s.1, s.2 + nb + nc), (s.1, s.2 + na), ?_, ?_, rfl, rfl, by show s.2 + na ≤ _; omega⟩
    · simp only [Sp.bd, eb, ec]
    · simp only [Sp.bd, ea]
  · refine Or.inr ⟨(s.1, s.2 + nb), (s.1, s.2 + na + nb), ?_, ?_, rfl, rfl, by show s.2 + na + nb ≤ _; omega⟩
    · simp only [Sp.bd, eb]
    · simp only [Sp.bd, eb, ea]
  · refine Or.inr ⟨(s.1, s.2 + nb), (s.1, s.2 + na), ?_, ?_, rfl, rfl, by show s.2 + na ≤ _; omega⟩
    · simp only [Sp.bd, eb]
    · simp only [Sp.bd, ea]
  · refine Or.inr ⟨(s.1, s.2 + nb), (s.1, s.2 + na + nb), ?_, ?_, rfl, rfl, by show s.2 + na + nb ≤ _; omega⟩
    · simp only [Sp.bd, eb]
    · simp only [Sp.bd, eb, ea]
  · refine Or.inr ⟨(s.1, s.2 + nb), (s.1, s.2 + na), ?_, ?_, rfl, rfl, by show s.2 + na ≤ _; omega⟩
    · simp only [Sp.bd, eb]
    · simp only [Sp.bd, ea]
