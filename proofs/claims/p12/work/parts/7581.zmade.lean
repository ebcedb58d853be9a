-- deps: 758
/-! the class: making where the room may be full: exact, or the work has failed -/
theorem pc_madeN [DecidableEq Ob] {c : Int} {Q : Int → iST → Prop} {u : iST} (hT : CT u) (ok : CellOk (u.1 29) c) (hq : ∀ k v, CG f8B f8R u v → VN v k → (v.1 32 = 0 → v.2.2 k = c) → (u.1 32 ≠ 0 → v.1 32 ≠ 0) → Q k v) : pv_7_made c Q u := by
  by_cases hr : u.1 29 < 160000
  · exact pc_madeG hT (Or.inl hr) ok (fun k v g k0 k1 hc _ => hq k v (g.mono f8M_B (fun _ h => h)) ⟨k0, k1⟩ (fun _ => hc hr) (fun z => by rw [g.2.2.1 32 (by decide)]; exact z))
  · have h44 := hT.1.1.1
    have hH := hT.2.1
    have hsl := cSl_r c
    unfold pv_7_made
    intro v1 e1 _ v2 e2 _ v3 e3 _ _ _ v4 e4 _
    have e3 : v3 = cSl c := by rw [e3, e2, e1]; rfl
    rw [e3] at e4 ⊢
    obtain ⟨b1, b2, b3, b4⟩ := hH.2 (cSl c) hsl.1 hsl.2
    refine pv_7_made_18_i (fun x1 x3 x4 y => x1 = c ∧ y = u ∧ x4 < u.1 29) ?_ ⟨rfl, rfl, by omega⟩
    rintro x1 x3 x4 y ⟨f1, fy, a1⟩
    rw [f1, fy]
    unfold pv_7_made_18b
    refine ⟨fun hneg => ?_, fun hpos => ?_⟩
    · intro n en _
      rw [en]
      refine ⟨fun z => absurd z hr, fun _ => ?_⟩
      have full : ∀ x, x ≠ 0 → pv_7_made_75 Q x u := by
        intro x hx
        unfold pv_7_made_75
        intro w ew
        have g : CG f8B f8R u w := by rw [ew]; exact CG_I hT (by decide) (by decide)
        have w32 : w.1 32 ≠ 0 := by rw [ew, iIc_at]; exact hx
        have := g.le
        exact hq 0 w g ⟨Int.le_refl _, by omega⟩ (fun z => absurd z w32) (fun _ => w32)
      intro a ea _
      refine ⟨fun h => fun b eb _ => full b (by rw [eb, ← ea]; exact h), fun _ => full 4 (by decide)⟩
    · intro _ _ a ea _
      refine ⟨fun hne => ?_, fun heq => hq x4 u (CG.rf hT) ⟨by omega, a1⟩ (fun _ => by rw [← ea]; exact Decidable.not_not.mp heq) id⟩
      intro _ _ t et _
      obtain ⟨d1, d2, d3, d4⟩ := hH.1 x4 (by omega) a1
      exact ⟨rfl, rfl, by omega⟩
theorem pc_pairN [DecidableEq Ob] {l r : Int} {Q : Int → iST → Prop} {u : iST} (hT : CT u) (hl : l < u.1 29) (hr : r < u.1 29)
    (hq : ∀ k v, CG f8B f8R u v → VN v k → (v.1 32 = 0 → 0 ≤ l → 0 ≤ r → oc v k = .pr (oc u l) (oc u r)) → (u.1 32 ≠ 0 → v.1 32 ≠ 0) → Q k v) : pv_11_pairCell l r (fun c u => pv_7_made c Q u) u := by
  have h16 := hT.1.1.2
  have h44 := hT.1.1.1
  have key : ∀ l', 0 ≤ l' → l' < u.1 29 → (0 ≤ l → l' = l) → pv_11_pairCell_12 (fun c u => pv_7_made c Q u) r (-9223372036854775808) l' u := by
    intro l' l0 l1 el
    have fin : ∀ r', 0 ≤ r' → r' < u.1 29 → (0 ≤ r → r' = r) → ∀ c, c = wlor (wlor (-9223372036854775808) (wlshl l' 31)) r' → inL c → pv_7_made c Q u := by
      intro r' r0 r1 er c ec hc
      obtain ⟨q1, q2, q3⟩ := cell_pair l0 (show l' < 2147483648 by omega) r0 (show r' < 2147483648 by omega)
      rw [ec] at hc
      have q4 := cell_pairC l0 (show l' < 2147483648 by omega) r0 (show r' < 2147483648 by omega) hc
      rw [← ec] at q1 q2 q3 q4
      refine pc_madeN hT ⟨fun _ => ⟨by rw [q2]; exact l1, by rw [q3]; exact r1, by rw [q2, q3]; exact q4⟩, fun z => by omega⟩ (fun k v g vk ek hd => hq k v g vk (fun z zl zr => ?_) hd)
      have ek := ek z
      rw [oc_pr g.1.1 vk.1 vk.2 (by rw [ek]; exact q1), ek, q2, q3, g.oc hT l0 l1, g.oc hT r0 r1, el zl, er zr]
    unfold pv_11_pairCell_12
    intro a ea _ b eb _
    refine ⟨fun h => ?_, fun h => ?_⟩
    · intro c ec hc
      exact fin r h hr (fun _ => rfl) c (by rw [ec, eb, ea]) hc
    · intro c ec hc
      exact fin 0 (Int.le_refl _) (by omega) (fun z => absurd z h) c (by rw [ec, eb, ea]) hc
  unfold pv_11_pairCell
  exact ⟨fun h => key l h hl (fun _ => rfl), fun h => key 0 (Int.le_refl _) (by omega) (fun z => absurd z h)⟩
theorem f8T_B [DecidableEq Ob] : ∀ k, f8B k = false → f8T k = false := fun k h => by unfold f8B at h; rw [Bool.or_eq_false_iff] at h; exact h.2
theorem not0 [DecidableEq Ob] {p q : Prop} (h : ¬ p → ¬ q) (hq : q) : p := Classical.byContradiction (fun z => h z hq)
theorem pc_callN [DecidableEq Ob] {f a : Int} {F : Ob} {Q : Int → iST → Prop} {v : iST} {E : Sp.Env} (hT : CT v) (hf : VN v f ∧ oc v f = F) (na : NdC v E a) (hw : Ob.wt (Sp.arOf E) (.pr F (.pr (oc v a) Ob.nil)))
    (hq : ∀ t w, CG f8B f8W v w → (v.1 32 ≠ 0 → w.1 32 ≠ 0) → NdD w E t → (w.1 32 = 0 → oc w t = .pr F (.pr (oc v a) Ob.nil)) → Q t w) : pv_10_call_48 Q f a 0 v := by
  unfold pv_10_call_48
  obtain ⟨z0, z1⟩ := VN.zero hT
  refine pc_pairN hT na.1.2 z0.2 (fun k1 v1 g1 vk1 ek1 d1 => ?_)
  have hf1 := hf.1.up g1
  refine pc_pairN g1.1 hf1.2 vk1.2 (fun k2 v2 g2 vk2 ek2 d2 => ?_)
  have g : CG f8B f8W v v2 := (g1.tr g2).mono (fun _ h => h) f8R_W
  have ex : v2.1 32 = 0 → oc v2 k2 = .pr F (.pr (oc v a) Ob.nil) := fun z => by
    have z1' : v1.1 32 = 0 := not0 d2 z
    rw [ek2 z hf1.1 vk1.1, ek1 z1' na.1.1 z0.1, g1.oc hT hf.1.1 hf.1.2, hf.2, z1]
  refine pc_sizeOf g2.1 vk2 ?_
  have hs : szC (oc v2 k2) ≤ 120 ↔ (oc v2 k2).sz ≤ 120 := by
    unfold szC
    split <;> omega
  refine ⟨fun h => ?_, fun h => ?_⟩
  · exact hq k2 v2 g (fun z => d2 (d1 z)) ⟨by have := vk2.1; omega, vk2.2, fun z => ⟨vk2, by rw [ex z]; exact hw, hs.mp h⟩⟩ ex
  · refine pc_blame g2.1 (by decide) (fun w gw w32 => ?_)
    have h44 := gw.1.1.1.1
    exact hq (-1) w (g.tr (gw.mono f8T_B f80_any)) (fun _ => w32) ⟨Int.le_refl _, by omega, fun z => absurd z w32⟩ (fun z => absurd z w32)
theorem pc_negatedN [DecidableEq Ob] {a : Int} {Q : Int → iST → Prop} {v : iST} {E : Sp.Env} (hT : CT v) (na : NdC v E a)
    (hq : ∀ t w, CG f8B f8W v w → (v.1 32 ≠ 0 → w.1 32 ≠ 0) → NdD w E t → (w.1 32 = 0 → Vl (Sp.mkNot (oc v a)) (oc w t)) → Q t w) : pv_10_negated a Q v := by
  have stay : ∀ t, NdC v E t → Vl (Sp.mkNot (oc v a)) (oc v t) → Q t v := fun t nt hv => hq t v (CG.rf hT) id nt.d (fun _ => hv)
  unfold Sp.mkNot at hq stay
  unfold pv_10_negated
  refine pc_isCallK 16 hT na.1 (by decide) (by decide) (o := Ob.not) rfl (fun r1 h1 => ⟨fun z1 => ?_, fun z1 => ?_⟩)
  · rw [if_neg (by rw [h1.f z1]; decide)] at hq stay
    refine pc_isConstant hT na.1 (fun r2 h2 => ⟨fun z2 => ?_, fun z2 => ?_⟩)
    · have nn : ¬ oc v a = Ob.nil := fun z => by
        have := h2.f z2
        rw [z] at this
        have this : (Ob.isNat Ob.nil || decide (Ob.nil = Ob.nil) || decide (Ob.nil = Ob.t)) = false := this
        rw [decide_eq_true rfl, Bool.or_true] at this
        cases this
      rw [if_neg nn, if_neg (by rw [h2.f z2]; decide)] at hq
      obtain ⟨k0, k1, k2⟩ := knC hT 16 (o := Ob.not) (by decide) (by decide) rfl
      unfold pv_10_call
      refine ⟨fun z => absurd rfl z, fun _ => ?_⟩
      unfold pv_10_call_23
      refine ⟨fun z => absurd rfl z, fun _ => ?_⟩
      refine pc_callN hT ⟨⟨k0, k1⟩, k2⟩ na (Ob.wt_mk (l := [oc v a]) (Ob.sym_ne (by decide)) (Ob.sym_isSym _) (arOf_not E) (fun x hx => by rcases List.mem_cons.mp hx with q | q; (rw [q]; exact na.2.1); cases q)) (fun t w g d nt ex => hq t w g d nt (fun z => ?_))
      rw [ex z]
      have hs : (.pr Ob.not (.pr (oc v a) Ob.nil) : Ob).sz ≤ 120 := by
        have := (nt.2.2 z).2.2
        rw [ex z] at this
        exact this
      exact ⟨2, fun s => big_ok hs⟩
    · have k0 := katC hT 0 (o := Ob.nil) (by decide) (by decide) rfl na.1.1 na.1.2
      refine ⟨fun h0 => ?_, fun h0 => ?_⟩
      · rw [if_neg (fun z => h0 (k0.mpr z)), if_pos (h2.t z2)] at stay
        obtain ⟨nt, et⟩ := NdC.known hT E 0 (o := Ob.nil) (by decide) (by decide) rfl rfl
        exact stay 0 nt (by rw [et]; exact Vl.ret _)
      · rw [if_pos (k0.mp (Decidable.not_not.mp h0))] at stay
        obtain ⟨nt, et⟩ := NdC.known hT E 1 (o := Ob.t) (by decide) (by decide) rfl rfl
        exact stay 1 nt (by rw [et]; exact Vl.ret _)
  · have hc := h1.t z1
    rw [if_pos hc] at stay
    refine pc_item hT na.1 (by decide) (fun t ht et => ?_)
    have et : oc v t = (oc v a).item 1 := et
    exact stay t (na.one hc (Ob.sym_ne (by decide)) (arOf_not E) ht et) (by rw [et]; exact Vl.ret _)
theorem vlN_cons [DecidableEq Ob] {a x : Ob} {l xs : List Ob} (h : Vl (Sp.mkNot a) x) (g : Vl (Sp.nots l) xs) : Vl (Sp.nots (a :: l)) (x :: xs) := by
  have h2 : Vl (Sp.bd (Sp.nots l) fun xs => Sp.ret (x :: xs)) (x :: xs) := Vl.bd g (Vl.ret _)
  have h1 : Vl (Sp.bd (Sp.pay 1) fun _ => Sp.bd (Sp.nots l) fun xs => Sp.ret (x :: xs)) (x :: xs) := Vl.bd (x := ()) ⟨1, fun s => rfl⟩ h2
  exact Vl.bd (K := fun y => Sp.bd (Sp.pay 1) fun _ => Sp.bd (Sp.nots l) fun xs => Sp.ret (y :: xs)) h h1
theorem pc_rowN [DecidableEq Ob] {c : Int} {p : Nat} {Q : Int → iST → Prop} {v : iST} {E : Sp.Env} (hT : CT v) (hC : ClW v E c)
    (hq : ∀ row w, CG f8B f8W v w → (w.1 32 = 0 → ∃ ctx, CxC w E row ctx ∧ Vl (Sp.nots ((clC v c).take p ++ (clC v c).drop (p + 1))) ctx) → Q row w) : pv_4_rowOfOthers c (p : Int) Q v := by
  have hl := hC.1
  have hlen := clC_len v c
  obtain ⟨z0, z1⟩ := VN.zero hT
  unfold pv_4_rowOfOthers
  refine pv_4_rowOfOthers_5_i (fun x1 x2 x3 x4 y => x1 = c ∧ x2 = (p : Int) ∧ ∃ k : Nat, x4 = (k : Int) ∧ CG f8B f8W v y ∧ x3 < y.1 29 ∧ (y.1 32 = 0 → ∃ D, CxC y E x3 D ∧ ∀ xs, Vl (Sp.nots (((clC v c).take p).drop k ++ (clC v c).drop (max (p + 1) k))) xs → Vl (Sp.nots ((clC v c).take p ++ (clC v c).drop (p + 1))) (D ++ xs))) ?_ ⟨rfl, rfl, 0, rfl, CG.rf hT, z0.2, fun _ => ⟨[], ⟨z0, z1, fun a ha => by cases ha⟩, fun xs h => by simpa using h⟩⟩
  rintro x1 x2 x3 x4 y ⟨b1, b2, k, b4, gy, h3, hI⟩
  rw [b1, b2, b4]
  have y46 : y.2.1 46 = v.2.1 46 := gy.2.2.2 46 (by decide)
  have y49 : y.2.1 49 = v.2.1 49 := gy.2.2.2 49 (by decide)
  unfold pv_4_rowOfOthers_5b
  intro n1 en1 _
  rw [en1, y46]
  refine ⟨fun q => hq x3 y gy (fun z => ?_), fun q => ?_⟩
  · obtain ⟨D, cx, hD⟩ := hI z
    rw [List.drop_eq_nil_of_le (by rw [List.length_take]; omega), List.drop_eq_nil_of_le (by omega)] at hD
    have := hD [] (Vl.ret _)
    rw [List.append_nil] at this
    exact ⟨D, cx, this⟩
  intro n2 en2 _
  rw [en2]
  refine ⟨fun z => hq x3 y gy (fun z2 => absurd z2 z), fun z => ?_⟩
  have y32 := Decidable.not_not.mp z
  obtain ⟨D, cx, hD⟩ := hI y32
  refine ⟨fun ek _ => ?_, fun ek => ?_⟩
  · have ek : k = p := by omega
    refine ⟨rfl, rfl, k + 1, by omega, gy, h3, fun _ => ⟨D, cx, ?_⟩⟩
    rw [List.drop_eq_nil_of_le (by rw [List.length_take]; omega)] at hD ⊢
    rw [show max (p + 1) (k + 1) = max (p + 1) k by omega]
    exact hD
  have nek : k ≠ p := by omega
  intro _ _ n4 en4 _
  rw [en4, y49]
  have nd := hC.2.1 (k : Int) (by omega) (by omega)
  obtain ⟨ndy, edy⟩ := nd.up hT gy
  have hget : (clC v c)[k]? = some (oc v (v.2.1 49 (30 * c + (k : Int)))) := clC_get (by omega)
  have hrem : ((clC v c).take p).drop k ++ (clC v c).drop (max (p + 1) k) = oc v (v.2.1 49 (30 * c + (k : Int))) :: (((clC v c).take p).drop (k + 1) ++ (clC v c).drop (max (p + 1) (k + 1))) := by
    obtain ⟨hlt, e⟩ := List.getElem?_eq_some_iff.mp hget
    by_cases c1 : k < p
    · rw [show max (p + 1) k = p + 1 by omega, show max (p + 1) (k + 1) = p + 1 by omega, List.drop_eq_getElem_cons (l := (clC v c).take p) (by rw [List.length_take]; omega), List.getElem_take, e]
      rfl
    · rw [List.drop_eq_nil_of_le (as := (clC v c).take p) (i := k) (by rw [List.length_take]; omega), List.drop_eq_nil_of_le (as := (clC v c).take p) (i := k + 1) (by rw [List.length_take]; omega), show max (p + 1) k = k by omega, show max (p + 1) (k + 1) = k + 1 by omega, List.drop_eq_getElem_cons hlt, e]
      rfl
  rw [hrem, ← edy] at hD
  refine pc_negatedN gy.1 ndy (fun t w gw wd nt hv => ?_)
  have cxw := cx.up gy.1 gw
  refine pc_pairN gw.1 nt.2.1 cxw.1.2 (fun kk z gz vk ek zd _ => ?_)
  have gyz : CG f8B f8W y z := gw.tr (gz.mono (fun _ h => h) f8R_W)
  refine ⟨rfl, rfl, k + 1, by omega, gy.tr gyz, vk.2, fun z32 => ?_⟩
  have w32 : w.1 32 = 0 := not0 zd z32
  have nO := nt.2.2 w32
  refine ⟨D ++ [oc w t], cxw.add nO vk (ek z32 nO.1.1 cxw.1.1), fun xs hx => ?_⟩
  rw [List.append_assoc]
  exact hD _ (vlN_cons (hv w32) hx)
