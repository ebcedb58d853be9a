-- deps: 746
/-! the class: the row of the others; clauses joined -/
theorem nots_mono [DecidableEq Ob] : ∀ l : List Ob, Mono (Sp.nots l)
  | [] => Mono.ret
  | a :: l => Mono.bd Mono.not (fun _ => Mono.bd Mono.pay (fun _ => Mono.bd (nots_mono l) (fun _ => Mono.ret)))
theorem pc_rowOfOthers [DecidableEq Ob] {α : Type} {δ : Nat} {c B : Int} {p : Nat} {n r : Nat → Bool} {Q : Int → iST → Prop} {u0 v : iST} {E : Sp.Env} {R : EStateM.Result Unit Sp.Wk α} {K : List Ob → Sp.M α} (hP : PdK_d B δ n r u0 v R (Sp.bd (Sp.nots ((clC v c).take p ++ (clC v c).drop (p + 1))) K)) (hn : ∀ k, n k = false → f8B k = false) (hr : ∀ k, r k = false → f8W k = false) (fit : Fit B R) (hK : ∀ a, Mono (K a)) (hC : ClW v E c) (h32 : v.1 32 = 0)
    (hq : ∀ row w ctx, CG f8B f8W v w → w.1 32 = 0 → CxC w E row ctx → PdK_d B 0 n r u0 w R (K ctx) → Q row w) (hbad : ∀ row w, CG f8B f8W v w → w.1 32 ≠ 0 → (∃ s, Dd_d B 2000 w s ∧ R = .error () s) → Q row w) : pv_4_rowOfOthers c (p : Int) Q v := by
  have hT := hP.1.1
  have hl := hC.1
  have hlen := clC_len v c
  obtain ⟨z0, z1⟩ := VN.zero hT
  unfold pv_4_rowOfOthers
  refine pv_4_rowOfOthers_5_i (fun x1 x2 x3 x4 y => x1 = c ∧ x2 = (p : Int) ∧ ∃ k : Nat, x4 = (k : Int) ∧ CG f8B f8W v y ∧ ((y.1 32 = 0 ∧ ∃ D, CxC y E x3 D ∧ PdK_d B 0 n r u0 y R (Sp.bd (Sp.nots (((clC v c).take p).drop k ++ (clC v c).drop (max (p + 1) k))) (fun xs => K (D ++ xs)))) ∨ (y.1 32 ≠ 0 ∧ ∃ s, Dd_d B 2000 y s ∧ R = .error () s))) ?_ ⟨rfl, rfl, 0, rfl, CG.rf hT, Or.inl ⟨h32, [], ⟨z0, z1, fun a ha => by cases ha⟩, by simpa using hP.zero (δ' := 0) h32⟩⟩
  rintro x1 x2 x3 x4 y ⟨b1, b2, k, b4, gy, hI⟩
  rw [b1, b2, b4]
  have y46 : y.2.1 46 = v.2.1 46 := gy.2.2.2 46 (by decide)
  have y49 : y.2.1 49 = v.2.1 49 := gy.2.2.2 49 (by decide)
  unfold pv_4_rowOfOthers_5b
  intro n1 en1 _
  rw [en1, y46]
  refine ⟨fun q => ?_, fun q => ?_⟩
  · rcases hI with ⟨y32, D, cx, hPy⟩ | ⟨y32, hd⟩
    · refine hq x3 y D gy y32 cx ?_
      rw [List.drop_eq_nil_of_le (by rw [List.length_take]; omega), List.drop_eq_nil_of_le (by omega)] at hPy
      have hPy : PdK_d B 0 n r u0 y R (K (D ++ [])) := hPy
      rw [List.append_nil] at hPy
      exact hPy
    · exact hbad x3 y gy y32 hd
  intro n2 en2 _
  rw [en2]
  rcases hI with ⟨y32, D, cx, hPy⟩ | ⟨y32, hd⟩
  rotate_left
  · exact ⟨fun _ => hbad x3 y gy y32 hd, fun z => absurd y32 z⟩
  refine ⟨fun z => absurd y32 z, fun _ => ⟨fun ek _ => ?_, fun ek => ?_⟩⟩
  · have ek : k = p := by omega
    refine ⟨rfl, rfl, k + 1, by omega, gy, Or.inl ⟨y32, D, cx, ?_⟩⟩
    rw [List.drop_eq_nil_of_le (by rw [List.length_take]; omega)] at hPy ⊢
    rw [show max (p + 1) (k + 1) = max (p + 1) k by omega]
    exact hPy
  have nek : k ≠ p := by omega
  intro _ _ n4 en4 _
  rw [en4, y49]
  have nd := hC.2.1 (k : Int) (by omega) (by omega)
  obtain ⟨ndy, edy⟩ := nd.up hT gy
  have hget : (clC v c)[k]? = some (oc v (v.2.1 49 (30 * c + (k : Int)))) := clC_get (by omega)
  have hrem : ((clC v c).take p).drop k ++ (clC v c).drop (max (p + 1) k) = oc v (v.2.1 49 (30 * c + (k : Int))) :: (((clC v c).take p).drop (k + 1) ++ (clC v c).drop (max (p + 1) (k + 1))) := by
    obtain ⟨hlt, e⟩ := List.getElem?_eq_some_iff.mp hget
    by_cases c1 : k < p
    · rw [show max (p + 1) k = p + 1 by omega, show max (p + 1) (k + 1) = p + 1 by omega, List.drop_eq_getElem_cons (l := (clC v c).take p) (by rw [List.length_take]; omega), List.getElem_take, e]
      rfl
    · rw [List.drop_eq_nil_of_le (as := (clC v c).take p) (i := k) (by rw [List.length_take]; omega), List.drop_eq_nil_of_le (as := (clC v c).take p) (i := k + 1) (by rw [List.length_take]; omega), show max (p + 1) k = k by omega, show max (p + 1) (k + 1) = k + 1 by omega, List.drop_eq_getElem_cons hlt, e]
      rfl
  rw [hrem, ← edy] at hPy
  have mn : ∀ (L : List Ob) (x : Ob), Mono (Sp.bd (Sp.nots L) (fun xs => K (D ++ x :: xs))) := fun L x => Mono.bd (nots_mono L) (fun xs => hK _)
  have hPy : PdK_d B 0 n r u0 y R (Sp.bd (Sp.mkNot (oc y (v.2.1 49 (30 * c + (k : Int))))) (fun x => Sp.bd (Sp.pay 1) (fun _ => Sp.bd (Sp.nots (((clC v c).take p).drop (k + 1) ++ (clC v c).drop (max (p + 1) (k + 1)))) (fun xs => K (D ++ x :: xs))))) := by
    have e : Sp.bd (Sp.nots (oc y (v.2.1 49 (30 * c + (k : Int))) :: (((clC v c).take p).drop (k + 1) ++ (clC v c).drop (max (p + 1) (k + 1))))) (fun xs => K (D ++ xs)) = Sp.bd (Sp.mkNot (oc y (v.2.1 49 (30 * c + (k : Int))))) (fun x => Sp.bd (Sp.pay 1) (fun _ => Sp.bd (Sp.nots (((clC v c).take p).drop (k + 1) ++ (clC v c).drop (max (p + 1) (k + 1)))) (fun xs => K (D ++ x :: xs)))) := by
      show Sp.bd (Sp.bd (Sp.mkNot _) (fun x => Sp.bd (Sp.pay 1) (fun _ => Sp.bd (Sp.nots _) (fun xs => Sp.ret (x :: xs))))) _ = _
      simp only [bd_assoc]
      rfl
    rw [e] at hPy
    exact hPy
  refine pc_negated_d hPy hn hr fit (fun x => Mono.bd Mono.pay (fun _ => mn _ x)) ndy (fun o w gw wd nt hPw _ => ?_)
  have cxw := cx.up gy.1 gw
  by_cases w32 : w.1 32 = 0
  · have nO := nt.2.2 w32
    have hrm : w.1 29 + 1 ≤ 160000 := by
      obtain ⟨s, hlv, e⟩ := hPw.live w32
      rw [e] at fit
      have h2 := mn (((clC v c).take p).drop (k + 1) ++ (clC v c).drop (max (p + 1) (k + 1))) (oc w o) (s.1, s.2 + 1)
      have fit : B + (cntR (Sp.bd (Sp.nots (((clC v c).take p).drop (k + 1) ++ (clC v c).drop (max (p + 1) (k + 1)))) (fun xs => K (D ++ oc w o :: xs)) (s.1, s.2 + 1)) : Int) ≤ 160000 := fit
      have h3 := hlv.2.2
      have h2 : s.2 + 1 ≤ cntR (Sp.bd (Sp.nots (((clC v c).take p).drop (k + 1) ++ (clC v c).drop (max (p + 1) (k + 1)))) (fun xs => K (D ++ oc w o :: xs)) (s.1, s.2 + 1)) := h2
      omega
    refine pc_pair gw.1 nO.1 cxw.1 (by omega) (fun kk z gz vk ek h29 _ => ?_)
    have z32 : z.1 32 = 0 := by rw [gz.2.2.1 32 (by decide)]; exact w32
    refine ⟨rfl, rfl, k + 1, by omega, (gy.tr gw).tr (gz.mono f8M_B f8R_W), Or.inl ⟨z32, D ++ [oc w o], cxw.add nO vk ek, ?_⟩⟩
    have e2 : (fun xs => K (D ++ [oc w o] ++ xs)) = (fun xs => K (D ++ oc w o :: xs)) := by
      funext xs
      rw [List.append_assoc]; rfl
    rw [e2]
    obtain ⟨s, hlv, e⟩ := hPw.live w32
    refine ⟨hPw.1.tr (gz.mono (fun k h => f8M_B k (hn k h)) (fun k h => f8R_W k (hr k h))), Or.inl ⟨(s.1, s.2 + 1), ⟨z32, hlv.2.1.cg gz (by decide) (by decide) rfl, ?_⟩, e⟩⟩
    have := hlv.2.2
    show z.1 29 ≤ B + ((s.2 + 1 : Nat) : Int)
    omega
  · obtain ⟨s, hd, e⟩ := hPw.dead (δ' := 300) w32
    refine pc_pairG gw.1 nt.2.1 cxw.1.2 (Or.inr w32) (fun kk z gz vk _ h29 _ => ?_)
    have z32 : z.1 32 ≠ 0 := by rw [gz.2.2.1 32 (by decide)]; exact w32
    exact ⟨rfl, rfl, k + 1, by omega, (gy.tr gw).tr (gz.mono f8M_B f8R_W), Or.inr ⟨z32, s, ⟨z32, hd.2.1.cg gz (by decide) (by decide) rfl, by have := hd.2.2; omega⟩, e⟩⟩
/-- no clause but c is changed -/
def OtK [DecidableEq Ob] (c : Int) (u v : iST) : Prop := ∀ j, j ≠ c → v.2.1 46 j = u.2.1 46 j ∧ v.2.1 47 j = u.2.1 47 j ∧ v.2.1 48 j = u.2.1 48 j ∧ ∀ i, 0 ≤ i → i < 30 → v.2.1 49 (30 * j + i) = u.2.1 49 (30 * j + i)
theorem OtK.rf [DecidableEq Ob] {c : Int} {u : iST} : OtK c u u := fun _ _ => ⟨rfl, rfl, rfl, fun _ _ _ => rfl⟩
theorem OtK.tr [DecidableEq Ob] {c : Int} {u v w : iST} (h : OtK c u v) (g : OtK c v w) : OtK c u w := fun j hj => ⟨(g j hj).1.trans (h j hj).1, (g j hj).2.1.trans (h j hj).2.1, (g j hj).2.2.1.trans (h j hj).2.2.1, fun i i0 i1 => ((g j hj).2.2.2 i i0 i1).trans ((h j hj).2.2.2 i i0 i1)⟩
theorem OtK.of [DecidableEq Ob] {c : Int} {u v : iST} (h : ∀ k, 46 ≤ k → k ≤ 49 → v.2.1 k = u.2.1 k) : OtK c u v := fun j _ => ⟨by rw [h 46 (by decide) (by decide)], by rw [h 47 (by decide) (by decide)], by rw [h 48 (by decide) (by decide)], fun i _ _ => by rw [h 49 (by decide) (by decide)]⟩
theorem CkC.ok [DecidableEq Ob] {c : Int} {u v : iST} (h : CkC c u v) : OtK c u v := fun j hj => ⟨(h.2.2.1 j hj).1, (h.2.2.1 j hj).2.1, (h.2.2.1 j hj).2.2, fun i i0 i1 => h.2.2.2 _ (by rcases Int.lt_or_gt_of_ne hj with q | q <;> omega)⟩
theorem OtK_9 [DecidableEq Ob] {c i x : Int} {u : iST} (i0 : 0 ≤ i) (i1 : i < 30) : OtK c u (iA u 49 (30 * c + i) x) := fun j hj => by
  have h : ∀ a, (iA u 49 (30 * c + i) x).2.1 49 a = if a = 30 * c + i then x else u.2.1 49 a := fun a => rfl
  refine ⟨rfl, rfl, rfl, fun k k0 k1 => ?_⟩
  rw [h, if_neg (by rcases Int.lt_or_gt_of_ne hj with q | q <;> omega)]
theorem bnd_iff [DecidableEq Ob] {l : List Ob} : Sp.bnd l = true ↔ l.length ≤ 30 ∧ Sp.szL l ≤ 400 := by
  unfold Sp.bnd
  rw [Bool.and_eq_true, decide_eq_true_eq, decide_eq_true_eq]
theorem putL_no [DecidableEq Ob] {l : List Ob} {o : Ob} (h : o ∉ l) : Sp.putL l o = l ++ [o] := if_neg (fun q => h (Ob.has_iff.mp q))
theorem putL_yes [DecidableEq Ob] {l : List Ob} {o : Ob} (h : o ∈ l) : Sp.putL l o = l := if_pos (Ob.has_iff.mpr h)
theorem bnd_put [DecidableEq Ob] {l : List Ob} {o : Ob} (h : Sp.bnd (Sp.putL l o) = true) : Sp.bnd l = true := by
  by_cases c : o ∈ l
  · rw [putL_yes c] at h; exact h
  · rw [putL_no c, bnd_iff, List.length_append, szL_app] at h
    have h1 := szL_pos [o]
    exact bnd_iff.mpr ⟨by omega, by omega⟩
theorem bnd_fold [DecidableEq Ob] : ∀ (xs l : List Ob), Sp.bnd (xs.foldl Sp.putL l) = true → Sp.bnd l = true
  | [], _, h => h
  | x :: xs, l, h => bnd_put (bnd_fold xs (Sp.putL l x) h)
theorem blame_dead [DecidableEq Ob] {x : Int} {Q : iST → Prop} {u : iST} (hT : CT u) (hx : x ≠ 0) (hq : ∀ v, CG f8T f80 u v → v.1 32 ≠ 0 → Q v) : pv_7_blame x Q u := pc_blame hT hx hq
theorem f8C_any [DecidableEq Ob] : ∀ k, f8C k = false → f80 k = false := fun _ _ => rfl
theorem f80_T [DecidableEq Ob] : ∀ k, f8T k = false → f80 k = false := fun _ _ => rfl
/-- a literal joins a clause -/
theorem pc_join [DecidableEq Ob] {c x : Int} {Q : iST → Prop} {u : iST} {E : Sp.Env} (hT : CT u) (hC : ClW u E c) (hb : Sp.bnd (clC u c) = true) (nx : NdC u E x) (hok : ∀ v, CkC c u v → v.1 = u.1 → v.2.1 48 = u.2.1 48 → ClW v E c → clC v c = Sp.putL (clC u c) (oc u x) → Sp.bnd (clC v c) = true → Q v) (hbad : ∀ v, CG f8T f8C u v → v.1 32 ≠ 0 → Sp.bnd (Sp.putL (clC u c) (oc u x)) = false → OtK c u v → Q v) : pv_10_join c x Q u := by
  have x0 := nx.1.1
  have hl := hC.1
  have hlen := clC_len u c
  unfold pv_10_join
  refine ⟨fun q => by omega, fun _ => ?_⟩
  intro n1 en1 _
  rw [en1]
  refine pc_sizeOf hT nx.1 ?_
  refine pc_insert hT hC nx hl.1 (Int.le_refl _) (szC_nd nx) (fun hm => ⟨fun _ => hok u (CkC.rf hT) rfl rfl hC (putL_yes hm).symm hb, fun q => absurd (by decide) q⟩) (fun hno h30 => ⟨fun q => absurd rfl q, fun _ => ?_⟩) (fun r v hno kv vn v48 hv ev hr hr0 => ⟨fun q => ?_, fun q => ?_⟩)
  · refine blame_dead hT (by decide) (fun v gv v32 => hbad v (gv.mono (fun _ h => h) f8C_any) v32 (bf_of (fun q => ?_)) (OtK.of (fun k _ _ => gv.2.2.2 k rfl)))
    rw [putL_no hno, bnd_iff, List.length_append, List.length_singleton] at q
    omega
  · rw [List.take_of_length_le (by omega), List.drop_eq_nil_of_le (by omega)] at ev
    refine hok v kv vn v48 hv (by rw [putL_no hno]; exact ev) (bnd_iff.mpr ⟨by have := clC_len v c; have := hv.1; omega, ?_⟩)
    rw [← hv.2.2.2]
    have : ¬ 400 < v.2.1 47 c := fun h => q (hr0.mpr h)
    omega
  · have q := Decidable.not_not.mp q
    rw [List.take_of_length_le (by omega), List.drop_eq_nil_of_le (by omega)] at ev
    refine blame_dead kv.1.1 (by decide) (fun w gw w32 => hbad w ((kv.1.mono f80_T (fun _ h => h)).tr (gw.mono (fun _ h => h) f8C_any)) w32 (bf_of (fun q2 => ?_)) (kv.ok.tr (OtK.of (fun k _ _ => gw.2.2.2 k rfl))))
    rw [putL_no hno, bnd_iff, ← ev, ← hv.2.2.2] at q2
    have := hr0.mp q
    omega
/-- a literal is put in, whatever the clause is -/
theorem pc_insertD [DecidableEq Ob] {c p x z : Int} {Q : Int → iST → Prop} {u : iST} (hT : CT u) (hq : ∀ r v, CG f80 f8C u v → OtK c u v → Q r v) : pv_1_insert c p x z Q u := by
  unfold pv_1_insert
  refine pv_1_insert_3_i (fun x0 _ _ _ _ y => x0 = c ∧ y = u) ?_ ⟨rfl, rfl⟩
  rintro x0 x1 x2 x3 x4 y ⟨b0, b⟩
  rw [b0, b]
  have st : OtK c u u := OtK.rf
  unfold pv_1_insert_3b
  intro n1 en1 _
  refine ⟨fun _ => ⟨fun _ _ => hq 0 u (CG.rf hT) st, fun _ => ?_⟩, fun _ => ?_⟩
  · intro n2 en2 _
    refine ⟨fun _ _ => hq 0 u (CG.rf hT) st, fun _ => ?_⟩
    intro n3 en3 _
    refine ⟨fun _ => ?_, fun _ _ => hq 0 u (CG.rf hT) st⟩
    intro n4 en4 _
    refine pv_1_insert_60_i (fun x0 _ _ _ _ y => x0 = c ∧ CG f80 f8C u y ∧ OtK c u y) ?_ ⟨rfl, CG.rf hT, st⟩
    rintro x0 x1 x2 x3 x4 y ⟨b0, gy, oy⟩
    rw [b0]
    unfold pv_1_insert_60b
    refine ⟨fun _ => ?_, fun _ => ?_⟩
    · intro i0 i1 y1 e1 n5 en5 _ _ y2 e2 n7 en7 _ n8 en8 _ y3 e3 n9 en9 _
      have k1 : CG f80 f8C y y1 := by rw [e1]; exact CG_A gy.1 (by omega) (by decide)
      have k2 : CG f80 f8C y1 y2 := by rw [e2]; exact CG_A k1.1 (by omega) (by decide)
      have k3 : CG f80 f8C y2 y3 := by rw [e3]; exact CG_A k2.1 (by omega) (by decide)
      have o1 : OtK c y y1 := by rw [e1]; exact OtK_9 i0 i1
      have o2 : OtK c y1 y2 := by rw [e2]; exact (CkC_A k1.1 (by decide) (by decide)).ok
      have o3 : OtK c y2 y3 := by rw [e3]; exact (CkC_A k2.1 (by decide) (by decide)).ok
      have oo := ((oy.tr o1).tr o2).tr o3
      exact ⟨fun _ _ => hq 0 y3 (((gy.tr k1).tr k2).tr k3) oo, fun _ _ => hq 1 y3 (((gy.tr k1).tr k2).tr k3) oo⟩
    · intro _ _ _ n11 en11 _ j0 j1 y1 e1 _
      have k1 : CG f80 f8C y y1 := by rw [e1]; exact CG_A gy.1 (by omega) (by decide)
      exact ⟨rfl, gy.tr k1, oy.tr (by rw [e1]; exact OtK_9 j0 j1)⟩
  · intro _ _ n13 en13 _
    exact ⟨fun _ _ => ⟨rfl, rfl⟩, fun _ _ => hq 1 u (CG.rf hT) st⟩
theorem pc_joinD [DecidableEq Ob] {c x : Int} {Q : iST → Prop} {u : iST} (hT : CT u) (hx : x < u.1 29 ∧ -1 ≤ x) (h32 : u.1 32 ≠ 0) (hq : ∀ v, CG f8T f8C u v → v.1 32 ≠ 0 → OtK c u v → Q v) : pv_10_join c x Q u := by
  unfold pv_10_join
  refine ⟨fun _ => hq u (CG.rf hT) h32 OtK.rf, fun q => ?_⟩
  intro n1 en1 _
  refine pc_sizeOf hT ⟨by omega, hx.1⟩ ?_
  refine pc_insertD hT (fun r v gv ov => ⟨fun _ => hq v (gv.mono f80_T (fun _ h => h)) (by rw [gv.2.2.1 32 rfl]; exact h32) ov, fun _ => ?_⟩)
  exact blame_dead gv.1 (by decide) (fun w gw w32 => hq w ((gv.mono f80_T (fun _ h => h)).tr (gw.mono (fun _ h => h) f8C_any)) w32 (ov.tr (OtK.of (fun k _ _ => gw.2.2.2 k rfl))))
