-- deps: 799898
/-! PROOFS with parts -/
theorem cs1 [DecidableEq Ob] {cs : List (List Ob)} {x : Ob} (h : cs.length = [x].length) : ∃ P, cs = [P] := by
  match cs, h with
  | [P], _ => exact ⟨P, rfl⟩
theorem cs2 [DecidableEq Ob] {cs : List (List Ob)} {x y : Ob} (h : cs.length = [x, y].length) : ∃ P Q, cs = [P, Q] := by
  match cs, h with
  | [P, Q], _ => exact ⟨P, Q, rfl⟩
theorem csL_len [DecidableEq Ob] : ∀ l : List Ob, csL l + (l.length : Int) ≤ 2 * Sp.szL l
  | [] => Int.le_refl _
  | a :: l => by
    have h1 := csM_le a
    have h2 := csL_len l
    show Ob.csM false a + csL l + ((l.length + 1 : Nat) : Int) ≤ 2 * (a.sz + Sp.szL l)
    omega
theorem csL_799 [DecidableEq Ob] {l : List Ob} (h : CbQ l) : csL l ≤ 799 := by
  have h1 := csL_len l
  have h2 := h.2
  cases l with
  | nil => show (0 : Int) ≤ 799; decide
  | cons a l =>
    rw [List.length_cons] at h1
    omega
theorem foldl_putL_mem [DecidableEq Ob] : ∀ (l acc : List Ob) (y : Ob), y ∈ l.foldl Sp.putL acc → y ∈ acc ∨ y ∈ l
  | [], acc, y, h => Or.inl h
  | a :: l, acc, y, h => by
    have h : y ∈ l.foldl Sp.putL (Sp.putL acc a) := h
    rcases foldl_putL_mem l _ y h with q | q
    · unfold Sp.putL at q
      split at q
      · exact Or.inl q
      · rcases List.mem_append.mp q with q | q
        · exact Or.inl q
        · exact Or.inr (by rw [List.mem_singleton.mp q]; exact List.mem_cons_self)
    · exact Or.inr (List.mem_cons_of_mem _ q)
theorem rb_fills [DecidableEq Ob] {f : Ob → Sp.M Ob} {g : Ob → Ob} {c : Ob → Int} (hc : ∀ a, 0 ≤ c a) : ∀ (l acc : List Ob), (∀ a, a ∈ l → NdB (c a) (c a) (fun x => x = g a) (f a)) → NdB (smL c l) (smL c l) (fun res => ∀ y, y ∈ res → y ∈ acc ∨ ∃ a, a ∈ l ∧ y = g a) (Sp.fills f l acc)
  | [], acc, _ => NdB.ret (Int.le_refl _) (fun y h => Or.inl h)
  | a :: l, acc, h => by
    have l0 := smL_pos hc l
    have a0 := hc a
    show NdB (c a + smL c l) (c a + smL c l) _ (Sp.bd (f a) fun x => Sp.fills f l (Sp.putL acc x))
    refine NdB.bd (B := smL c l) (F := smL c l) (h a List.mem_cons_self) (fun x hx => ?_) (by omega) (by omega) (by omega)
    refine (rb_fills hc l (Sp.putL acc x) (fun b hb => h b (List.mem_cons_of_mem _ hb))).le (Int.le_refl _) (Int.le_refl _) (fun res hres y hy => ?_)
    rcases hres y hy with q | ⟨b, hb, e⟩
    · unfold Sp.putL at q
      split at q
      · exact Or.inl q
      · rcases List.mem_append.mp q with q | q
        · exact Or.inl q
        · exact Or.inr ⟨a, List.mem_cons_self, by rw [List.mem_singleton.mp q]; exact hx⟩
    · exact Or.inr ⟨b, List.mem_cons_of_mem _ hb, e⟩
theorem NoT.fills [DecidableEq Ob] {f : Ob → Sp.M Ob} (hf : ∀ a, NoT (f a)) : ∀ (l acc : List Ob), NoT (Sp.fills f l acc)
  | [], _ => NoT.ret
  | a :: l, acc => NoT.bd (hf a) (fun x => NoT.fills hf l _)
/-! where the variable quote comes from -/
theorem q_pr [DecidableEq Ob] {a b : Ob} : Ob.quote ∈ Ob.ptM false (.pr a b) ↔ a ≠ Ob.quote ∧ Ob.quote ∈ Ob.ptM true b := by
  rw [pt_pr]
  by_cases c : a = Ob.quote
  · rw [if_pos c]
    refine ⟨fun h => ?_, fun h => absurd c h.1⟩
    cases List.mem_singleton.mp h
  · rw [if_neg c]
    refine ⟨fun h => ⟨c, ?_⟩, fun h => List.mem_cons_of_mem _ h.2⟩
    rcases List.mem_cons.mp h with q | q
    · cases q
    · exact q
theorem q_row [DecidableEq Ob] {a b : Ob} : Ob.quote ∈ Ob.ptM true (.pr a b) ↔ Ob.quote ∈ Ob.ptM false a ∨ Ob.quote ∈ Ob.ptM true b := by
  rw [pt_row, List.mem_append]
theorem q_item [DecidableEq Ob] : ∀ (b : Ob) (k : Nat), Ob.quote ∈ Ob.ptM false (Ob.item b k) → Ob.quote ∈ Ob.ptM true b
  | .var x, k, h => by
    exfalso
    have e : Ob.item (.var x) k = Ob.nil := by cases k <;> rfl
    rw [e] at h
    have h : Ob.quote ∈ [Ob.nil] := h
    exact Ob.sym_ne (by decide) (List.mem_singleton.mp h)
  | .op a b, 0, h => q_row.mpr (Or.inl h)
  | .op a b, k + 1, h => q_row.mpr (Or.inr (q_item b k h))
theorem q_rp [DecidableEq Ob] {x y : Ob} : ∀ (m : Bool) (o : Ob), Ob.quote ∈ Ob.ptM m (Ob.rpM x y m o) → Ob.quote ∈ Ob.ptM m o ∨ Ob.quote ∈ Ob.ptM false y
  | true, .op a b, h => by
    have h : Ob.quote ∈ Ob.ptM true (.pr (Ob.rpM x y false a) (Ob.rpM x y true b)) := h
    rcases q_row.mp h with q | q
    · exact (q_rp false a q).imp (fun z => q_row.mpr (Or.inl z)) id
    · exact (q_rp true b q).imp (fun z => q_row.mpr (Or.inr z)) id
  | true, .var z, h => Or.inl h
  | false, .op a b, h => by
    have e : Ob.rpM x y false (.op a b) = if Ob.pr a b = x then y else if a = Ob.quote then .pr a b else .pr a (Ob.rpM x y true b) := rfl
    rw [e] at h
    by_cases c1 : Ob.pr a b = x
    · rw [if_pos c1] at h; exact Or.inr h
    rw [if_neg c1] at h
    by_cases c2 : a = Ob.quote
    · rw [if_pos c2] at h; exact Or.inl h
    · rw [if_neg c2] at h
      have h := (q_pr.mp h).2
      exact (q_rp true b h).imp (fun z => q_pr.mpr ⟨c2, z⟩) id
  | false, .var z, h => by
    have e : Ob.rpM x y false (.var z) = if .var z = x then y else .var z := rfl
    rw [e] at h
    split at h
    · exact Or.inr h
    · exact Or.inl h
theorem q_sb [DecidableEq Ob] {s : Ob → Ob} (hs : ∀ z : Ob, z.isVar = true → Ob.quote ∉ Ob.ptM false (s z)) : ∀ (m : Bool) (o : Ob), Ob.quote ∉ Ob.ptM m (Ob.sbM s m o)
  | true, .op a b => fun h => by
    have h : Ob.quote ∈ Ob.ptM true (.pr (Ob.sbM s false a) (Ob.sbM s true b)) := h
    rcases q_row.mp h with q | q
    · exact q_sb hs false a q
    · exact q_sb hs true b q
  | true, .var z => fun h => by cases h
  | false, .op a b => fun h => by
    rw [show Ob.sbM s false (.op a b) = _ from sb_pr s a b] at h
    by_cases c : a = Ob.quote
    · rw [if_pos c] at h
      exact (q_pr.mp h).1 c
    · rw [if_neg c] at h
      exact q_sb hs true b (q_pr.mp h).2
  | false, .var z => fun h => by
    rw [sb_leaf] at h
    by_cases c : Ob.isVar (.var z) = true
    · rw [if_pos c] at h
      exact hs _ c h
    · rw [if_neg c] at h
      have h : Ob.quote ∈ [(.var z : Ob)] := h
      have e := List.mem_singleton.mp h
      rw [← e] at c
      exact c (by unfold Ob.isVar; rw [show Ob.isSym Ob.quote = true from Ob.sym_isSym _, decide_eq_true (show Ob.quote ≠ Ob.nil from Ob.sym_ne (by decide)), decide_eq_true (show Ob.quote ≠ Ob.t from Ob.sym_ne (by decide))]; rfl)
theorem q_same [DecidableEq Ob] {s : Ob → Ob} (hs : ∀ z : Ob, z ≠ Ob.quote → s z = z) {o : Ob} (h : Ob.quote ∉ Ob.ptM false o) : Ob.sbM s false o = o := by
  have := sb_congr (s := s) (t := fun x => x) false o (fun x hx => hs x (fun e => h (by rw [← e]; exact hx.1)))
  rw [this]
  exact sb_id false o
section
variable {E : Sp.Env} {o : Ob}
theorem fb_weak [DecidableEq Ob] (h : Sp.isForm E o = true) (c : Ob.lft o = Ob.weak) : FmB E o := by
  rw [isForm_weak c, Bool.and_eq_true_iff, Bool.and_eq_true_iff, beq_iff_eq] at h
  have w := wp3 h.1.1 (by rw [c]; exact Ob.sym_ne (by decide)) (by rw [c]; rfl) (by rw [c]; rfl)
  have w1 := (WP_nwd (Ob.item o 1)).2
  have ep : WPL (Sp.partsOf o) = WP (Ob.item o 2) + 0 := by rw [ptsC_weak c]; rfl
  refine ⟨by omega, fun cs hl _ s => ?_⟩
  rw [ptsC_weak c] at hl
  obtain ⟨P, e⟩ := cs1 hl
  rw [e, concl_weak c]
  have v1 := vQ_r P
  have e1 : sgL [P] = 401 + 135 * vQ P + 0 := rfl
  refine CoB_of (A := 0) (Eb := 0) (P := fun _ => True) (NdB.ret (Int.le_refl _) trivial) NoT.ret (fun l _ => ?_) ?_ s
  · have := vQ_r l
    omega
  · have : (([P] : List (List Ob)).length : Int) = 1 := rfl
    omega
theorem fb_cut [DecidableEq Ob] (h : Sp.isForm E o = true) (c : Ob.lft o = Ob.cut) : FmB E o := by
  rw [isForm_cut c, Bool.and_eq_true_iff, beq_iff_eq] at h
  have w := wp4 h.1 (by rw [c]; exact Ob.sym_ne (by decide)) (by rw [c]; rfl) (by rw [c]; rfl)
  have w1 := (WP_nwd (Ob.item o 1)).2
  have ep : WPL (Sp.partsOf o) = WP (Ob.item o 2) + (WP (Ob.item o 3) + 0) := by rw [ptsC_cut c]; rfl
  refine ⟨by omega, fun cs hl _ s => ?_⟩
  rw [ptsC_cut c] at hl
  obtain ⟨P, Q, e⟩ := cs2 hl
  rw [e, concl_cut c]
  have v1 := vQ_r P
  have v2 := vQ_r Q
  have e1 : sgL [P, Q] = 401 + 135 * vQ P + (401 + 135 * vQ Q + 0) := rfl
  refine CoB_of (A := 0) (Eb := 0) (P := fun _ => True) (NdB.ite (fun _ => NdB.ret (Int.le_refl _) trivial) (fun _ => NdB.fail (Int.le_refl _))) (NoT.ite NoT.ret NoT.fail) (fun l _ => ?_) ?_ s
  · have := vQ_r l
    omega
  · have : (([P, Q] : List (List Ob)).length : Int) = 2 := rfl
    omega
theorem fb_swap [DecidableEq Ob] (h : Sp.isForm E o = true) (c : Ob.lft o = Ob.swap) : FmB E o := by
  rw [isForm_swap c, beq_iff_eq] at h
  have w := wp2 h (by rw [c]; exact Ob.sym_ne (by decide)) (by rw [c]; rfl) (by rw [c]; rfl)
  have ep : WPL (Sp.partsOf o) = WP (Ob.item o 1) + 0 := by rw [ptsC_swap c]; rfl
  refine ⟨by omega, fun cs hl _ s => ?_⟩
  rw [ptsC_swap c] at hl
  obtain ⟨P, e⟩ := cs1 hl
  rw [e, concl_swap c]
  have v1 := vQ_r P
  have e1 : sgL [P] = 401 + 135 * vQ P + 0 := rfl
  have el : (([P] : List (List Ob)).length : Int) = 1 := rfl
  show CoB o [P] s ((match P with | e :: l => if Ob.isCallOf e Ob.equal then Sp.bd (Sp.mk2 Ob.equal (Ob.item e 2) (Ob.item e 1)) fun x => Sp.ret (l.foldl Sp.putL [x]) else Sp.fail | [] => Sp.fail) s)
  cases P with
  | nil => exact CoB_of (A := 3) (Eb := 3) (P := fun _ => True) (NdB.fail (by decide)) NoT.fail (fun l _ => by have := vQ_r l; omega) (by omega) s
  | cons a l =>
    refine CoB_of (A := 3) (Eb := 3) (P := fun _ => True) (NdB.ite (fun _ => NdB.bd (B := 0) (F := 0) (kk2 _ _ _) (fun n _ => NdB.ret (Int.le_refl _) trivial) (by decide) (by decide) (by decide)) (fun _ => NdB.fail (by decide))) (NoT.ite (NoT.bd NoT.big (fun _ => NoT.ret)) NoT.fail) (fun l _ => by have := vQ_r l; omega) (by omega) s
theorem fb_put [DecidableEq Ob] (h : Sp.isForm E o = true) (c : Ob.lft o = Ob.put) : FmB E o := by
  rw [isForm_put c, beq_iff_eq] at h
  have w := wp3 h (by rw [c]; exact Ob.sym_ne (by decide)) (by rw [c]; rfl) (by rw [c]; rfl)
  have ep : WPL (Sp.partsOf o) = WP (Ob.item o 1) + (WP (Ob.item o 2) + 0) := by rw [ptsC_put c]; rfl
  refine ⟨by omega, fun cs hl hb s => ?_⟩
  rw [ptsC_put c] at hl
  obtain ⟨P, Q, e⟩ := cs2 hl
  rw [e] at hb
  have bQ := hb Q (List.mem_cons_of_mem _ List.mem_cons_self)
  rw [e, concl_put c]
  have v1 := vQ_r P
  have v2 := vQ_r Q
  have e1 : sgL [P, Q] = 401 + 135 * vQ P + (401 + 135 * vQ Q + 0) := rfl
  have el : (([P, Q] : List (List Ob)).length : Int) = 2 := rfl
  show CoB o [P, Q] s ((match P with | e :: l => if Ob.isCallOf e Ob.equal then Sp.bd (Sp.fills (fun a => Sp.big (Ob.rpM (Ob.item e 1) (Ob.item e 2) false a) (Ob.csM false a).toNat) Q []) fun x => Sp.ret (l.foldl Sp.putL x) else Sp.fail | [] => Sp.fail) s)
  cases P with
  | nil => exact CoB_of (A := 0) (Eb := 0) (P := fun _ => False) (NdB.fail (by decide)) NoT.fail (fun l hl => hl.elim) (by omega) s
  | cons x l =>
    have cQ := csL_799 bQ
    have cQ0 := csL_pos Q
    by_cases ce : Ob.isCallOf x Ob.equal = true
    · show CoB o [x :: l, Q] s ((if Ob.isCallOf x Ob.equal = true then Sp.bd (Sp.fills (fun a => Sp.big (Ob.rpM (Ob.item x 1) (Ob.item x 2) false a) (Ob.csM false a).toNat) Q []) fun y => Sp.ret (l.foldl Sp.putL y) else Sp.fail : Sp.M (List Ob)) s)
      rw [if_pos ce]
      have fl := rb_fills (f := fun a => Sp.big (Ob.rpM (Ob.item x 1) (Ob.item x 2) false a) (Ob.csM false a).toNat) (g := fun a => Ob.rpM (Ob.item x 1) (Ob.item x 2) false a) (c := Ob.csM false) (fun a => (csM_it false a).1) Q [] (fun a _ => by
        have := (csM_it false a).1
        exact NdB.big (by omega) (by omega))
      rw [← csL_smL] at fl
      refine CoB_of (A := 799) (Eb := 799) (P := fun res => vQ res ≤ vQ (x :: l) + vQ Q) (NdB.bd (B := 0) (F := 0) fl (fun r hr => NdB.ret (Int.le_refl _) ?_) (by omega) (by omega) (by omega)) (NoT.bd (NoT.fills (fun _ => NoT.big) _ _) (fun _ => NoT.ret)) (fun res hres => by have := hres; omega) (by omega) s
      have vr0 := vQ_r (l.foldl Sp.putL r)
      by_cases z : vQ (l.foldl Sp.putL r) = 0
      · omega
      · have some1 : ∃ y, y ∈ l.foldl Sp.putL r ∧ Ob.quote ∈ Ob.ptM false y := by
          refine Classical.byContradiction (fun hn => z (vQ_0 (fun y hy q => hn ⟨y, hy, q⟩)))
        obtain ⟨y, hy, q⟩ := some1
        rcases foldl_putL_mem l r y hy with hy | hy
        · rcases hr y hy with hy | ⟨a, ha, e2⟩
          · cases hy
          · rw [e2] at q
            rcases q_rp false a q with q | q
            · have := vQ_1 ha q
              omega
            · have : Ob.quote ∈ Ob.ptM false x := by
                cases x with
                | var z => cases ce
                | op f b =>
                  have hf : f = Ob.equal := of_decide_eq_true ce
                  exact q_pr.mpr ⟨by rw [hf]; exact Ob.sym_ne (by decide), q_item b 1 q⟩
              have := vQ_1 (c := x :: l) List.mem_cons_self this
              omega
        · have := vQ_1 (c := x :: l) (List.mem_cons_of_mem _ hy) q
          omega
    · show CoB o [x :: l, Q] s ((if Ob.isCallOf x Ob.equal = true then Sp.bd (Sp.fills (fun a => Sp.big (Ob.rpM (Ob.item x 1) (Ob.item x 2) false a) (Ob.csM false a).toNat) Q []) fun y => Sp.ret (l.foldl Sp.putL y) else Sp.fail : Sp.M (List Ob)) s)
      rw [if_neg ce]
      exact CoB_of (A := 0) (Eb := 0) (P := fun _ => False) (NdB.fail (by decide)) NoT.fail (fun l hl => hl.elim) (by omega) s
/-- what an instance costs that may change all -/
theorem in_gen [DecidableEq Ob] {ps : List (Ob × Ob)} {P : List Ob} {b : Int} (hb : CbQ P) (ep : WPL (Sp.partsOf o) + b = WP o) (hbb : 934 ≤ b) (s : Sp.Wk) : CoB o [P] s (Sp.fills (Sp.fill (Ob.lkD ps)) P [] s) := by
  have cP := csL_799 hb
  have v1 := vQ_r P
  have e1 : sgL [P] = 401 + 135 * vQ P + 0 := rfl
  have el : (([P] : List (List Ob)).length : Int) = 1 := rfl
  have fl := rb_fills (f := Sp.fill (Ob.lkD ps)) (g := fun a => Ob.sbM (Ob.lkD ps) false a) (c := Ob.csM false) (fun a => (csM_it false a).1) P [] (fun a _ => NdB.fill (Int.le_refl _) (Int.le_refl _))
  rw [← csL_smL] at fl
  exact CoB_of (A := 799) (Eb := 799) (P := fun _ => True) (fl.le cP cP (fun _ _ => trivial)) (NoT.fills (fun _ => NoT.big) _ _) (fun l _ => by have := vQ_r l; omega) (by omega) s
/-- one that changes nothing -/
theorem in_same [DecidableEq Ob] {ps : List (Ob × Ob)} {P : List Ob} {b : Int} (ep : WPL (Sp.partsOf o) + b = WP o) (hbb : 135 ≤ b) (hi : ∀ a, a ∈ P → Ob.sbM (Ob.lkD ps) false a = a) (s : Sp.Wk) : CoB o [P] s (Sp.fills (Sp.fill (Ob.lkD ps)) P [] s) := by
  have v1 := vQ_r P
  have e1 : sgL [P] = 401 + 135 * vQ P + 0 := rfl
  have el : (([P] : List (List Ob)).length : Int) = 1 := rfl
  have fl := rb_fills (f := Sp.fill (Ob.lkD ps)) (g := fun a => Ob.sbM (Ob.lkD ps) false a) (c := fun _ => 0) (fun a => Int.le_refl _) P [] (fun a ha => NdB.fill0 (hi a ha) (Int.le_refl _) (Int.le_refl _))
  have z : ∀ l : List Ob, smL (fun _ => 0) l = 0 := by
    intro l
    induction l with
    | nil => rfl
    | cons a l ih => show (0 : Int) + smL (fun _ => 0) l = 0; omega
  rw [z] at fl
  exact CoB_of (A := 0) (Eb := 0) (P := fun _ => True) (fl.le (Int.le_refl _) (Int.le_refl _) (fun _ _ => trivial)) (NoT.fills (fun _ => NoT.big) _ _) (fun l _ => by have := vQ_r l; omega) (by omega) s
/-- the variable quote is filled in with something without it -/
theorem in_quote [DecidableEq Ob] {T : Ob} {P : List Ob} {b : Int} (hb : CbQ P) (ep : WPL (Sp.partsOf o) + b = WP o) (hbb : 664 ≤ b) (hT : Ob.quote ∉ Ob.ptM false T) (s : Sp.Wk) : CoB o [P] s (Sp.fills (Sp.fill (Ob.lkD [(Ob.quote, T)])) P [] s) := by
  have v1 := vQ_r P
  by_cases vz : vQ P = 0
  · refine in_same ep (by omega) (fun a ha => q_same (fun z hz => ?_) (vQ_not vz a ha)) s
    show ((if Ob.quote = z then some T else none) : Option Ob).getD z = z
    rw [if_neg (fun e => hz e.symm)]
    rfl
  · have cP := csL_799 hb
    have e1 : sgL [P] = 401 + 135 * vQ P + 0 := rfl
    have el : (([P] : List (List Ob)).length : Int) = 1 := rfl
    have fl := rb_fills (f := Sp.fill (Ob.lkD [(Ob.quote, T)])) (g := fun a => Ob.sbM (Ob.lkD [(Ob.quote, T)]) false a) (c := Ob.csM false) (fun a => (csM_it false a).1) P [] (fun a _ => NdB.fill (Int.le_refl _) (Int.le_refl _))
    rw [← csL_smL] at fl
    refine CoB_of (A := 799) (Eb := 799) (P := fun res => vQ res = 0) (fl.le cP cP (fun res hres => vQ_0 (fun y hy => ?_))) (NoT.fills (fun _ => NoT.big) _ _) (fun l hl => by omega) (by omega) s
    rcases hres y hy with q | ⟨a, _, e⟩
    · cases q
    · rw [e]
      refine q_sb (fun z hz => ?_) false a
      show Ob.quote ∉ Ob.ptM false (((if Ob.quote = z then some T else none) : Option Ob).getD z)
      by_cases c : Ob.quote = z
      · rw [if_pos c]; exact hT
      · rw [if_neg c]
        show Ob.quote ∉ Ob.ptM false z
        cases z with
        | var y =>
          intro h
          have h : Ob.quote ∈ [(.var y : Ob)] := h
          exact c (List.mem_singleton.mp h)
        | op p q => cases hz
end
