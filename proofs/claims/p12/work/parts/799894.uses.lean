-- deps: 799893
/-! what uses make at most -/
theorem putL_sub [DecidableEq Ob] {l : List Ob} {y x : Ob} (h : x ∈ l) : x ∈ Sp.putL l y := by
  unfold Sp.putL
  split
  · exact h
  · exact List.mem_append_left _ h
theorem putL_mem [DecidableEq Ob] (l : List Ob) (y : Ob) : y ∈ Sp.putL l y := by
  unfold Sp.putL
  split
  · next h => exact Ob.has_iff.mp h
  · exact List.mem_append_right _ List.mem_cons_self
theorem putL_sz [DecidableEq Ob] (l : List Ob) (y : Ob) : Sp.szL l ≤ Sp.szL (Sp.putL l y) := by
  unfold Sp.putL
  split
  · exact Int.le_refl _
  · rw [szL_app]
    have : 0 ≤ y.sz := (Ob.szM_pos false y).1
    show Sp.szL l ≤ Sp.szL l + (y.sz + 0)
    omega
/-- what comes of uses -/
def UsB [DecidableEq Ob] (us : List (Ob × List (Ob × Ob))) (l xs : List Ob) (s : Sp.Wk) (R : EStateM.Result Unit Sp.Wk (List Ob)) : Prop :=
  match R with
  | .ok l' s' => (s'.1 = s.1 ∧ (s'.2 : Int) ≤ (s.2 : Int) + 241 * (us.length : Int)) ∧ (∀ x, x ∈ l → x ∈ l') ∧ Sp.szL l ≤ Sp.szL l' ∧ ∃ ys : List Ob, ys.Nodup ∧ (∀ y, y ∈ ys → y ∉ xs ∧ ngN y ∈ l' ∧ ∃ p, p ∈ us ∧ y = Ob.sbM (Ob.lkD p.2) false p.1) ∧ (s'.2 : Int) ≤ (s.2 : Int) + csL ys + 2 * (us.length : Int)
  | .error _ s' => s'.1 = s.1 ∧ (s'.2 : Int) ≤ (s.2 : Int) + 241 * (us.length : Int)
theorem uses_b [DecidableEq Ob] : ∀ (us : List (Ob × List (Ob × Ob))) (l xs : List Ob) (s : Sp.Wk), (∀ p, p ∈ us → Ob.csM false p.1 ≤ 239) → UsB us l xs s (Sp.usesGo us l xs s)
  | [], l, xs, s, _ => ⟨⟨rfl, by
      show (s.2 : Int) ≤ (s.2 : Int) + 241 * ((0 : Nat) : Int)
      omega⟩, fun _ h => h, Int.le_refl _, [], List.nodup_nil, (fun y hy => by cases hy), by
      show (s.2 : Int) ≤ (s.2 : Int) + 0 + 2 * ((0 : Nat) : Int)
      omega⟩
  | (F, ps) :: us, l, xs, s, hc => by
    have c0 := (csM_it false F).1
    have cF : Ob.csM false F ≤ 239 := hc (F, ps) List.mem_cons_self
    have hu : (((F, ps) :: us).length : Int) = (us.length : Int) + 1 := by rw [List.length_cons]; omega
    show UsB ((F, ps) :: us) l xs s (Sp.bd (Sp.fillU xs (Ob.lkD ps) F) (fun x => Sp.bd (Sp.mkNot x) fun y => Sp.usesGo us (Sp.putL l y) (x :: xs)) s)
    generalize hT : Ob.sbM (Ob.lkD ps) false F = T
    obtain ⟨n, hn⟩ : ∃ n : Nat, n = if T = F ∨ Ob.has xs T = true then 0 else (Ob.csM false F).toNat := ⟨_, rfl⟩
    have n1 : (n : Int) ≤ Ob.csM false F := by rw [hn]; split <;> omega
    have ef : Sp.fillU xs (Ob.lkD ps) F = Sp.big T n := by
      unfold Sp.fillU
      rw [hT, ← hn]
    rw [ef]
    by_cases cz : 120 < T.sz
    · have e : Sp.bd (Sp.big T n) (fun x => Sp.bd (Sp.mkNot x) fun y => Sp.usesGo us (Sp.putL l y) (x :: xs)) s = .error () (s.1, s.2 + n) := by
        unfold Sp.bd
        rw [big_err cz]
      try rw [e]
      refine ⟨rfl, ?_⟩
      show ((s.2 + n : Nat) : Int) ≤ _
      omega
    · rw [bind_ok (big_ok (n := n) (s := s) (show T.sz ≤ 120 by omega))]
      have qn := rb_not T (s.1, s.2 + n)
      unfold NdBr at qn
      split at qn
      · next y s1 e1 =>
        obtain ⟨q1, q2, q3⟩ := qn
        have q2 : s1.1 ≤ s.1 := q2
        have q3 : (s1.2 : Int) ≤ ((s.2 + n : Nat) : Int) + 117 * ((s.1 : Int) - (s1.1 : Int)) + 2 := q3
        have t1 : s1.1 = s.1 := by
          have nt := (NoT.not (o := T) (s.1, s.2 + n)).1
          rw [e1] at nt
          exact nt
        rw [bind_ok e1]
        have ih := uses_b us (Sp.putL l y) (T :: xs) s1 (fun p hp => hc p (List.mem_cons_of_mem _ hp))
        unfold UsB at ih ⊢
        split at ih
        · next l' s' e2 =>
          obtain ⟨⟨i1, i1'⟩, i2, i3, ys, i4, i5, i6⟩ := ih
          try rw [e2]
          have psz := putL_sz l y
          refine ⟨⟨by omega, by omega⟩, fun x hx => i2 x (putL_sub hx), by omega, ?_⟩
          by_cases cc : T = F ∨ Ob.has xs T = true
          · have n0 : n = 0 := by rw [hn, if_pos cc]
            refine ⟨ys, i4, fun z hz => ?_, by omega⟩
            obtain ⟨j1, j2, p, j3, j4⟩ := i5 z hz
            exact ⟨fun q => j1 (List.mem_cons_of_mem _ q), j2, p, List.mem_cons_of_mem _ j3, j4⟩
          · have hx : T ∉ xs := fun q => cc (Or.inr (Ob.has_iff.mpr q))
            have cT : Ob.csM false F ≤ Ob.csM false T := by rw [← hT]; exact csM_sb (Ob.lkD ps) false F
            refine ⟨T :: ys, ?_, fun z hz => ?_, ?_⟩
            · rw [List.nodup_cons]
              exact ⟨fun q => (i5 T q).1 List.mem_cons_self, i4⟩
            · rcases List.mem_cons.mp hz with q | q
              · rw [q]
                refine ⟨hx, i2 _ ?_, (F, ps), List.mem_cons_self, hT.symm⟩
                rw [← q1]; exact putL_mem l y
              · obtain ⟨j1, j2, p, j3, j4⟩ := i5 z q
                exact ⟨fun q => j1 (List.mem_cons_of_mem _ q), j2, p, List.mem_cons_of_mem _ j3, j4⟩
            · show _ ≤ (s.2 : Int) + (Ob.csM false T + csL ys) + 2 * _
              omega
        · next x s' e2 =>
          try rw [e2]
          exact ⟨by omega, by omega⟩
      · next x s1 e1 =>
        obtain ⟨q2, q3⟩ := qn
        have q2 : s1.1 ≤ s.1 := q2
        have q3 : (s1.2 : Int) ≤ ((s.2 + n : Nat) : Int) + 117 * ((s.1 : Int) - (s1.1 : Int)) + 2 := q3
        have t1 : s1.1 = s.1 := by
          have nt := (NoT.not (o := T) (s.1, s.2 + n)).1
          rw [e1] at nt
          exact nt
        have e : Sp.bd (Sp.mkNot T) (fun y => Sp.usesGo us (Sp.putL l y) (T :: xs)) (s.1, s.2 + n) = .error x s1 := by
          unfold Sp.bd
          rw [e1]
        try rw [e]
        exact ⟨t1, by omega⟩
/-! rulers, hypotheses, rows -/
def rlC [DecidableEq Ob] : List (Ob × Bool) → Int | [] => 0 | q :: l => Ob.csM false q.1 + 4 + rlC l
theorem rlC_pos [DecidableEq Ob] : ∀ l : List (Ob × Bool), 0 ≤ rlC l
  | [] => Int.le_refl _
  | q :: l => by
    have h1 := (csM_it false q.1).1
    have h2 := rlC_pos l
    show 0 ≤ Ob.csM false q.1 + 4 + rlC l
    omega
theorem rb_rulers [DecidableEq Ob] {σ : Ob → Ob} : ∀ (ps : List (Ob × Bool)) (l : List Ob), NdB (rlC ps) (rlC ps) (fun l' => Sp.szL l ≤ Sp.szL l') (Sp.rulersGo σ ps l)
  | [], l => NdB.ret (Int.le_refl _) (Int.le_refl _)
  | (q, third) :: ps, l => by
    have p0 := rlC_pos ps
    have c0 := (csM_it false q).1
    show NdB (Ob.csM false q + 4 + rlC ps) (Ob.csM false q + 4 + rlC ps) _ (Sp.bd (Sp.fill σ q) fun x => Sp.bd ((if third then Sp.mkNot x else Sp.ret x)) fun r => Sp.bd (Sp.mkNot r) fun y => Sp.rulersGo σ ps (Sp.putL l y))
    refine NdB.bd (B := 4 + rlC ps) (F := 4 + rlC ps) (NdB.fill (Int.le_refl _) (Int.le_refl _)) (fun x _ => ?_) (by omega) (by omega) (by omega)
    refine NdB.bd (A := 2) (E := 2) (P := fun _ => True) (B := 2 + rlC ps) (F := 2 + rlC ps) (NdB.ite (fun _ => NdB.not (by decide) (by decide)) (fun _ => NdB.ret (by decide) trivial)) (fun r _ => ?_) (by omega) (by omega) (by omega)
    refine NdB.bd (A := 2) (E := 2) (B := rlC ps) (F := rlC ps) (NdB.not (by decide) (by decide)) (fun y _ => ?_) (by omega) (by omega) (by omega)
    exact (rb_rulers ps (Sp.putL l y)).le (Int.le_refl _) (Int.le_refl _) (fun l' h => by have := putL_sz l y; omega)
/-- rulers as they are cost negations alone -/
theorem rb_rulersI [DecidableEq Ob] : ∀ (ps : List (Ob × Bool)) (l : List Ob), NdB (4 * (ps.length : Int)) (4 * (ps.length : Int)) (fun _ => True) (Sp.rulersGo (fun x => x) ps l)
  | [], l => NdB.ret (by decide) trivial
  | (q, third) :: ps, l => by
    have el : ((((q, third) :: ps).length : Nat) : Int) = (ps.length : Int) + 1 := by rw [List.length_cons]; omega
    rw [el]
    show NdB _ _ _ (Sp.bd (Sp.fill (fun x => x) q) fun x => Sp.bd ((if third then Sp.mkNot x else Sp.ret x)) fun r => Sp.bd (Sp.mkNot r) fun y => Sp.rulersGo (fun x => x) ps (Sp.putL l y))
    refine NdB.bd (A := 0) (E := 0) (B := 4 * ((ps.length : Int) + 1)) (F := 4 * ((ps.length : Int) + 1)) (NdB.fill0 (sb_id false q) (Int.le_refl _) (Int.le_refl _)) (fun x _ => ?_) (by omega) (by omega) (by omega)
    refine NdB.bd (A := 2) (E := 2) (P := fun _ => True) (B := 4 * (ps.length : Int) + 2) (F := 4 * (ps.length : Int) + 2) (NdB.ite (fun _ => NdB.not (by decide) (by decide)) (fun _ => NdB.ret (by decide) trivial)) (fun r _ => ?_) (by omega) (by omega) (by omega)
    exact NdB.bd (A := 2) (E := 2) (B := 4 * (ps.length : Int)) (F := 4 * (ps.length : Int)) (NdB.not (by decide) (by decide)) (fun y _ => rb_rulersI ps (Sp.putL l y)) (by omega) (by omega) (by omega)
theorem rb_fillArgs [DecidableEq Ob] {σ : Ob → Ob} : ∀ l : List Ob, NdB (csL l) (csL l) (fun _ => True) (Sp.rwArgs (fun a => Sp.fill σ a) l)
  | [] => NdB.ret (Int.le_refl _) trivial
  | a :: l => by
    have c0 := (csM_it false a).1
    have l0 := csL_pos l
    show NdB (Ob.csM false a + csL l) (Ob.csM false a + csL l) _ (Sp.bd (Sp.fill σ a) fun v => Sp.bd (Sp.rwArgs (fun a => Sp.fill σ a) l) fun vs => Sp.ret (v :: vs))
    refine NdB.bd (B := csL l) (F := csL l) (NdB.fill (Int.le_refl _) (Int.le_refl _)) (fun v _ => ?_) (by omega) (by omega) (by omega)
    exact NdB.bd (B := 0) (F := 0) (rb_fillArgs l) (fun vs _ => NdB.ret (Int.le_refl _) trivial) (by omega) (by omega) (by omega)
/-- what the hypotheses of calls cost; F: for each -/
def hyC [DecidableEq Ob] (f : Int) : List Ob → Int | [] => 0 | c :: cs => csL (Ob.toList (Ob.rgt c)) + f + 2 + hyC f cs
theorem hyC_pos [DecidableEq Ob] {f : Int} (hf : 0 ≤ f) : ∀ l : List Ob, 0 ≤ hyC f l
  | [] => Int.le_refl _
  | c :: cs => by
    have h1 := csL_pos (Ob.toList (Ob.rgt c))
    have h2 := hyC_pos hf cs
    show 0 ≤ csL (Ob.toList (Ob.rgt c)) + f + 2 + hyC f cs
    omega
theorem rb_hypsGo [DecidableEq Ob] {D : Sp.Dfn} {vs : List Ob} {F : Ob} {f : Int} (f0 : 0 ≤ f) (hf : vs ≠ [] → Ob.csM false F ≤ f) : ∀ (cs l : List Ob), NdB (hyC f cs) (hyC f cs) (fun l' => Sp.szL l ≤ Sp.szL l') (Sp.hypsGo D vs F cs l)
  | [], l => NdB.ret (Int.le_refl _) (Int.le_refl _)
  | c :: cs, l => by
    have a0 := csL_pos (Ob.toList (Ob.rgt c))
    have h0 := hyC_pos f0 cs
    show NdB (csL (Ob.toList (Ob.rgt c)) + f + 2 + hyC f cs) (csL (Ob.toList (Ob.rgt c)) + f + 2 + hyC f cs) _ (Sp.bd (Sp.rwArgs (fun a => Sp.fill (Ob.lkD (D.params.zip vs)) a) (Ob.toList (Ob.rgt c))) fun as => Sp.bd (Sp.fill (Ob.lkD (vs.zip as)) F) fun x => Sp.bd (Sp.mkNot x) fun y => Sp.hypsGo D vs F cs (Sp.putL l y))
    refine NdB.bd (B := f + 2 + hyC f cs) (F := f + 2 + hyC f cs) (rb_fillArgs _) (fun as _ => ?_) (by omega) (by omega) (by omega)
    refine NdB.bd (A := f) (E := f) (P := fun _ => True) (B := 2 + hyC f cs) (F := 2 + hyC f cs) ?_ (fun x _ => ?_) (by omega) (by omega) (by omega)
    · by_cases c0 : vs = []
      · refine (NdB.fill0 ?_ f0 f0).le (Int.le_refl _) (Int.le_refl _) (fun _ _ => trivial)
        rw [c0, List.zip_nil_left]
        exact sb_id false F
      · exact (NdB.fill (hf c0) (hf c0)).le (Int.le_refl _) (Int.le_refl _) (fun _ _ => trivial)
    · refine NdB.bd (A := 2) (E := 2) (B := hyC f cs) (F := hyC f cs) (NdB.not (by decide) (by decide)) (fun y _ => ?_) (by omega) (by omega) (by omega)
      exact (rb_hypsGo f0 hf cs (Sp.putL l y)).le (Int.le_refl _) (Int.le_refl _) (fun l' h => by have := putL_sz l y; omega)
theorem rb_indRow [DecidableEq Ob] {D : Sp.Dfn} {vs : List Ob} {F : Ob} {f : Int} (f0 : 0 ≤ f) (hf : vs ≠ [] → Ob.csM false F ≤ f) (p : List (Ob × Bool) × Ob) (l : List Ob) : NdB (rlC p.1 + hyC f (Sp.callsIn p.2 D.name)) (rlC p.1 + hyC f (Sp.callsIn p.2 D.name)) (fun l' => l'.length ≤ 30 ∧ Sp.szL l ≤ 400) (Sp.indRow D vs F p l) := by
  have r0 := rlC_pos p.1
  have h0 := hyC_pos f0 (Sp.callsIn p.2 D.name)
  unfold Sp.indRow
  refine NdB.bd (B := hyC f (Sp.callsIn p.2 D.name)) (F := hyC f (Sp.callsIn p.2 D.name)) (rb_rulers p.1 l) (fun l1 h1 => ?_) (by omega) (by omega) (by omega)
  refine NdB.bd (B := 0) (F := 0) (rb_hypsGo f0 hf _ l1) (fun l2 h2 => ?_) (by omega) (by omega) (by omega)
  refine rb_bounded.le (Int.le_refl _) (Int.le_refl _) (fun x hx => ?_)
  have := putL_sz l2 F
  refine ⟨by rw [hx.1]; exact hx.2.1, ?_⟩
  have := hx.2.2
  omega
def rwsC [DecidableEq Ob] (f : Int) (n : Ob) : List (List (Ob × Bool) × Ob) → Int | [] => 0 | p :: L => rlC p.1 + hyC f (Sp.callsIn p.2 n) + rwsC f n L
theorem rwsC_pos [DecidableEq Ob] {f : Int} (hf : 0 ≤ f) {n : Ob} : ∀ L : List (List (Ob × Bool) × Ob), 0 ≤ rwsC f n L
  | [] => Int.le_refl _
  | p :: L => by
    have h1 := rlC_pos p.1
    have h2 := hyC_pos hf (Sp.callsIn p.2 n)
    have h3 := rwsC_pos hf (n := n) L
    show 0 ≤ rlC p.1 + hyC f (Sp.callsIn p.2 n) + rwsC f n L
    omega
theorem rb_indAll [DecidableEq Ob] {D : Sp.Dfn} {vs : List Ob} {F : Ob} {f : Int} (f0 : 0 ≤ f) (hf : vs ≠ [] → Ob.csM false F ≤ f) (us : List Ob) : ∀ L : List (List (Ob × Bool) × Ob), NdB (rwsC f D.name L) (rwsC f D.name L) (fun cl => (∀ c, c ∈ cl → c.1.length ≤ 30) ∧ (L ≠ [] → Sp.szL us ≤ 400)) (Sp.indAll D vs F us L)
  | [] => NdB.ret (Int.le_refl _) ⟨fun c hc => (by cases hc), fun h => absurd rfl h⟩
  | p :: L => by
    have w0 := rwsC_pos f0 (n := D.name) L
    have h1 := rlC_pos p.1
    have h2 := hyC_pos f0 (Sp.callsIn p.2 D.name)
    show NdB (rlC p.1 + hyC f (Sp.callsIn p.2 D.name) + rwsC f D.name L) (rlC p.1 + hyC f (Sp.callsIn p.2 D.name) + rwsC f D.name L) _ (Sp.bd (Sp.indRow D vs F p us) fun l => Sp.bd (Sp.indAll D vs F us L) fun cl => Sp.ret ((l, 0) :: cl))
    refine NdB.bd (B := rwsC f D.name L) (F := rwsC f D.name L) (rb_indRow f0 hf p us) (fun l hl => ?_) (by omega) (by omega) (by omega)
    refine NdB.bd (B := 0) (F := 0) (rb_indAll f0 hf us L) (fun cl hcl => NdB.ret (Int.le_refl _) ⟨fun c hc => ?_, fun _ => hl.2⟩) (by omega) (by omega) (by omega)
    rcases List.mem_cons.mp hc with q | q
    · rw [q]; exact hl.1
    · exact hcl.1 c q
