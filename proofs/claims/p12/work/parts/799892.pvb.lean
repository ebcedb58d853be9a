-- deps: 799891
/-! proving makes at most 117 nodes a STEP -/
theorem rb_nots [DecidableEq Ob] : ∀ l : List Ob, NdB (3 * (l.length : Int)) (3 * (l.length : Int)) (fun _ => True) (Sp.nots l)
  | [] => NdB.ret (by decide) trivial
  | a :: l => by
    have ih := rb_nots l
    have el : (((a :: l).length : Nat) : Int) = (l.length : Int) + 1 := by rw [List.length_cons]; omega
    rw [el]
    show NdB _ _ _ (Sp.bd (Sp.mkNot a) fun x => Sp.bd (Sp.pay 1) fun _ => Sp.bd (Sp.nots l) fun xs => Sp.ret (x :: xs))
    refine NdB.bd (A := 2) (E := 2) (B := 3 * (l.length : Int) + 1) (F := 3 * (l.length : Int) + 1) (NdB.not (by decide) (by decide)) (fun x _ => ?_) (by omega) (by omega) (by omega)
    refine NdB.bd (A := 1) (E := 0) (B := 3 * (l.length : Int)) (F := 3 * (l.length : Int)) (NdB.pay (by decide)) (fun _ _ => ?_) (by omega) (by omega) (by omega)
    exact NdB.bd (B := 0) (F := 0) ih (fun xs _ => NdB.ret (Int.le_refl _) trivial) (by omega) (by omega) (by omega)
theorem rb_bounded [DecidableEq Ob] {l : List Ob} : NdB 0 0 (fun x => x = l ∧ l.length ≤ 30 ∧ Sp.szL l ≤ 400) (Sp.bounded l) := by
  unfold Sp.bounded
  refine NdB.ite (fun h => NdB.ret (Int.le_refl _) ⟨rfl, ?_⟩) (fun _ => NdB.fail (Int.le_refl _))
  unfold Sp.bnd at h
  rw [Bool.and_eq_true, decide_eq_true_eq, decide_eq_true_eq] at h
  exact h
def OutOk [DecidableEq Ob] (x : Sp.Out) : Prop := match x with | none => True | some (.inl (a, b)) => a.1.length ≤ 30 ∧ b.1.length ≤ 30 | some (.inr (.inl d)) => d.1.length ≤ 30 | some (.inr (.inr d)) => d.1.length ≤ 30
theorem rb_split [DecidableEq Ob] {pre post : List Ob} {v : Ob} {n : Nat} : NdB 6 6 OutOk (Sp.splitC pre post v n) := by
  have kn : ∀ a, NdB 2 2 (fun _ => True) (Sp.mkNot a) := fun a => NdB.not (by decide) (by decide)
  unfold Sp.splitC
  refine NdB.bd (A := 2) (E := 2) (B := 4) (F := 4) (P := fun _ => True) (NdB.ite (fun _ => kn _) (fun _ => NdB.ret (by decide) trivial)) (fun b _ => ?_) (by decide) (by decide) (by decide)
  refine NdB.bd (A := 2) (E := 2) (B := 2) (F := 2) (P := fun _ => True) (NdB.ite (fun _ => kn _) (fun _ => NdB.ret (by decide) trivial)) (fun c _ => ?_) (by decide) (by decide) (by decide)
  refine NdB.bd (B := 0) (F := 0) (kn _) (fun a _ => ?_) (by decide) (by decide) (by decide)
  refine NdB.bd (B := 0) (F := 0) rb_bounded (fun x hx => ?_) (by decide) (by decide) (by decide)
  refine NdB.bd (B := 0) (F := 0) rb_bounded (fun y hy => NdB.ret (Int.le_refl _) ?_) (by decide) (by decide) (by decide)
  refine ⟨?_, ?_⟩
  · show x.length ≤ 30
    rw [hx.1]; exact hx.2.1
  · show y.length ≤ 30
    rw [hy.1]; exact hy.2.1
theorem rb_round [DecidableEq Ob] {E : Sp.Env} (hE : EnF E) (k : Nat) : ∀ (n : Nat) (pre post : List Ob) (ch : Bool), pre.length + post.length ≤ 30 → NdB 0 110 OutOk (Sp.roundGo E k n pre post ch)
  | n, pre, [], ch, h => by
    have h : pre.length ≤ 30 := by rw [List.length_nil] at h; omega
    unfold Sp.roundGo
    exact NdB.ite (fun _ => NdB.ret (Int.le_refl _) h) (fun _ => NdB.ite (fun _ => NdB.fail (by decide)) (fun _ => NdB.ret (Int.le_refl _) h))
  | 0, pre, x :: post, ch, h => by
    unfold Sp.roundGo
    exact NdB.fail (by decide)
  | n + 1, pre, x :: post, ch, h => by
    rw [List.length_cons] at h
    have hl : ((pre ++ post).length : Int) ≤ 29 := by rw [List.length_append]; omega
    have l0 : (0 : Int) ≤ ((pre ++ post).length : Int) := by omega
    have hk : pre.length + post.length ≤ 30 := by omega
    have ih := rb_round hE k n
    have keep : ∀ (pre' post' : List Ob) (ch' : Bool), pre'.length + post'.length ≤ 30 → NdB 6 110 OutOk (Sp.roundGo E k n pre' post' ch') := fun a b c q => (ih a b c q).le (by decide) (by decide) (fun _ h => h)
    show NdB 0 110 OutOk (Sp.bd (Sp.nots (pre ++ post)) fun ctx => Sp.bd (Sp.rw E 60 ctx x true) fun v =>
      if v = Ob.t then Sp.ret none
      else if Sp.splits v then Sp.splitC pre post v k
      else if v = Ob.nil then Sp.roundGo E k n pre post true
      else if v = x then Sp.roundGo E k n (pre ++ [x]) post ch
      else if Ob.has pre v then Sp.roundGo E k n pre post true
      else Sp.roundGo E k n (pre ++ [v]) (post.filter (· ≠ v)) true)
    refine NdB.bd (B := -87) (F := 23) (rb_nots _) (fun ctx _ => ?_) (by omega) (by omega) (by omega)
    have c0 := cm_r x
    refine NdB.bd (B := 6) (F := 110) (rb_rw hE 60 ctx x true) (fun v _ => ?_) (by omega) (by omega) (by omega)
    refine NdB.ite (fun _ => NdB.ret (by decide) trivial) (fun _ => NdB.ite (fun _ => rb_split.le (by decide) (by decide) (fun _ h => h)) (fun _ => NdB.ite (fun _ => keep _ _ _ hk) (fun _ => NdB.ite (fun _ => keep _ _ _ ?_) (fun _ => NdB.ite (fun _ => keep _ _ _ hk) (fun _ => keep _ _ _ ?_)))))
    · rw [List.length_append]
      show pre.length + [x].length + post.length ≤ 30
      rw [List.length_singleton]
      omega
    · have := List.length_filter_le (fun y => decide (y ≠ v)) post
      rw [List.length_append]
      show pre.length + [v].length + (post.filter (fun y => decide (y ≠ v))).length ≤ 30
      rw [List.length_singleton]
      omega
/-- what is TO PROVE, after some STEPS -/
def PvB [DecidableEq Ob] (s0 : Sp.Wk) (p : Sp.Pv) : Prop := (∀ c, c ∈ p.1 → c.1.length ≤ 30) ∧ p.2.2.1 ≤ s0.1 ∧ (p.2.2.2 : Int) ≤ (s0.2 : Int) + 117 * ((s0.1 : Int) - (p.2.2.1 : Int))
theorem pvB_step [DecidableEq Ob] {E : Sp.Env} (hE : EnF E) {s0 : Sp.Wk} {p : Sp.Pv} (h : PvB s0 p) : (∀ q, Sp.pvStep E p = .inl q → PvB s0 q) ∧ ∀ r, Sp.pvStep E p = .inr r → r.2.1 ≤ s0.1 ∧ (r.2.2 : Int) ≤ (s0.2 : Int) + 117 * ((s0.1 : Int) - (r.2.1 : Int)) + 110 := by
  obtain ⟨ws, ls, s⟩ := p
  obtain ⟨h1, h2, h3⟩ := h
  have h1 : ∀ c, c ∈ ws → c.1.length ≤ 30 := h1
  have h2 : s.1 ≤ s0.1 := h2
  have h3 : (s.2 : Int) ≤ (s0.2 : Int) + 117 * ((s0.1 : Int) - (s.1 : Int)) := h3
  have fin : ∀ (l : Option (List Sp.Cla)) (r : Option (List Sp.Cla) × Sp.Wk), (Sum.inr (l, s) : Sp.Pv ⊕ (Option (List Sp.Cla) × Sp.Wk)) = .inr r → r.2.1 ≤ s0.1 ∧ (r.2.2 : Int) ≤ (s0.2 : Int) + 117 * ((s0.1 : Int) - (r.2.1 : Int)) + 110 := fun l r e => by
    cases e
    exact ⟨h2, by show (s.2 : Int) ≤ (s0.2 : Int) + 117 * ((s0.1 : Int) - (s.1 : Int)) + 110; omega⟩
  cases ws with
  | nil => exact ⟨fun q e => (by cases e), fun r e => fin (some ls) r e⟩
  | cons c ws =>
    have hw : ∀ d, d ∈ ws → d.1.length ≤ 30 := fun d hd => h1 d (List.mem_cons_of_mem _ hd)
    have hc := h1 c List.mem_cons_self
    by_cases c20 : 20 ≤ ls.length
    · rw [pv_full c20]
      exact ⟨fun q e => (by cases e), fun r e => fin _ r e⟩
    · cases hp : Sp.plainC c.1 with
      | true =>
        rw [pv_plain c20 hp]
        refine ⟨fun q e => ?_, fun r e => (by cases e)⟩
        cases e
        exact ⟨hw, h2, h3⟩
      | false =>
        by_cases h6 : c.2 = 6
        · rw [pv_leave c20 hp h6]
          refine ⟨fun q e => ?_, fun r e => (by cases e)⟩
          cases e
          exact ⟨hw, h2, h3⟩
        · rw [pv_round c20 hp h6]
          have b := rb_round hE c.2 31 [] c.1 false (by show 0 + c.1.length ≤ 30; omega) s
          unfold NdBr at b
          split at b
          · next a s' e =>
            try rw [e]
            obtain ⟨b1, b2, b3⟩ := b
            have g : ∀ ws' ls' : List Sp.Cla, (∀ d, d ∈ ws' → d.1.length ≤ 30) → PvB s0 (ws', ls', s') := fun ws' ls' hh => ⟨hh, by show s'.1 ≤ s0.1; omega, by show (s'.2 : Int) ≤ (s0.2 : Int) + 117 * ((s0.1 : Int) - (s'.1 : Int)); omega⟩
            refine ⟨fun q e2 => ?_, fun r e2 => ?_⟩
            · match a, b1, e2 with
              | none, _, e2 => cases e2; exact g _ _ hw
              | some (.inl (x, y)), b1, e2 =>
                cases e2
                refine g _ _ (fun d hd => ?_)
                rcases List.mem_cons.mp hd with q | hd
                · rw [q]; exact b1.1
                · rcases List.mem_cons.mp hd with q | hd
                  · rw [q]; exact b1.2
                  · exact hw d hd
              | some (.inr (.inl x)), _, e2 => cases e2; exact g _ _ hw
              | some (.inr (.inr x)), b1, e2 =>
                cases e2
                refine g _ _ (fun d hd => ?_)
                rcases List.mem_cons.mp hd with q | hd
                · rw [q]; exact b1
                · exact hw d hd
            · match a, e2 with
              | none, e2 => cases e2
              | some (.inl (x, y)), e2 => cases e2
              | some (.inr (.inl x)), e2 => cases e2
              | some (.inr (.inr x)), e2 => cases e2
          · next a s' e =>
            try rw [e]
            refine ⟨fun q e2 => (by cases e2), fun r e2 => ?_⟩
            cases e2
            exact ⟨by show s'.1 ≤ s0.1; have := b.1; omega, by show (s'.2 : Int) ≤ (s0.2 : Int) + 117 * ((s0.1 : Int) - (s'.1 : Int)) + 110; have := b.1; have := b.2; omega⟩
theorem pvB_it [DecidableEq Ob] {E : Sp.Env} (hE : EnF E) {s0 : Sp.Wk} : ∀ (n : Nat) (p q : Sp.Pv), PvB s0 p → Sp.pvIt E n p = some q → PvB s0 q
  | 0, p, q, h, e => by
    have e : some p = some q := e
    rw [← Option.some.inj e]; exact h
  | n + 1, p, q, h, e => by
    have e : (match Sp.pvStep E p with | .inl p' => Sp.pvIt E n p' | .inr _ => none) = some q := e
    cases e2 : Sp.pvStep E p with
    | inl p' => rw [e2] at e; exact pvB_it hE n p' q ((pvB_step hE h).1 p' e2) e
    | inr r => rw [e2] at e; cases e
theorem pvB_run [DecidableEq Ob] {E : Sp.Env} (hE : EnF E) {s0 : Sp.Wk} : ∀ (n : Nat) (p : Sp.Pv) (r : Option (List Sp.Cla) × Sp.Wk), PvB s0 p → Sp.pvRun E n p = some r → r.2.1 ≤ s0.1 ∧ (r.2.2 : Int) ≤ (s0.2 : Int) + 117 * ((s0.1 : Int) - (r.2.1 : Int)) + 110
  | 0, _, _, _, e => by cases e
  | n + 1, p, r, h, e => by
    have e : (match Sp.pvStep E p with | .inl q => Sp.pvRun E n q | .inr r => some r) = some r := e
    cases e2 : Sp.pvStep E p with
    | inl p' => rw [e2] at e; exact pvB_run hE n p' r ((pvB_step hE h).1 p' e2) e
    | inr r' =>
      rw [e2] at e
      rw [← Option.some.inj e]
      exact (pvB_step hE h).2 r' e2
theorem fitP_of [DecidableEq Ob] {E : Sp.Env} (hE : EnF E) {B : Int} {cl : List Sp.Cla} {s0 : Sp.Wk} (hl : ∀ c, c ∈ cl → c.1.length ≤ 30) (hB : B + (s0.2 : Int) + 117 * (s0.1 : Int) + 750 ≤ 160000) : FitP B E cl s0 := by
  have h0 : PvB s0 (cl, [], s0) := ⟨hl, Nat.le_refl _, by show (s0.2 : Int) ≤ (s0.2 : Int) + 117 * ((s0.1 : Int) - (s0.1 : Int)); omega⟩
  refine ⟨fun c ws ls s hR => ?_, fun l s' he => ?_⟩
  · obtain ⟨n, hn⟩ := hR
    obtain ⟨q1, q2, q3⟩ := pvB_it hE n _ _ h0 hn
    have q2 : s.1 ≤ s0.1 := q2
    have q3 : (s.2 : Int) ≤ (s0.2 : Int) + 117 * ((s0.1 : Int) - (s.1 : Int)) := q3
    have hc := q1 c List.mem_cons_self
    have b := rb_round hE c.2 31 [] c.1 false (by show 0 + c.1.length ≤ 30; omega) s
    unfold NdBr at b
    unfold Fit cntR
    split at b
    · next a s' e =>
      try rw [e]
      show B + 16 + (s'.2 : Int) ≤ 160000
      have := b.2.1
      have := b.2.2
      omega
    · next a s' e =>
      try rw [e]
      show B + 16 + (s'.2 : Int) ≤ 160000
      have := b.1
      have := b.2
      omega
  · obtain ⟨n, hn⟩ := he
    have q := pvB_run hE n _ _ h0 hn
    have q1 : s'.1 ≤ s0.1 := q.1
    have q2 : (s'.2 : Int) ≤ (s0.2 : Int) + 117 * ((s0.1 : Int) - (s'.1 : Int)) + 110 := q.2
    omega
