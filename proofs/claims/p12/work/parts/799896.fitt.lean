-- deps: 799895
/-! rules, definitions: what they cost -/
theorem csL_szL [DecidableEq Ob] : ∀ l : List Ob, csL l ≤ 2 * Sp.szL l
  | [] => Int.le_refl _
  | a :: l => by
    have h1 := csM_le a
    have h2 := csL_szL l
    show Ob.csM false a + csL l ≤ 2 * (a.sz + Sp.szL l)
    omega
theorem hypIn_b [DecidableEq Ob] {E : Sp.Env} : ∀ (n : Nat) (o : Ob), SizeOf.sizeOf o < n → Ob.wt (Sp.arOf E) o → Sp.szL (Sp.hypIn o) ≤ o.sz
  | 0, _, h, _ => by omega
  | n + 1, o, h, w => by
    by_cases c : o.isCallOf Ob.ifS = true ∧ o.item 3 = Ob.nil
    · obtain ⟨a, b, d, e, wa, wb, wd⟩ := Ob.wt_three w c.1 ifS_q (arOf_ifS E)
      have hd : d = Ob.nil := by have := c.2; rw [e] at this; exact this
      rw [e, hd] at h ⊢
      have i1 := hypIn_b n a (by simp at h; omega) wa
      have i2 := hypIn_b n b (by simp at h; omega) wb
      rw [hypIn_if, sz_if, szL_app]
      have := Ob.sz_pos Ob.nil
      omega
    · rw [hypIn_no c]
      show o.sz + 0 ≤ o.sz
      omega
theorem ruleGo_b [DecidableEq Ob] {E : Sp.Env} : ∀ (n : Nat) (o : Ob) (l : List Ob), SizeOf.sizeOf o < n → Ob.wt (Sp.arOf E) o → Sp.szL (Sp.ruleGo o l).1 + (Sp.ruleGo o l).2.sz ≤ Sp.szL l + o.sz ∧ Ob.wt (Sp.arOf E) (Sp.ruleGo o l).2
  | 0, _, _, h, _ => by omega
  | n + 1, o, l, h, w => by
    by_cases c : o.isCallOf Ob.implies = true
    · obtain ⟨a, b, e, wa, wb⟩ := Ob.wt_two w c implies_q (arOf_implies E)
      rw [e] at h ⊢
      have i1 := hypIn_b (SizeOf.sizeOf a + 1) a (Nat.lt_succ_self _) wa
      have i2 := ruleGo_b n b (l ++ Sp.hypIn a) (by simp at h; omega) wb
      rw [ruleGo_imp, sz_two implies_q]
      rw [szL_app] at i2
      exact ⟨by omega, i2.2⟩
    · rw [ruleGo_no l (by simpa using c)]
      exact ⟨Int.le_refl _, w⟩
theorem turns_sz [DecidableEq Ob] {ar : Ob → Int} {l r : Ob} (hl : Ob.wt ar l) (hr : Ob.wt ar r) (h : Sp.turns l r = true) : r.sz = l.sz := by
  obtain ⟨s, hg, e⟩ := (turns_iff hl hr).mp h
  obtain ⟨g1, _⟩ := hg (by decide)
  have e2 : Ob.sbM s false l = Ob.sbM (fun x => if Ob.isVar (s x) = true then s x else x) false l := sb_congr false l (fun x hx => by
    show s x = if Ob.isVar (s x) = true then s x else x
    rw [if_pos (g1 x hx)])
  have := sz_sb (s := fun x => if Ob.isVar (s x) = true then s x else x) (fun x hx => by
    show (if Ob.isVar (s x) = true then s x else x).isPr = false
    split
    · next q => exact isVar_leaf q
    · exact isVar_leaf hx) false l
  rw [← e2, e] at this
  exact this
theorem ruleAt_all [DecidableEq Ob] {h : List Ob} {e n : Bool} {l r : Ob} {R : Sp.Rul} (hh : Sp.ruleAt h e n l r = some R) : R.lhs = l ∧ R.rhs = r ∧ R.hyps = h ∧ R.perm = Sp.turns l r := by
  unfold Sp.ruleAt at hh
  split at hh
  · rw [← Option.some.inj hh]; exact ⟨rfl, rfl, rfl, rfl⟩
  · cases hh
theorem ruleOf_rf [DecidableEq Ob] {E : Sp.Env} {F : Ob} {R : Sp.Rul} (w : Ob.wt (Sp.arOf E) F) (hz : F.sz ≤ 120) (h : Sp.ruleOf F = some R) : RF R := by
  obtain ⟨g1, g2⟩ := ruleGo_b (SizeOf.sizeOf F + 1) F [] (Nat.lt_succ_self _) w
  unfold Sp.ruleOf at h
  generalize (Sp.ruleGo F []).1 = hs at h g1
  generalize (Sp.ruleGo F []).2 = o at h g1 g2
  have g1 : Sp.szL hs + o.sz ≤ 0 + F.sz := g1
  have s0 := szL_pos hs
  have cl := csL_szL hs
  have so : 1 ≤ o.sz := (Ob.szM_pos false o).2 rfl
  unfold Sp.ruleOn at h
  obtain ⟨el, er, eh, hp⟩ := ruleAt_all h
  unfold RF
  rw [eh]
  cases c : Ob.isCallOf o Ob.equal with
  | true =>
    obtain ⟨a, b, e, wa, wb⟩ := Ob.wt_two g2 c equal_q (arOf_equal E)
    rw [c, Bool.true_or, if_pos rfl] at el hp
    rw [c, if_pos rfl] at er
    rw [if_pos rfl] at hp
    have i1 : Ob.item o 1 = a := by rw [e]; rfl
    have i2 : Ob.item o 2 = b := by rw [e]; rfl
    rw [i1] at hp
    rw [i2] at er hp
    rw [e, sz_two equal_q] at g1
    have sa : 1 ≤ a.sz := (Ob.szM_pos false a).2 rfl
    have sb : 1 ≤ b.sz := (Ob.szM_pos false b).2 rfl
    have cb := csM_le b
    have cb0 := (csM_it false b).1
    rw [hp, er]
    cases t : Sp.turns a b with
    | true =>
      have := turns_sz wa wb t
      refine ⟨fun _ => by omega, ?_⟩
      rw [if_pos rfl]
      omega
    | false =>
      refine ⟨(fun z => by cases z), ?_⟩
      rw [if_neg (by decide)]
      omega
  | false =>
    have er0 : Ob.csM false R.rhs = 0 := by
      rw [er, c, if_neg (by decide)]
      split <;> rfl
    rw [er0]
    refine ⟨fun _ => by decide, ?_⟩
    have : (if R.perm = true then (0 : Int) else 0) = 0 := by split <;> rfl
    rw [this]
    omega
theorem enF_of [DecidableEq Ob] {H : Sp.Hs} {m : List Ob} (h : Sp.HOk H) : EnF (H.env m) := by
  refine ⟨fun D hD => ?_, fun k hk R hR => ?_⟩
  · have := ((HOk.wf h).1 D hD).2.2.1.2.1
    have := csM_le D.body
    omega
  · obtain ⟨_, ⟨w, z⟩, b, e⟩ := (HOk.wf h).2.1 k hk
    rw [e] at hR
    cases e2 : Sp.ruleOf k.form with
    | none => rw [e2] at hR; cases hR
    | some R0 =>
      rw [e2] at hR
      have hR : Sp.setOn b R0 = R := Option.some.inj hR
      have q := ruleOf_rf w z e2
      rw [← hR]
      exact q
def FlOk [DecidableEq Ob] (H : Sp.Hs) : Prop := ∀ D, D ∈ H.1 → Sp.flat D.name D.body = true
/-! the clauses of a theorem -/
theorem thmCl_b [DecidableEq Ob] {E : Sp.Env} {F : Ob} {ind : Option (Sp.Dfn × List Ob)} {us : List (Ob × List (Ob × Ob))} {fuel : Nat} (hE : Sp.arOf E Ob.not = 1) (hu : ∀ p, p ∈ us → Ob.csM false p.1 ≤ 239 ∧ Ob.wt (Sp.arOf E) (Ob.sbM (Ob.lkD p.2) false p.1)) (hi : ∀ D vs, ind = some (D, vs) → NdB 14701 14701 (fun _ => True) (Sp.ret ()) ∧ ∃ f : Int, 0 ≤ f ∧ (vs ≠ [] → Ob.csM false F ≤ f) ∧ rwsC f D.name (Sp.paths D.body) ≤ 14701) :
    (∀ cl s, Sp.thmCl E F ind us (fuel, 0) = .ok cl s → (∀ c, c ∈ cl → c.1.length ≤ 30) ∧ s.1 = fuel ∧ (s.2 : Int) ≤ 2000 + 2 * (us.length : Int) + 14701) ∧ (cntR (Sp.thmCl E F ind us (fuel, 0)) : Int) ≤ 241 * (us.length : Int) + 14701 := by
  have ub := uses_b us [] [] (fuel, 0) (fun p hp => (hu p hp).1)
  have step : ∀ l' : List Ob, ∃ m : Sp.M (List Sp.Cla), (∀ s, Sp.usesGo us [] [] (fuel, 0) = .ok l' s → Sp.thmCl E F ind us (fuel, 0) = m s) ∧ NdB 14701 14701 (fun cl => (∀ c, c ∈ cl → c.1.length ≤ 30) ∧ Sp.szL l' ≤ 400) m ∧ NoT m := by
    intro l'
    cases ind with
    | none =>
      refine ⟨Sp.bd (Sp.bounded (Sp.putL l' F)) fun l => Sp.ret [(l, 0)], fun s e => ?_, ?_, NoT.bd NoT.bounded (fun _ => NoT.ret)⟩
      · unfold Sp.thmCl
        rw [bind_ok e]
      · refine NdB.bd (B := 0) (F := 0) rb_bounded (fun l hl => NdB.ret (Int.le_refl _) ⟨fun c hc => ?_, ?_⟩) (by decide) (by decide) (by decide)
        · rcases List.mem_cons.mp hc with q | q
          · rw [q]; show l.length ≤ 30; rw [hl.1]; exact hl.2.1
          · cases q
        · have := putL_sz l' F
          have := hl.2.2
          omega
    | some p =>
      obtain ⟨D, vs⟩ := p
      obtain ⟨_, f, f0, f1, f2⟩ := hi D vs rfl
      refine ⟨Sp.indAll D vs F l' (Sp.paths D.body), fun s e => ?_, ?_, NoT.indAll _⟩
      · unfold Sp.thmCl
        rw [bind_ok e]
      · exact (rb_indAll f0 f1 l' (Sp.paths D.body)).le f2 f2 (fun cl h => ⟨h.1, h.2 (paths_ne _)⟩)
  unfold UsB at ub
  split at ub
  · next l' s1 e =>
    obtain ⟨⟨u1, u1'⟩, u2, u3, ys, u4, u5, u6⟩ := ub
    obtain ⟨m, m1, m2, m3⟩ := step l'
    obtain ⟨n1, n2⟩ := NdB.noT m2 m3 s1
    have u1 : s1.1 = fuel := u1
    have u1' : (s1.2 : Int) ≤ ((0 : Nat) : Int) + 241 * (us.length : Int) := u1'
    have u6 : (s1.2 : Int) ≤ ((0 : Nat) : Int) + csL ys + 2 * (us.length : Int) := u6
    rw [m1 s1 e]
    refine ⟨fun cl s e2 => ?_, ?_⟩
    · obtain ⟨⟨k1, k2⟩, k3, k4⟩ := n1 cl s e2
      have ng := ng_sum (ar := Sp.arOf E) hE u4 (fun x hx => by
        obtain ⟨_, _, p, hp, e3⟩ := u5 x hx
        rw [e3]; exact (hu p hp).2) (fun x hx => (u5 x hx).2.1)
      exact ⟨k1, by omega, by omega⟩
    · cases e2 : m s1 with
      | ok cl s =>
        have := (n1 cl s e2).2.2
        show (s.2 : Int) ≤ _
        omega
      | error x s =>
        have := (n2 x s e2).2
        show (s.2 : Int) ≤ _
        omega
  · next x s1 e =>
    have e2 : Sp.thmCl E F ind us (fuel, 0) = .error x s1 := by
      unfold Sp.thmCl Sp.bd
      try rw [e]
    try rw [e2]
    obtain ⟨u1, u2⟩ := ub
    have u2 : (s1.2 : Int) ≤ ((0 : Nat) : Int) + 241 * (us.length : Int) := u2
    refine ⟨fun cl s q => (by cases q), ?_⟩
    show (s1.2 : Int) ≤ _
    omega
/-! the clauses of a definition -/
theorem sz_sb_le [DecidableEq Ob] (s : Ob → Ob) : ∀ (m : Bool) (o : Ob), Ob.szM m o ≤ Ob.szM m (Ob.sbM s m o)
  | true, .op a b => by
    have h1 := sz_sb_le s false a
    have h2 := sz_sb_le s true b
    show Ob.szM false a + Ob.szM true b ≤ Ob.szM false (Ob.sbM s false a) + Ob.szM true (Ob.sbM s true b)
    omega
  | true, .var x => Int.le_refl _
  | false, .op a b => by
    have h2 := sz_sb_le s true b
    rw [show Ob.sbM s false (.op a b) = _ from sb_pr s a b]
    by_cases c : a = Ob.quote
    · rw [if_pos c]; exact Int.le_refl _
    · rw [if_neg c]
      show (if a = Ob.quote then 1 else 1 + Ob.szM true b) ≤ (if a = Ob.quote then 1 else 1 + Ob.szM true (Ob.sbM s true b))
      rw [if_neg c, if_neg c]
      omega
  | false, .var x => by
    have : 1 ≤ Ob.szM false (Ob.sbM s false (.var x)) := (Ob.szM_pos false (Ob.sbM s false (.var x))).2 rfl
    exact this
theorem NdB.bigF [DecidableEq Ob] {o : Ob} {n : Nat} {A E : Int} {P : Ob → Prop} (hz : 120 < o.sz) (hE : (n : Int) ≤ E) : NdB A E P (Sp.big o n) := fun s => by
  rw [big_err hz]
  exact ⟨Nat.le_refl _, by show ((s.2 + n : Nat) : Int) ≤ (s.2 : Int) + 117 * ((s.1 : Int) - (s.1 : Int)) + E; omega⟩
theorem rb_measGo [DecidableEq Ob] {xs : List Ob} {m : Ob} {rs : List (Ob × Bool)} (hm : m.sz ≤ 120) (hr : rs.length ≤ 39) {a : Int} (ha : a = if xs = [] then 159 else 276) : ∀ cs : List Ob, NdB (a * (cs.length : Int)) (398 * (cs.length : Int)) (fun cl => ∀ c, c ∈ cl → c.1.length ≤ 30) (Sp.measGo xs m rs cs)
  | [] => NdB.ret (by show (0 : Int) ≤ a * ((0 : Nat) : Int); omega) (fun c hc => by cases hc)
  | c :: cs => by
    have ih := rb_measGo hm hr ha cs
    have a1 : 159 ≤ a ∧ a ≤ 276 := by rw [ha]; split <;> decide
    have cm0 := csM_le m
    have cm1 := (csM_it false m).1
    have el : ((((c :: cs) : List Ob).length : Nat) : Int) = (cs.length : Int) + 1 := by rw [List.length_cons]; omega
    have hl0 : (0 : Int) ≤ (cs.length : Int) := by omega
    have m1 : a * ((cs.length : Int) + 1) = a * (cs.length : Int) + a := by rw [Int.mul_add, Int.mul_one]
    have m2 : 0 ≤ a * (cs.length : Int) := Int.mul_nonneg (by omega) hl0
    have m3 : a * (cs.length : Int) ≤ 276 * (cs.length : Int) := Int.mul_le_mul_of_nonneg_right a1.2 hl0
    rw [el, m1]
    show NdB _ _ _ (Sp.bd (Sp.rulersGo (fun x => x) rs []) fun l => Sp.bd (Sp.fill (Ob.lkD (xs.zip (Ob.toList (Ob.rgt c)))) m) fun m2 => Sp.bd (Sp.mk2 Ob.less m2 m) fun y =>
      Sp.bd (Sp.bounded (Sp.putL l y)) fun l => Sp.bd (Sp.measGo xs m rs cs) fun cl => Sp.ret ((l, 0) :: cl))
    have tail : ∀ l y, NdB (a * (cs.length : Int)) (398 * (cs.length : Int)) (fun cl : List Sp.Cla => ∀ c, c ∈ cl → c.1.length ≤ 30) (Sp.bd (Sp.bounded (Sp.putL l y)) fun l => Sp.bd (Sp.measGo xs m rs cs) fun cl => Sp.ret ((l, 0) :: cl)) := fun l y => by
      refine NdB.bd (B := a * (cs.length : Int)) (F := 398 * (cs.length : Int)) rb_bounded (fun l' hl' => ?_) (by omega) (by omega) (by omega)
      refine NdB.bd (B := 0) (F := 0) ih (fun cl hcl => NdB.ret (Int.le_refl _) (fun d hd => ?_)) (by omega) (by omega) (by omega)
      rcases List.mem_cons.mp hd with q | q
      · rw [q]; show l'.length ≤ 30; rw [hl'.1]; exact hl'.2.1
      · exact hcl d q
    refine NdB.bd (A := 156) (E := 156) (P := fun _ => True) (B := a - 156 + a * (cs.length : Int)) (F := 242 + 398 * (cs.length : Int)) ((rb_rulersI rs []).le (by omega) (by omega) (fun _ h => h)) (fun l _ => ?_) (by omega) (by omega) (by omega)
    by_cases c0 : xs = []
    · have ea : a = 159 := by rw [ha, if_pos c0]
      refine NdB.bd (A := 0) (E := 0) (B := 3 + a * (cs.length : Int)) (F := 242 + 398 * (cs.length : Int)) (NdB.fill0 (by rw [c0, List.zip_nil_left]; exact sb_id false m) (Int.le_refl _) (Int.le_refl _)) (fun x _ => ?_) (by omega) (by omega) (by omega)
      exact NdB.bd (A := 3) (E := 3) (B := a * (cs.length : Int)) (F := 239 + 398 * (cs.length : Int)) (NdB.big (n := 3) (by decide) (by decide)) (fun y _ => (tail l y).le (Int.le_refl _) (by omega) (fun _ h => h)) (by omega) (by omega) (by omega)
    · have ea : a = 276 := by rw [ha, if_neg c0]
      by_cases cz : m.sz ≤ 59
      · refine NdB.bd (A := 117) (E := 239) (B := 3 + a * (cs.length : Int)) (F := 125 + 398 * (cs.length : Int)) (NdB.fill (by omega) (by omega)) (fun x _ => ?_) (by omega) (by omega) (by omega)
        exact NdB.bd (A := 3) (E := 3) (B := a * (cs.length : Int)) (F := 122 + 398 * (cs.length : Int)) (NdB.big (n := 3) (by decide) (by decide)) (fun y _ => (tail l y).le (Int.le_refl _) (by omega) (fun _ h => h)) (by omega) (by omega) (by omega)
      · refine NdB.bd (A := 239) (E := 239) (B := a * (cs.length : Int) - 239) (F := 3) (NdB.fill (by omega) (by omega)) (fun x hx => ?_) (by omega) (by omega) (by omega)
        have hs : m.sz ≤ x.sz := by rw [hx]; exact sz_sb_le _ false m
        have hbig : 120 < Ob.sz (.pr Ob.less (.pr x (.pr m Ob.nil))) := by rw [sz_two (show Ob.less ≠ Ob.quote from Ob.sym_ne (by decide))]; omega
        exact NdB.bd (A := a * (cs.length : Int) - 239 - a * (cs.length : Int)) (E := 3) (P := fun _ => False) (B := a * (cs.length : Int)) (F := 3) (NdB.bigF hbig (by decide)) (fun y hy => hy.elim) (by omega) (by omega) (by omega)
def clN [DecidableEq Ob] (n : Ob) : List (List (Ob × Bool) × Ob) → Int | [] => 0 | p :: L => ((Sp.callsIn p.2 n).length : Int) + clN n L
theorem clN_pos [DecidableEq Ob] {n : Ob} : ∀ L : List (List (Ob × Bool) × Ob), 0 ≤ clN n L
  | [] => Int.le_refl _
  | p :: L => by
    have := clN_pos (n := n) L
    show 0 ≤ ((Sp.callsIn p.2 n).length : Int) + clN n L
    omega
theorem rb_measAll [DecidableEq Ob] {xs : List Ob} {f m : Ob} (hm : m.sz ≤ 120) {a : Int} (ha : a = if xs = [] then 159 else 276) : ∀ L : List (List (Ob × Bool) × Ob), (∀ p, p ∈ L → p.1.length ≤ 39) → NdB (a * clN f L) (398 * clN f L) (fun cl => ∀ c, c ∈ cl → c.1.length ≤ 30) (Sp.measAll xs f m L)
  | [], _ => NdB.ret (by show (0 : Int) ≤ a * 0; omega) (fun c hc => by cases hc)
  | p :: L, h => by
    have a1 : 159 ≤ a ∧ a ≤ 276 := by rw [ha]; split <;> decide
    have c0 := clN_pos (n := f) L
    have hl0 : (0 : Int) ≤ ((Sp.callsIn p.2 f).length : Int) := by omega
    have m1 : a * (((Sp.callsIn p.2 f).length : Int) + clN f L) = a * ((Sp.callsIn p.2 f).length : Int) + a * clN f L := Int.mul_add _ _ _
    have m3 : a * ((Sp.callsIn p.2 f).length : Int) ≤ 276 * ((Sp.callsIn p.2 f).length : Int) := Int.mul_le_mul_of_nonneg_right a1.2 hl0
    have m4 : a * clN f L ≤ 276 * clN f L := Int.mul_le_mul_of_nonneg_right a1.2 c0
    show NdB (a * (((Sp.callsIn p.2 f).length : Int) + clN f L)) (398 * (((Sp.callsIn p.2 f).length : Int) + clN f L)) _ (Sp.bd (Sp.measGo xs m p.1 (Sp.callsIn p.2 f)) fun x => Sp.bd (Sp.measAll xs f m L) fun b => Sp.ret (x ++ b))
    rw [m1]
    refine NdB.bd (B := a * clN f L) (F := 398 * clN f L) (rb_measGo hm (h p List.mem_cons_self) ha _) (fun x hx => ?_) (by omega) (by omega) (by omega)
    refine NdB.bd (B := 0) (F := 0) (rb_measAll hm ha L (fun q hq => h q (List.mem_cons_of_mem _ hq))) (fun b hb => NdB.ret (Int.le_refl _) (fun d hd => ?_)) (by omega) (by omega) (by omega)
    rcases List.mem_append.mp hd with q | q
    · exact hx d q
    · exact hb d q
theorem smL_len [DecidableEq Ob] {cs : List Ob} : (cs.length : Int) ≤ smL Ob.sz cs ∧ ((∀ c, c ∈ cs → 2 ≤ c.sz) → 2 * (cs.length : Int) ≤ smL Ob.sz cs) := by
  induction cs with
  | nil => exact ⟨Int.le_refl _, fun _ => Int.le_refl _⟩
  | cons c cs ih =>
    have h1 : 1 ≤ c.sz := (Ob.szM_pos false c).2 rfl
    refine ⟨?_, fun h => ?_⟩
    · show ((cs.length + 1 : Nat) : Int) ≤ c.sz + smL Ob.sz cs
      have := ih.1
      omega
    · have h2 := h c List.mem_cons_self
      have := ih.2 (fun x hx => h x (List.mem_cons_of_mem _ hx))
      show 2 * ((cs.length + 1 : Nat) : Int) ≤ c.sz + smL Ob.sz cs
      omega
theorem meas_b [DecidableEq Ob] {E : Sp.Env} {n X : Ob} {xs : List Ob} (nb : n.isBase = false) (hnq : n ≠ Ob.quote) (hw : Ob.wt (Sp.arC E n (xs.length : Int)) X) (hz : X.sz ≤ 120) (hf : Sp.flat n X = true) : (∀ p, p ∈ Sp.paths X → p.1.length ≤ 39) ∧ clN n (Sp.paths X) ≤ 120 ∧ (xs ≠ [] → 2 * clN n (Sp.paths X) ≤ 120) := by
  have har := arC_if (E := E) (n := n) (k := (xs.length : Int)) nb
  obtain ⟨s1, s2⟩ := path_sums har (SizeOf.sizeOf X + 1) X (Nat.lt_succ_self _) hw
  have hc := meas_calls (E := E) (xs := xs) nb hnq hw hz hf
  have gen : ∀ L : List (List (Ob × Bool) × Ob), (∀ p, p ∈ L → p ∈ Sp.paths X) → clN n L ≤ endS L ∧ (xs ≠ [] → 2 * clN n L ≤ endS L) := by
    intro L
    induction L with
    | nil => intro _; exact ⟨Int.le_refl _, fun _ => Int.le_refl _⟩
    | cons p L ih =>
      intro hL
      obtain ⟨i1, i2⟩ := ih (fun q hq => hL q (List.mem_cons_of_mem _ hq))
      have hp := hL p List.mem_cons_self
      have fs : smL Ob.sz (Sp.callsIn p.2 n) ≤ p.2.sz := flat_sum hnq false p.2 (fun c hc' => flat_path hf hp hc')
      obtain ⟨l1, l2⟩ := smL_len (cs := Sp.callsIn p.2 n)
      refine ⟨?_, fun hx => ?_⟩
      · show ((Sp.callsIn p.2 n).length : Int) + clN n L ≤ p.2.sz + endS L
        omega
      · have l3 := l2 (fun c hc' => by
          obtain ⟨l, ec, hl, _⟩ := (hc p hp).2 c hc'
          cases l with
          | nil =>
            rw [List.length_nil] at hl
            exact absurd (List.eq_nil_of_length_eq_zero hl.symm) hx
          | cons a l =>
            have ha : 1 ≤ Ob.szM false a := (Ob.szM_pos false a).2 rfl
            have hr : 0 ≤ Ob.szM true (Ob.ofList l) := (Ob.szM_pos true (Ob.ofList l)).1
            rw [ec]
            show 2 ≤ (if n = Ob.quote then (1 : Int) else 1 + (Ob.szM false a + Ob.szM true (Ob.ofList l)))
            rw [if_neg hnq]
            omega)
        have := i2 hx
        show 2 * (((Sp.callsIn p.2 n).length : Int) + clN n L) ≤ p.2.sz + endS L
        omega
  obtain ⟨g1, g2⟩ := gen (Sp.paths X) (fun _ h => h)
  have pl : (0 : Int) ≤ ((Sp.paths X).length : Int) := by omega
  have pne : 1 ≤ ((Sp.paths X).length : Int) := by
    have := paths_ne X
    have : (Sp.paths X).length ≠ 0 := fun q => this (List.eq_nil_of_length_eq_zero q)
    omega
  refine ⟨fun p hp => ?_, by omega, fun hx => ?_⟩
  · have := s2 p hp
    have := (rsz_r p.1).1
    have : 1 ≤ p.2.sz := (Ob.szM_pos false p.2).2 rfl
    omega
  · have := g2 hx
    omega
theorem fitM_of [DecidableEq Ob] {H : Sp.Hs} {n X M : Ob} {xs : List Ob} {B : Int} {fuel : Nat} (h : Sp.HOk H) (nb : n.isBase = false) (hnq : n ≠ Ob.quote) (hw : Ob.wt (Sp.arC (H.env []) n (xs.length : Int)) X) (hz : X.sz ≤ 120) (hf : Sp.flat n X = true) (hm : M.sz ≤ 120) (hfu : fuel ≤ 1000) (hB : B ≤ 20000) : FitM B (H.env []) (Sp.measAll xs n M (Sp.paths X)) fuel := by
  obtain ⟨b1, b2, b3⟩ := meas_b (E := H.env []) nb hnq hw hz hf
  have c0 := clN_pos (n := n) (Sp.paths X)
  obtain ⟨q1, q2⟩ := NdB.noT (rb_measAll (xs := xs) (f := n) (m := M) hm (a := if xs = [] then 159 else 276) rfl (Sp.paths X) b1) (NoT.measAll _) (fuel, 0)
  have top : (if xs = [] then (159 : Int) else 276) * clN n (Sp.paths X) ≤ 19080 := by
    split
    · omega
    · next c => have := b3 c; omega
  refine ⟨?_, fun cl s e => ?_⟩
  · unfold Fit
    cases e : Sp.measAll xs n M (Sp.paths X) (fuel, 0) with
    | ok cl s =>
      have k : (s.2 : Int) ≤ ((0 : Nat) : Int) + _ := (q1 cl s e).2.2
      show B + (s.2 : Int) ≤ 160000
      omega
    | error x s =>
      have k : (s.2 : Int) ≤ ((0 : Nat) : Int) + _ := (q2 x s e).2
      show B + (s.2 : Int) ≤ 160000
      omega
  · obtain ⟨k1, k2, k3⟩ := q1 cl s e
    have k2 : s.1 = fuel := k2
    have k3 : (s.2 : Int) ≤ ((0 : Nat) : Int) + _ := k3
    exact fitP_of (enF_of h) k1 (by omega)
