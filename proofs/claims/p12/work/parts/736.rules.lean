-- deps: 735
/-! the class: rules -/
/-- what is known of a rule -/
theorem rule_at [DecidableEq Ob] {w : iST} {E : Sp.Env} {n : Nat} {k : Sp.Thm} {Rl : Sp.Rul} (hE : EnvC w E) (hk : E.thms[n]? = some k) (hr : k.rule = some Rl) : (n : Int) < w.1 1 ∧ w.2.1 7 (n : Int) ≠ -1 ∧ Th1c w E (n : Int) ∧ Rl.lhs = oc w (w.2.1 7 (n : Int)) ∧ Rl.rhs = oc w (w.2.1 8 (n : Int)) ∧ Rl.hyps = hypC w (n : Int) ∧ Rl.perm = decide (w.2.1 11 (n : Int) ≠ 0) := by
  have hl : n < E.thms.length := (List.getElem?_eq_some_iff.mp hk).1
  have h1 := hE.2.2.2.1.1
  have hn : (n : Int) < w.1 1 := by omega
  obtain ⟨a, ⟨k', e', h'⟩, b⟩ := hE.2.2.2.1.2 n hn
  rw [hk] at e'
  have e' := Option.some.inj e'
  rw [← e'] at h'
  have h3 := h'.2.2
  rw [hr] at h3
  unfold rulC at h3
  by_cases c : w.2.1 7 (n : Int) = -1
  · rw [if_pos c] at h3; cases h3
  · rw [if_neg c] at h3
    have h3 := Option.some.inj h3
    rw [h3]
    exact ⟨hn, c, a, rfl, rfl, rfl, rfl⟩
theorem can_rule [DecidableEq Ob] {E : Sp.Env} {k : Sp.Thm} {tr : Bool} {Rl : Sp.Rul} (h : Sp.can E k tr = some Rl) : k.rule = some Rl := by
  unfold Sp.can at h
  cases e : k.rule with
  | none => rw [e] at h; cases h
  | some R =>
    rw [e] at h
    have h : (if R.on && !Ob.has E.muted k.name && (tr || !R.truth) then some R else none) = some Rl := h
    split at h
    · exact h
    · cases h
theorem pc_canLook [DecidableEq Ob] {n : Nat} {g : Int} {Q : Int → iST → Prop} {u : iST} {E : Sp.Env} {k : Sp.Thm} (hE : EnvC u E) (hk : E.thms[n]? = some k) (h0 : Sp.can E k (decide (g = 1)) = none → Q 0 u) (h1 : ∀ Rl, Sp.can E k (decide (g = 1)) = some Rl → Q 1 u) : pv_0_canLook (n : Int) g Q u := by
  have hl : n < E.thms.length := (List.getElem?_eq_some_iff.mp hk).1
  have hn : (n : Int) < u.1 1 := by have := hE.2.2.2.1.1; omega
  obtain ⟨a, ⟨k', e', h'⟩, b⟩ := hE.2.2.2.1.2 n hn
  rw [hk] at e'
  have e' := Option.some.inj e'
  rw [← e'] at h'
  have h3 := h'.2.2
  have hnm := h'.1
  unfold rulC at h3
  unfold pv_0_canLook
  intro _ _ v1 ev1 _
  rw [ev1]
  refine ⟨fun c _ => h0 ?_, fun c => ?_⟩
  · rw [if_pos c] at h3
    unfold Sp.can; rw [h3]
  rw [if_neg c] at h3
  have hcan : Sp.can E k (decide (g = 1)) = if (decide (u.2.1 12 (n : Int) ≠ 0) && !Ob.has E.muted k.name && (decide (g = 1) || !decide (u.2.1 10 (n : Int) ≠ 0))) then k.rule else none := by
    unfold Sp.can; rw [h3]
  rw [hnm] at hcan
  intro _ _ v2 ev2 _
  rw [ev2]
  refine ⟨fun c2 _ => h0 ?_, fun c2 => ?_⟩
  · rw [hcan, decide_eq_false (not_not_intro c2)]; rfl
  intro _ _ v3 ev3 _
  rw [ev3]
  refine ⟨fun c3 _ => h0 ?_, fun c3 => ?_⟩
  · rw [hcan, b.mp c3]; simp
  have hm : Ob.has E.muted (oc u (u.2.1 5 (n : Int))) = false := by
    cases q : Ob.has E.muted (oc u (u.2.1 5 (n : Int))) with
    | false => rfl
    | true => exact absurd (b.mpr q) c3
  rw [decide_eq_true c2, hm] at hcan
  refine ⟨fun c4 _ => h1 _ (by rw [hcan, decide_eq_true c4, h3]; rfl), fun c4 => ?_⟩
  intro _ _ v4 ev4 _
  rw [ev4]
  refine ⟨fun c5 _ => h0 ?_, fun c5 _ => h1 _ (by rw [hcan, decide_eq_false c5, h3, Bool.not_false, Bool.or_true]; rfl)⟩
  rw [hcan, decide_eq_true c5, decide_eq_false c4]; rfl
/-- a rule's left side matched -/
theorem mt_bind [DecidableEq Ob] {w : iST} {E : Sp.Env} {p o : Ob} {l : List (Ob × Ob)} (hp : Ob.wt (Sp.arOf E) p) (ho : Ob.wt (Sp.arOf E) o) (hmt : Ob.mt p o = some l) (hag : ∀ s, Ob.sbM s false p = o ↔ Ag s (bdL w)) (hbd : ∀ x, vr false p x → (Ob.lk (bdL w) x).isSome = true) : ∀ x, vr false p x → Ob.lkD l x = Ob.lkD (bdL w) x := by
  intro x hx
  have h1 := (hag _).mp (mt_sound hp ho hmt)
  have h2 := hbd x hx
  obtain ⟨y, hy⟩ := Option.isSome_iff_exists.mp h2
  rw [h1 x y hy]
  unfold Ob.lkD
  rw [hy]; rfl
theorem bdL_w [DecidableEq Ob] {w : iST} {E : Sp.Env} (hv : ∀ i, 0 ≤ i → i < w.1 39 → (oc w (w.2.1 35 i)).isVar = true ∧ NdC w E (w.2.1 36 i)) : ∀ x, Ob.isVar x = true → Ob.wt (Sp.arOf E) (Ob.lkD (bdL w) x) ∧ (Ob.lkD (bdL w) x).sz ≤ 120 := by
  intro x hx
  refine lkD_w (P := fun y => Ob.wt (Sp.arOf E) y ∧ y.sz ≤ 120) _ (fun p hp => ?_) (var_w hx)
  unfold bdL at hp
  obtain ⟨i, hi, e⟩ := List.mem_map.mp hp
  have hi := List.mem_range.mp hi
  rw [← e]
  exact (hv (i : Int) (by omega) (by omega)).2.2
section
variable {α : Type} {u0 v0 v : iST} {E : Sp.Env} {B x g row c t T : Int} {R : EStateM.Result Unit Sp.Wk α} {Q : Int → iST → Prop} {K : Ob → Sp.M α} {d : Nat} {ctx : List Ob}
/-- rules below n are still to be looked at -/
def SkJ [DecidableEq Ob] (u0 : iST) (E : Sp.Env) (B : Int) (R : EStateM.Result Unit Sp.Wk α) (Q : Int → iST → Prop) (d : Nat) (c : Int) (v0 : iST) (T : Int) (K : Ob → Sp.M α) (x g row : Int) (ctx : List Ob) (m : Int) (o : Ob) (n : Nat) : Prop := ∀ (t : Int) (v : iST), StJ E c x g row ctx v0 v → v.2.1 51 (17 * c + 3) = 12 → v.2.1 51 (17 * c + 8) = (n : Int) - 1 → v.2.1 51 (17 * c + 5) = m → NdC v E m → oc v m = o → PdK B f8Jn f8Jr u0 v R (Sp.bd (Sp.rwRules E (Sp.rw E d ctx) o (decide (g = 1)) (E.thms.take n).reverse) (fun y => K (Sp.fin (decide (g = 1)) y))) → t + T + 2 ≤ 24 * (v.1 31 - u0.1 31) → pv_6_rewritten_20 Q t v
def hypM [DecidableEq Ob] (E : Sp.Env) (d : Nat) (ctx : List Ob) (g : Int) (o : Ob) (n : Nat) (l : List (Ob × Ob)) (rhs : Ob) (hs : List Ob) : Sp.M Ob := Sp.bd (Sp.rwHyps (fun h => Sp.rw E d ctx h true) (Ob.lkD l) hs) (fun b => if b then Sp.bd (Sp.fill (Ob.lkD l) rhs) (fun x => Sp.rw E d ctx x (decide (g = 1))) else Sp.rwRules E (Sp.rw E d ctx) o (decide (g = 1)) (E.thms.take n).reverse)
theorem hypM_mono [DecidableEq Ob] {o rhs : Ob} {n : Nat} {l : List (Ob × Ob)} {hs : List Ob} : Mono (hypM E d ctx g o n l rhs hs) := Mono.bd (rwHyps_mono (fun o => rw_mono _ _ _ _) _) (fun b => Mono.ite (Mono.bd Mono.fill (fun _ => rw_mono _ _ _ _)) (rwRules_mono (fun o t => rw_mono _ _ _ _) _))
theorem hypM_nil [DecidableEq Ob] {o rhs : Ob} {n : Nat} {l : List (Ob × Ob)} : hypM E d ctx g o n l rhs [] = Sp.bd (Sp.fill (Ob.lkD l) rhs) (fun x => Sp.rw E d ctx x (decide (g = 1))) := by
  unfold hypM
  rfl
theorem hypM_cons [DecidableEq Ob] {o rhs h : Ob} {n : Nat} {l : List (Ob × Ob)} {hs : List Ob} : hypM E d ctx g o n l rhs (h :: hs) = Sp.bd (Sp.fill (Ob.lkD l) h) (fun x => Sp.bd (Sp.rw E d ctx x true) (fun v => if v = Ob.t then hypM E d ctx g o n l rhs hs else Sp.rwRules E (Sp.rw E d ctx) o (decide (g = 1)) (E.thms.take n).reverse)) := by
  unfold hypM
  show Sp.bd (Sp.bd (Sp.fill (Ob.lkD l) h) (fun x => Sp.bd (Sp.rw E d ctx x true) (fun v => if v = Ob.t then Sp.rwHyps (fun h => Sp.rw E d ctx h true) (Ob.lkD l) hs else Sp.ret false))) _ = _
  simp only [bd_assoc, bd_ite]
  rfl
def ApJ [DecidableEq Ob] (u0 : iST) (E : Sp.Env) (B : Int) (R : EStateM.Result Unit Sp.Wk α) (Q : Int → iST → Prop) (d : Nat) (c : Int) (v0 : iST) (T : Int) (K : Ob → Sp.M α) (x g row : Int) (ctx : List Ob) (m : Int) (o : Ob) (n : Nat) (l : List (Ob × Ob)) (rhs : Ob) (hs : List Ob) (i : Nat) : Prop := ∀ (t : Int) (v : iST), StJ E c x g row ctx v0 v → v.2.1 51 (17 * c + 3) = 14 → v.2.1 51 (17 * c + 8) = (n : Int) → v.2.1 51 (17 * c + 9) = (i : Int) → v.2.1 51 (17 * c + 5) = m → NdC v E m → oc v m = o → PdK B f8Jn f8Jr u0 v R (Sp.bd (hypM E d ctx g o n l rhs (hs.drop i)) (fun y => K (Sp.fin (decide (g = 1)) y))) → t + T + 1 ≤ 24 * (v.1 31 - u0.1 31) → pv_6_rewritten_20 Q t v
/-- a hypothesis came out -/
theorem st_judge [DecidableEq Ob] {a m : Int} {o rhs : Ob} {n i : Nat} {l : List (Ob × Ob)} {hs : List Ob} (hM : FmJ u0 E B R Q d c x g row v0 T K) (hsk : SkJ u0 E B R Q d c v0 T K x g row ctx m o n) (hap : ApJ u0 E B R Q d c v0 T K x g row ctx m o n l rhs hs (i + 1)) (hS : StJ E c x g row ctx v0 v) (hs0 : v.2.1 51 (17 * c + 3) = 15) (h8 : v.2.1 51 (17 * c + 8) = (n : Int)) (h9 : v.2.1 51 (17 * c + 9) = (i : Int)) (h5 : v.2.1 51 (17 * c + 5) = m) (nm : NdC v E m) (em : oc v m = o) (h24 : v.1 24 = a) (na : NdC v E a)
    (hP : PdK B f8Jn f8Jr u0 v R (Sp.bd (if oc v a = Ob.t then hypM E d ctx g o n l rhs (hs.drop (i + 1)) else Sp.rwRules E (Sp.rw E d ctx) o (decide (g = 1)) (E.thms.take n).reverse) (fun y => K (Sp.fin (decide (g = 1)) y)))) (ht : t + T + 3 ≤ 24 * (v.1 31 - u0.1 31)) : pv_6_rewritten_20 Q t v := by
  have hC := hM.1
  have T0 := hM.2.2.2.2.2.2
  have hT := hS.ct
  refine hd_15 hS.2.1.1 hM.2.2.2.2.1 hS.2.2.1 (hC.turn hP hS.2.2.1 (by omega)) hs0 ?_
  have k1t := katC hT 1 (o := Ob.t) (by decide) (by decide) rfl na.1.1 na.1.2
  unfold pv_6_judge
  intro n1 en1 _
  rw [en1, h24]
  refine ⟨fun z => ?_, fun z => ?_⟩
  · rw [if_neg (fun q => z (k1t.mpr q))] at hP
    intro _ _ n2 en2 _ _ _ _ y1 e1 _ _ y2 e2 _
    rw [en2, h8] at e1
    obtain ⟨k1, m1, c1, r1, s1, q1⟩ := fr_set hT e1 (by decide)
    obtain ⟨k2, m2, c2, r2, s2, q2⟩ := fr_set k1.1.1 e2 (by decide)
    obtain ⟨nm2, em2⟩ := nm.up hT (k1.1.tr k2.1)
    exact hsk (t + 1) y2 ((hS.set e1 (by decide)).set e2 (by decide)) q2 (by rw [s2 _ (by omega)]; exact q1) (by rw [s2 _ (by omega), s1 _ (by omega)]; exact h5) nm2 (by rw [em2]; exact em) ((hP.same k1.1 (fun k _ _ => by rw [m1])).same k2.1 (fun k _ _ => by rw [m2])) (by rw [m2, m1]; omega)
  · rw [if_pos (k1t.mp (Decidable.not_not.mp z))] at hP
    intro _ _ n2 en2 _ _ _ _ y1 e1 _ _ y2 e2 _
    rw [en2, h9] at e1
    obtain ⟨k1, m1, c1, r1, s1, q1⟩ := fr_set hT e1 (by decide)
    obtain ⟨k2, m2, c2, r2, s2, q2⟩ := fr_set k1.1.1 e2 (by decide)
    obtain ⟨nm2, em2⟩ := nm.up hT (k1.1.tr k2.1)
    exact hap (t + 1) y2 ((hS.set e1 (by decide)).set e2 (by decide)) q2 (by rw [s2 _ (by omega), s1 _ (by omega)]; exact h8) (by rw [s2 _ (by omega), q1]; omega) (by rw [s2 _ (by omega), s1 _ (by omega)]; exact h5) nm2 (by rw [em2]; exact em) ((hP.same k1.1 (fun k _ _ => by rw [m1])).same k2.1 (fun k _ _ => by rw [m2])) (by rw [m2, m1]; omega)
theorem hypC_get [DecidableEq Ob] {w : iST} {r : Int} {i : Nat} (h : (i : Int) < w.2.1 9 r) : (hypC w r)[i]? = some (oc w (w.2.1 50 (60 * r + (i : Int)))) := by
  unfold hypC
  rw [List.getElem?_map, List.getElem?_range (by omega)]
  rfl
theorem hypC_len [DecidableEq Ob] {w : iST} {r : Int} : (hypC w r).length = (w.2.1 9 r).toNat := by unfold hypC; simp
theorem st_apply [DecidableEq Ob] {m : Int} {o : Ob} {n : Nat} {l : List (Ob × Ob)} {k : Sp.Thm} {Rl : Sp.Rul} (hM : FmJ u0 E B R Q d c x g row v0 T K) (hsk : SkJ u0 E B R Q d c v0 T K x g row ctx m o n) (hk : E.thms[n]? = some k) (hr : k.rule = some Rl) (ho : Ob.wt (Sp.arOf E) o) (hmt : Ob.mt Rl.lhs o = some l) : ∀ j i : Nat, i + j = Rl.hyps.length → ApJ u0 E B R Q d c v0 T K x g row ctx m o n l Rl.rhs Rl.hyps i := by
  intro j
  induction j with
  | zero =>
    intro i hi t v hS hs h8 h9 h5 nm em hP ht
    have hC := hM.1
    have T0 := hM.2.2.2.2.2.2
    have hT := hS.ct
    have hE := hC.env hP
    obtain ⟨r1, r2, r3, r4, r5, r6, r7⟩ := rule_at hE hk hr
    obtain ⟨n7, c7, n8', c9, v8, hh⟩ := r3.2.2 r2
    refine hd_14 hS.2.1.1 hM.2.2.2.2.1 hS.2.2.1 (hC.turn hP hS.2.2.1 (by omega)) hs ?_
    unfold pv_6_apply
    intro _ _ n1 en1 _
    rw [en1, h8]
    intro _ _ n2 en2 _ _ _ n3 en3 _
    rw [en2, en3, h5]
    rw [r4] at hmt
    refine pc_matches hT n7 nm (fun w gw hno => ?_) (fun w gw bw hv hag hbd => ?_)
    · exact absurd (by rw [em]; exact mt_sound n7.2.1 ho hmt) (hno (Ob.lkD l))
    intro _ _ n5 en5 _
    have w51 : w.2.1 51 = v.2.1 51 := gw.2.2.2 51 (by decide)
    rw [en5, w51, h9]
    intro _ _ n6 en6 _
    have w9 : w.2.1 9 = v.2.1 9 := gw.2.2.2 9 (by decide)
    rw [en6, w9]
    have hlen : Rl.hyps.length = (v.2.1 9 (n : Int)).toNat := by rw [r6]; exact hypC_len
    refine ⟨fun z => by omega, fun _ => ?_⟩
    intro _ _ n15 en15 _
    have w8 : w.2.1 8 = v.2.1 8 := gw.2.2.2 8 (by decide)
    rw [en15, w8]
    have w32 : w.1 32 = 0 := by rw [gw.2.2.1 32 (by decide)]; exact hS.2.2.1
    have hSw := hS.gen gw f8b_J f8m_J (by decide) (by decide) w32
    have hPw := hP.same (gw.mono f8b_J f8m_J) (fun k h1 h2 => gw.2.2.1 k (by unfold f8b; exact decide_eq_false (by omega)))
    rw [List.drop_eq_nil_of_le (by omega), hypM_nil, bd_assoc, r5] at hPw
    obtain ⟨nrw, erw⟩ := n8'.up hT gw
    rw [← erw] at hPw
    rw [em] at hag
    refine pc_fillJ hPw hC.2.2.1 (fun a => Mono.bd (rw_mono _ _ _ _) (nf_mono hM.2.2.2.1 _)) (hE.mono hT (gw.mono f8b_J f8m_J)) nrw bw (fun y hy => mt_bind n7.2.1 ho hmt hag hbd y (v8 y (by rw [← erw]; exact hy))) (bdL_w hv) (fun q y gy yd nt hPy _ => ?_)
    have kz : RjK (c + 1) w y := RjK.of gy f8B_J f8W_J (by decide)
    have z31 : y.1 31 = v.1 31 := by rw [gy.2.2.1 31 (by decide), gw.2.2.1 31 (by decide)]
    exact fr_instead (t := t + 1) hM (hSw.1.tr kz (by omega)) (hSw.2.1.keep (by rw [gy.2.2.1 23 (by decide)]; exact hSw.2.1.1) (fun j hj _ => kz.2.1 j (by omega)) kz.2.2) hS.2.2.2.2.2 (hSw.2.2.2.2.1.up gw.1 gy) nt hPy (by rw [z31]; omega) (fun w h _ => h)
  | succ j ih =>
    intro i hi t v hS hs h8 h9 h5 nm em hP ht
    have hap := ih (i + 1) (by omega)
    have hC := hM.1
    have T0 := hM.2.2.2.2.2.2
    have hT := hS.ct
    have hE := hC.env hP
    obtain ⟨r1, r2, r3, r4, r5, r6, r7⟩ := rule_at hE hk hr
    obtain ⟨n7, c7, n8', c9, v8, hh⟩ := r3.2.2 r2
    refine hd_14 hS.2.1.1 hM.2.2.2.2.1 hS.2.2.1 (hC.turn hP hS.2.2.1 (by omega)) hs ?_
    unfold pv_6_apply
    intro _ _ n1 en1 _
    rw [en1, h8]
    intro _ _ n2 en2 _ _ _ n3 en3 _
    rw [en2, en3, h5]
    have hmt' := hmt
    rw [r4] at hmt'
    refine pc_matches hT n7 nm (fun w gw hno => ?_) (fun w gw bw hv hag hbd => ?_)
    · exact absurd (by rw [em]; exact mt_sound n7.2.1 ho hmt') (hno (Ob.lkD l))
    intro _ _ n5 en5 _
    have w51 : w.2.1 51 = v.2.1 51 := gw.2.2.2 51 (by decide)
    rw [en5, w51, h9]
    intro _ _ n6 en6 _
    have w9 : w.2.1 9 = v.2.1 9 := gw.2.2.2 9 (by decide)
    rw [en6, w9]
    have hlen : Rl.hyps.length = (v.2.1 9 (n : Int)).toNat := by rw [r6]; exact hypC_len
    refine ⟨fun _ => ?_, fun z => by omega⟩
    intro _ _ y1 e1 _ _ _ _ n9 en9 _ _ _ n10 en10 _
    have w32 : w.1 32 = 0 := by rw [gw.2.2.1 32 (by decide)]; exact hS.2.2.1
    have hSw := hS.gen gw f8b_J f8m_J (by decide) (by decide) w32
    have hPw := hP.same (gw.mono f8b_J f8m_J) (fun k h1 h2 => gw.2.2.1 k (by unfold f8b; exact decide_eq_false (by omega)))
    obtain ⟨k1, m1, c1, q1r, s1, q1⟩ := fr_set gw.1 e1 (by decide)
    have hS1 := hSw.set e1 (by decide)
    have hP1 := hPw.same k1.1 (fun k _ _ => by rw [m1])
    have g1 : CG f8Jn f8Jr v y1 := (gw.mono f8b_J f8m_J).tr k1.1
    have y50 : y1.2.1 50 = v.2.1 50 := by rw [q1r 50 (by decide)]; exact gw.2.2.2 50 (by decide)
    have y9 : y1.2.1 51 (17 * c + 9) = (i : Int) := by rw [s1 _ (by omega), w51]; exact h9
    rw [en10, en9, y9, y50]
    obtain ⟨nh, vh⟩ := hh (i : Int) (by omega) (by omega)
    obtain ⟨nh1, eh1⟩ := nh.up hT g1
    have hdrop : Rl.hyps.drop i = oc v (v.2.1 50 (60 * (n : Int) + (i : Int))) :: Rl.hyps.drop (i + 1) := by
      have hlt : i < Rl.hyps.length := by omega
      rw [List.drop_eq_getElem_cons hlt]
      congr 1
      have := hypC_get (w := v) (r := (n : Int)) (i := i) (by omega)
      rw [← r6, List.getElem?_eq_getElem hlt] at this
      exact Option.some.inj this
    rw [hdrop, hypM_cons, bd_assoc, ← eh1] at hP1
    simp only [bd_assoc] at hP1
    have mn : ∀ a : Ob, Mono (Sp.bd (if a = Ob.t then hypM E d ctx g o n l Rl.rhs (Rl.hyps.drop (i + 1)) else Sp.rwRules E (Sp.rw E d ctx) o (decide (g = 1)) (E.thms.take n).reverse) (fun y => K (Sp.fin (decide (g = 1)) y))) := fun a => Mono.bd (Mono.ite hypM_mono (rwRules_mono (fun o t => rw_mono _ _ _ _) _)) (nf_mono hM.2.2.2.1 _)
    rw [em] at hag
    have b1 := bw.mono gw.1 k1.1 (by rw [m1]) (q1r 35 (by decide)) (q1r 36 (by decide))
    have lw := bdL_w hv
    rw [← b1.2] at lw hag hbd
    refine pc_fillJ hP1 hC.2.2.1 (fun a => Mono.bd (rw_mono _ _ _ _) mn) (hE.mono hT g1) nh1 b1.1 (fun y hy => mt_bind (E := E) n7.2.1 ho hmt' hag hbd y (vh y (by rw [← eh1]; exact hy))) lw (fun q y gy yd nt hPy _ => ?_)
    intro n12 en12 _
    rw [en12]
    refine ⟨fun z _ => rj_dead hC hPy z, fun z => ?_⟩
    have y32 := Decidable.not_not.mp z
    have nO := nt.2.2 y32
    have hSy := hS1.gen gy f8B_J f8W_J (by decide) (by decide) y32
    intro _ _ n13 en13 _
    rw [en13, hSy.2.1.2.2.2.1]
    have y31 : y.1 31 = v.1 31 := by rw [gy.2.2.1 31 (by decide), m1, gw.2.2.1 31 (by decide)]
    refine fr_ask (t := t + 1) (k := 0) (g' := 1) hM hSy nO hSy.2.2.2.2.1 (Or.inr rfl) mn hPy (by decide) (by rw [y31]; omega) (fun w h _ => h) (fun w' a t' hSw' kw' na w24 hPw' ht' => ?_)
    have gvw : CG f8Jn f8Jr v w' := (g1.tr (gy.mono f8B_J f8W_J)).tr kw'.1
    obtain ⟨nm', em'⟩ := nm.up hT gvw
    have fr2 : ∀ j, j < 17 * (c + 1) → j ≠ 17 * c + 3 → w'.2.1 51 j = v.2.1 51 j := fun j hj h3 => by rw [kw'.2.1 j hj, gy.2.2.2 51 (by decide), s1 j h3, w51]
    exact st_judge (i := i) hM hsk hap hSw' (by rw [kw'.2.1 _ (by omega), gy.2.2.2 51 (by decide)]; exact q1) (by rw [fr2 _ (by omega) (by omega)]; exact h8) (by rw [fr2 _ (by omega) (by omega)]; exact h9) (by rw [fr2 _ (by omega) (by omega)]; exact h5) nm' (by rw [em']; exact em) w24 na hPw' (by omega)
end
