-- deps: 760
/-! the class: the clauses that say that a measure falls -/
def f8Xn (k : Nat) : Bool := decide (k = 13) || decide (k = 29) || decide (32 ≤ k ∧ k ≤ 35) || decide (k = 39)
def f8Xr (k : Nat) : Bool := decide (27 ≤ k ∧ k ≤ 43) || decide (46 ≤ k ∧ k ≤ 49)
theorem f8Y_X [DecidableEq Ob] : ∀ k, f8Xn k = false → f8Yn k = false := fun k h => by
  unfold f8Xn at h
  unfold f8Yn
  simp only [Bool.or_eq_false_iff, decide_eq_false_iff_not] at h ⊢
  omega
theorem f8Yr_X [DecidableEq Ob] : ∀ k, f8Xr k = false → f8Yr k = false := fun k h => by
  unfold f8Xr at h
  unfold f8Yr
  simp only [Bool.or_eq_false_iff, decide_eq_false_iff_not] at h ⊢
  omega
theorem f8i_X [DecidableEq Ob] : ∀ k, f8Xn k = false → f8i k = false := fun k h => by
  unfold f8Xn at h
  unfold f8i
  simp only [Bool.or_eq_false_iff, decide_eq_false_iff_not] at h ⊢
  omega
theorem f8j_X [DecidableEq Ob] : ∀ k, f8Xr k = false → f8j k = false := fun k h => by
  unfold f8Xr at h
  unfold f8j f8q
  simp only [Bool.or_eq_false_iff, decide_eq_false_iff_not] at h ⊢
  omega
theorem f8C_X [DecidableEq Ob] : ∀ k, f8Xr k = false → f8C k = false := fun k h => (Bool.or_eq_false_iff.mp h).2
theorem f813_X [DecidableEq Ob] : ∀ k, f8Xn k = false → decide (k = 13) = false := fun k h => by
  unfold f8Xn at h
  simp only [Bool.or_eq_false_iff, decide_eq_false_iff_not] at h ⊢
  omega
/-- the clauses given so far -/
def GvB [DecidableEq Ob] (v : iST) (E : Sp.Env) (gs : List Sp.Cla) : Prop := v.1 13 = (gs.length : Int) ∧ ∀ (i : Nat) (d : Sp.Cla), gs[i]? = some d → ClA v E (i : Int) d ∧ d.2 = 0
theorem GvB.up [DecidableEq Ob] {P : Int → Prop} {n r : Nat → Bool} {u v : iST} {E : Sp.Env} {gs : List Sp.Cla} (h : GvB u E gs) (hT : CT u) (g : CG n r u v) (h13 : v.1 13 = u.1 13) (o : OtC P u v) (hp : ∀ j : Nat, j < gs.length → P (j : Int)) : GvB v E gs := ⟨h13.trans h.1, fun i d hi => ⟨(h.2 i d hi).1.ot o hT g (hp i (List.getElem?_eq_some_iff.mp hi).1), (h.2 i d hi).2⟩⟩
theorem GvB.giv [DecidableEq Ob] {v : iST} {E : Sp.Env} {gs : List Sp.Cla} (h : GvB v E gs) (hl : gs.length ≤ 120) : ∀ j : Nat, j ≤ gs.length → GivC v E ((gs.length - j : Nat) : Int) (gs.drop (gs.length - j))
  | 0, _ => by
    rw [Nat.sub_zero, List.drop_length]
    exact h.1
  | j + 1, hj => by
    have ih := GvB.giv h hl j (by omega)
    have hi : gs.length - (j + 1) < gs.length := by omega
    have hg := List.getElem?_eq_getElem hi
    rw [drop_of hg]
    obtain ⟨a, b⟩ := h.2 _ _ hg
    have e : gs.length - (j + 1) + 1 = gs.length - j := by omega
    refine ⟨by omega, a, b, by rw [h.1]; omega, ?_⟩
    rw [e, show ((gs.length - (j + 1) : Nat) : Int) + 1 = ((gs.length - j : Nat) : Int) by omega]
    exact ih
theorem lkD_self [DecidableEq Ob] (x : Ob) : ∀ xs : List Ob, Ob.lkD (xs.zip xs) x = x
  | [] => rfl
  | a :: l => by
    have ih := lkD_self x l
    unfold Ob.lkD at ih ⊢
    show (if a = x then some a else Ob.lk (l.zip l) x).getD x = x
    by_cases c : a = x
    · rw [if_pos c]; exact c
    · rw [if_neg c]; exact ih
theorem meas_cons [DecidableEq Ob] {α : Type} (xs : List Ob) (m : Ob) (rs : List (Ob × Bool)) (c : Ob) (cs : List Ob) (K : List Sp.Cla → Sp.M α) : Sp.bd (Sp.measGo xs m rs (c :: cs)) K = Sp.bd (Sp.rulersGo (fun x => x) rs []) (fun l => Sp.bd (Sp.fill (Ob.lkD (xs.zip (Ob.toList (Ob.rgt c)))) m) (fun m2 => Sp.bd (Sp.mk2 Ob.less m2 m) (fun y => Sp.bd (Sp.bounded (Sp.putL l y)) (fun l => Sp.bd (Sp.measGo xs m rs cs) (fun cl => K ((l, 0) :: cl)))))) := by
  show Sp.bd (Sp.bd (Sp.rulersGo (fun x => x) rs []) (fun l => Sp.bd (Sp.fill (Ob.lkD (xs.zip (Ob.toList (Ob.rgt c)))) m) (fun m2 => Sp.bd (Sp.mk2 Ob.less m2 m) (fun y => Sp.bd (Sp.bounded (Sp.putL l y)) (fun l => Sp.bd (Sp.measGo xs m rs cs) (fun cl => Sp.ret ((l, 0) :: cl))))))) K = _
  simp only [bd_assoc]
  rfl
theorem Mono.bounded [DecidableEq Ob] {l : List Ob} : Mono (Sp.bounded l) := by
  unfold Sp.bounded
  exact Mono.ite Mono.ret Mono.fail
theorem measGo_mono [DecidableEq Ob] {xs : List Ob} {m : Ob} {rs : List (Ob × Bool)} : ∀ cs : List Ob, Mono (Sp.measGo xs m rs cs)
  | [] => Mono.ret
  | c :: cs => Mono.bd (rulers_mono _ _) (fun _ => Mono.bd Mono.big (fun _ => Mono.bd Mono.big (fun _ => Mono.bd Mono.bounded (fun _ => Mono.bd (measGo_mono cs) (fun _ => Mono.ret)))))
theorem measAll_mono [DecidableEq Ob] {xs : List Ob} {f m : Ob} : ∀ L : List (List (Ob × Bool) × Ob), Mono (Sp.measAll xs f m L)
  | [] => Mono.ret
  | p :: L => Mono.bd (measGo_mono _) (fun _ => Mono.bd (measAll_mono L) (fun _ => Mono.ret))
theorem calls_sz [DecidableEq Ob] (o f : Ob) : ((Sp.callsIn o f).length : Int) ≤ o.sz := by
  have h1 : (Sp.callsIn o f).length ≤ (Ob.parts o).length := List.length_filter_le _ _
  have h2 : ((Ob.parts o).length : Int) = o.sz := pt_len false o
  omega
theorem measAll_cons [DecidableEq Ob] {α : Type} (xs : List Ob) (f m : Ob) (p : List (Ob × Bool) × Ob) (L : List (List (Ob × Bool) × Ob)) (K : List Sp.Cla → Sp.M α) : Sp.bd (Sp.measAll xs f m (p :: L)) K = Sp.bd (Sp.measGo xs m p.1 (Sp.callsIn p.2 f)) (fun a => Sp.bd (Sp.measAll xs f m L) (fun b => K (a ++ b))) := by
  show Sp.bd (Sp.bd (Sp.measGo xs m p.1 (Sp.callsIn p.2 f)) (fun a => Sp.bd (Sp.measAll xs f m L) (fun b => Sp.ret (a ++ b)))) K = _
  simp only [bd_assoc]
  rfl
theorem pc_addMeasureClauses [DecidableEq Ob] {δ : Nat} {α : Type} {f a b m B : Int} {n r : Nat → Bool} {Q : iST → Prop} {u v : iST} {E : Sp.Env} {ar : Ob → Int} {R : EStateM.Result Unit Sp.Wk α} {K : List Sp.Cla → Sp.M α} {xs : List Ob} (hP : PdK_d B δ n r u v R (Sp.bd (Sp.measAll xs (oc v f) (oc v m) (Sp.paths (oc v b))) K)) (hn : ∀ k, n k = false → f8Xn k = false) (hr : ∀ k, r k = false → f8Xr k = false) (fit : Fit B R) (hK : ∀ a, Mono (K a)) (har : ar Ob.ifS = 3) (h6 : ∀ f, Sp.arOf E f ≤ 6)
    (vf : VN v f) (va : VN v a) (ea : oc v a = Ob.ofList xs) (hxs : xs.length ≤ 6) (vb : VN v b) (wb : Ob.wt ar (oc v b)) (zb : (oc v b).sz ≤ 120) (nm : NdC v E m)
    (hR : ∀ p, p ∈ Sp.paths (oc v b) → (∀ q, q ∈ p.1 → Ob.wt (Sp.arOf E) q.1) ∧ ∀ c, c ∈ Sp.callsIn p.2 (oc v f) → ∃ l, c = .pr (oc v f) (Ob.ofList l) ∧ l.length = xs.length ∧ ∀ a, a ∈ l → Ob.wt (Sp.arOf E) a ∧ a.sz ≤ 120) (h13 : v.1 13 = 0) (h32 : v.1 32 = 0)
    (hq : ∀ w, CG f8Xn f8Xr v w → (w.1 32 = 0 → ∃ cl s, GvB w E cl ∧ cl.length ≤ 120 ∧ Lv B w s ∧ R = K cl s) → (w.1 32 ≠ 0 → ∃ s, Dd_d B 3000 w s ∧ R = .error () s) → Q w) : pv_8_addMeasureClauses f a b m Q v := by
  have hT := hP.1.1
  have hP := hP.zero (δ' := 1500) h32
  obtain ⟨pe, pw⟩ := paths_end har _ (oc v b) (Nat.lt_succ_self _) wb
  have pl := endS_len (Sp.paths (oc v b))
  have nY : ∀ k, n k = false → f8Yn k = false := fun k h => f8Y_X k (hn k h)
  have rY : ∀ k, r k = false → f8Yr k = false := fun k h => f8Yr_X k (hr k h)
  have nB : ∀ k, n k = false → f8B k = false := fun k h => f8B_Y k (nY k h)
  have rW : ∀ k, r k = false → f8W k = false := fun k h => f8W_Y k (rY k h)
  have tl : Ob.toList (oc v a) = xs := by rw [ea, Ob.toList_ofList]
  have ia : itN (oc v a) = (xs.length : Int) := by
    have : (oc v a).len = (xs.length : Int) := by rw [ea, Ob.len_ofList]
    rw [itN_len (by omega), this]
  unfold pv_8_addMeasureClauses
  refine pc_goFirst hT har vb wb zb (fun v0 g0 c0 hPa => ?_)
  have g0X : CG f8Xn f8Xr v v0 := g0.mono (fun k h => f8h_i k (f8i_X k h)) (fun k h => f8g_j k (f8j_X k h))
  have P0 := hP.on g0 (fun k h => f8h_i k (f8i_X k (hn k h))) (fun k h => f8g_j k (f8j_X k (hr k h))) (g0.2.2.1 29 (by decide)) (g0.2.2.1 30 (by decide)) (g0.2.2.1 31 (by decide)) (g0.2.2.1 32 (by decide))
  refine pv_8_addMeasureClauses_11_i (fun x2 x3 x5 x6 x7 y => x2 = f ∧ x3 = a ∧ x5 = m ∧ 0 ≤ x7 ∧ CG f8Xn f8Xr v y ∧ ∃ (L : List (List (Ob × Bool) × Ob)) (gs : List Sp.Cla), ((x6 = 1 ∧ PaC y ar L) ∨ (x6 = 0 ∧ L = [])) ∧ x7 + (L.length : Int) ≤ 120 ∧ (∀ p, p ∈ L → p ∈ Sp.paths (oc v b)) ∧ (y.1 32 = 0 → GvB y E gs ∧ (gs.length : Int) + endS L ≤ 120) ∧ PdK_d B 1500 n r u y R (Sp.bd (Sp.measAll xs (oc v f) (oc v m) L) (fun b => K (gs ++ b)))) ?_ ⟨rfl, rfl, rfl, Int.le_refl _, g0X, Sp.paths (oc v b), [], Or.inl ⟨rfl, hPa⟩, by omega, fun _ h => h, fun _ => ⟨⟨by rw [g0.2.2.1 13 (by decide)]; exact h13, fun i d hi => by cases hi⟩, by show 0 + _ ≤ _; omega⟩, P0⟩
  rintro x2 x3 x5 x6 x7 y ⟨b2, b3, b5, x70, gy, L, gs, hL, hl, hsub, hal, hPy⟩
  rw [b2, b3, b5]
  unfold pv_8_addMeasureClauses_11b
  refine ⟨fun z => by omega, fun _ => ⟨fun z => ?_, fun z => ?_⟩⟩
  · rcases hL with ⟨q, _⟩ | ⟨_, q⟩
    · omega
    · rw [q] at hPy
      have hPy : PdK_d B 1500 n r u y R (K (gs ++ [])) := hPy
      rw [List.append_nil] at hPy
      refine hq y gy (fun q0 => ?_) (fun q0 => hPy.dead q0)
      obtain ⟨s, hs, e⟩ := hPy.live q0
      refine ⟨gs, s, (hal q0).1, ?_, hs, e⟩
      have := (hal q0).2
      rw [q] at this
      have this : (gs.length : Int) + 0 ≤ 120 := this
      omega
  intro v2 e2 _
  refine ⟨fun q0 => hq y gy (fun q1 => absurd q1 (by rw [← e2]; exact q0)) (fun q1 => hPy.dead q1), fun q0 => ?_⟩
  have ya : y.1 32 = 0 := by rw [← e2]; exact Decidable.not_not.mp q0
  rcases hL with ⟨_, hPa⟩ | ⟨q, _⟩
  rotate_left
  · exact absurd q z
  cases L with
  | nil => obtain ⟨_, _, _, _, e⟩ := hPa; cases e
  | cons p L =>
    have hl : x7 + ((L.length + 1 : Nat) : Int) ≤ 120 := hl
    obtain ⟨hG0, hgl⟩ := hal ya
    have hgl : (gs.length : Int) + (p.2.sz + endS L) ≤ 120 := hgl
    obtain ⟨hRr, hRc⟩ := hR p (hsub p (List.mem_cons_self))
    obtain ⟨pwr, _, _⟩ := pw p (hsub p (List.mem_cons_self))
    have hcl := calls_sz p.2 (oc v f)
    rw [measAll_cons] at hPy
    generalize hcs : Sp.callsIn p.2 (oc v f) = cs at hPy hRc hcl
    refine pc_listCalls gy.1 hPa (vf.up gy) (fun y1 g1 c1 hCa => ?_)
    rw [gy.oc hT vf.1 vf.2, hcs] at hCa
    have g1X : CG f8Xn f8Xr v y1 := gy.tr (g1.mono (fun k h => f8n_i k (f8i_X k h)) (fun k h => f8o_j k (f8j_X k h)))
    have P1 := hPy.on g1 (fun k h => f8n_i k (f8i_X k (hn k h))) (fun k h => f8o_j k (f8j_X k (hr k h))) (g1.2.2.1 29 (by decide)) (g1.2.2.1 30 (by decide)) (g1.2.2.1 31 (by decide)) (g1.2.2.1 32 (by decide))
    have hPa1 := hPa.up gy.1 g1 (g1.2.2.1 33 (by decide)) (g1.2.2.1 34 (by decide)) (g1.2.2.2 31 (by decide)) (g1.2.2.2 32 (by decide))
    have rows1 : ∀ k, 46 ≤ k → k ≤ 49 → y1.2.1 k = y.2.1 k := fun k h1 h2 => g1.2.2.2 k (by unfold f8o f8q; simp only [Bool.or_eq_false_iff, decide_eq_false_iff_not]; omega)
    refine pv_8_addMeasureClauses_41_i (fun x2 x3 x5 y7 x8 y => x2 = f ∧ x3 = a ∧ x5 = m ∧ y7 = x7 ∧ ∃ k : Nat, x8 = (k : Int) ∧ k ≤ cs.length ∧ CG f8Xn f8Xr v y ∧ PaC y ar (p :: L) ∧ CaC y cs ∧ ∃ gs : List Sp.Cla, (y.1 32 = 0 → GvB y E gs ∧ (gs.length : Int) + ((cs.length : Int) - (k : Int)) + endS L ≤ 120) ∧ PdK_d B 1500 n r u y R (Sp.bd (Sp.measGo xs (oc v m) p.1 (cs.drop k)) (fun a => Sp.bd (Sp.measAll xs (oc v f) (oc v m) L) (fun b => K (gs ++ (a ++ b)))))) ?_ ⟨rfl, rfl, rfl, rfl, 0, rfl, Nat.zero_le _, g1X, hPa1, hCa, gs, fun _ => ⟨hG0.up gy.1 g1 (g1.2.2.1 13 (by decide)) (OtC.of (P := fun _ => True) rows1) (fun _ _ => trivial), by omega⟩, by rw [List.drop_zero]; exact P1⟩
    rintro x2 x3 x5 y7 x8 w ⟨d2, d3, d5, d7, k, d8, hk, gw, hPw, hCw, gs, hal, hPd⟩
    rw [d2, d3, d5, d7, d8]
    unfold pv_8_addMeasureClauses_41b
    have done : (w.1 32 = 0 → cs.drop k = []) → pv_8_addMeasureClauses_133 (fun x2 x3 x5 x6 x7 y => x2 = f ∧ x3 = a ∧ x5 = m ∧ 0 ≤ x7 ∧ CG f8Xn f8Xr v y ∧ ∃ (L : List (List (Ob × Bool) × Ob)) (gs : List Sp.Cla), ((x6 = 1 ∧ PaC y ar L) ∨ (x6 = 0 ∧ L = [])) ∧ x7 + (L.length : Int) ≤ 120 ∧ (∀ p, p ∈ L → p ∈ Sp.paths (oc v b)) ∧ (y.1 32 = 0 → GvB y E gs ∧ (gs.length : Int) + endS L ≤ 120) ∧ PdK_d B 1500 n r u y R (Sp.bd (Sp.measAll xs (oc v f) (oc v m) L) (fun b => K (gs ++ b)))) Q f a m x7 w := by
      intro hdr
      have Pn : PdK_d B 1500 n r u w R (Sp.bd (Sp.measAll xs (oc v f) (oc v m) L) (fun b => K (gs ++ b))) := by
        by_cases q : w.1 32 = 0
        · rw [hdr q] at hPd
          exact hPd
        · exact hPd.any q _
      have next : ∀ z, CG f8h f8g w z → CG f8Xn f8Xr v z ∧ (z.1 32 = 0 → GvB z E gs ∧ (gs.length : Int) + endS L ≤ 120) ∧ PdK_d B 1500 n r u z R (Sp.bd (Sp.measAll xs (oc v f) (oc v m) L) (fun b => K (gs ++ b))) := fun z gz => by
        have rz : ∀ k, 46 ≤ k → k ≤ 49 → z.2.1 k = w.2.1 k := fun k h1 h2 => gz.2.2.2 k (by unfold f8g; exact decide_eq_false (by omega))
        refine ⟨gw.tr (gz.mono (fun k h => f8h_i k (f8i_X k h)) (fun k h => f8g_j k (f8j_X k h))), fun q => ?_, Pn.on gz (fun k h => f8h_i k (f8i_X k (hn k h))) (fun k h => f8g_j k (f8j_X k (hr k h))) (gz.2.2.1 29 (by decide)) (gz.2.2.1 30 (by decide)) (gz.2.2.1 31 (by decide)) (gz.2.2.1 32 (by decide))⟩
        rw [gz.2.2.1 32 (by decide)] at q
        obtain ⟨a1, a2⟩ := hal q
        exact ⟨a1.up gw.1 gz (gz.2.2.1 13 (by decide)) (OtC.of (P := fun _ => True) rz) (fun _ _ => trivial), by omega⟩
      have sub : ∀ p', p' ∈ L → p' ∈ Sp.paths (oc v b) := fun p' h => hsub p' (List.mem_cons_of_mem _ h)
      unfold pv_8_addMeasureClauses_133
      refine pc_goNext gw.1 har hPw (fun z e gz _ => ?_) (fun z gz _ hz => ?_)
      · intro _
        obtain ⟨n1, n2, n3⟩ := next z gz
        exact ⟨rfl, rfl, rfl, by omega, n1, L, gs, Or.inr ⟨rfl, e⟩, by omega, sub, n2, n3⟩
      · intro _
        obtain ⟨n1, n2, n3⟩ := next z gz
        exact ⟨rfl, rfl, rfl, by omega, n1, L, gs, Or.inl ⟨rfl, hz⟩, by omega, sub, n2, n3⟩
    intro v4 e4 _
    rw [hCw.1] at e4
    refine ⟨fun h => done (fun _ => List.drop_eq_nil_of_le (by omega)), fun h => ?_⟩
    intro v7 e7 _
    refine ⟨fun q => done (fun q1 => absurd q1 (by rw [← e7]; exact q)), fun q => ?_⟩
    have wa : w.1 32 = 0 := by rw [← e7]; exact Decidable.not_not.mp q
    have hPd := hPd.zero (δ' := 0) wa
    obtain ⟨hG, hgl⟩ := hal wa
    have kl : k < cs.length := by omega
    obtain ⟨kc1, kc2⟩ := hCw.get kl
    obtain ⟨la, elc, ell, hla⟩ := hRc _ (List.mem_of_getElem? kc2)
    rw [drop_of kc2, meas_cons, elc] at hPd
    have eln := endS_len L
    -- a new clause
    refine pc_newClause (E := E) gw.1 hG.1 (by omega) (fun w1 c120 w1n w13 gw1 o1 W1 l1 w48 => ?_) (fun w1 c120 _ _ => by omega)
    have g1' : CG f8Xn f8Xr w w1 := gw1.mono f813_X f8C_X
    have P2 : PdK_d B 0 n r u w1 R _ := hPd.on gw1 (fun k h => f813_X k (hn k h)) (fun k h => f8C_X k (hr k h)) (w1n 29 (by decide)) (w1n 30 (by decide)) (w1n 31 (by decide)) (w1n 32 (by decide))
    have w1a : w1.1 32 = 0 := (w1n 32 (by decide)).trans wa
    have hPw1 := hPw.up gw.1 gw1 (w1n 33 (by decide)) (w1n 34 (by decide)) (gw1.2.2.2 31 (by decide)) (gw1.2.2.2 32 (by decide))
    obtain ⟨dn, d33, dS, _, dL⟩ := hPw1
    have ep1 : p.1 = preP w1 dn := by rw [(List.cons.inj dL).1]
    have gv1 := gw.tr g1'
    have oa1 : oc w1 a = oc v a := gv1.oc hT va.1 va.2
    have va1 := va.up gv1
    rw [← l1, ep1] at P2
    refine pc_addRulers P2 nY rY fit (fun _ => Mono.bd Mono.big (fun _ => Mono.bd Mono.big (fun _ => Mono.bd Mono.bounded (fun _ => Mono.bd (measGo_mono _) (fun _ => Mono.bd (measAll_mono _) (fun _ => hK _)))))) (fun l hb => Die.bd NoT.big (fun _ => Die.bd NoT.big (fun _ => Die.left (die_bounded (bndF hb)) _))) d33 dS (fun q hq' => ?_) h6 (fun _ => ⟨W1, by rw [l1]; rfl⟩) va1 va1 rfl (by rw [oa1, ia]; omega) (fun q _ x _ => (lkD_self x _).symm) (fun x hx => by rw [lkD_self]; exact var_w hx) (fun w2 gw2 w2d hC2 P3 => ?_)
    · rw [← ep1] at hq'
      exact ⟨hRr q hq', by have := (pwr q hq').2; omega⟩
    have gv2 : CG f8Xn f8Xr v w2 := gv1.tr (gw2.mono f8Y_X f8Yr_X)
    intro _ _ v10 e10 _
    have r33 : w2.2.1 33 = w.2.1 33 := (gw2.2.2.2 33 (by decide)).trans (gw1.2.2.2 33 (by decide))
    rw [r33] at e10
    rw [← e10] at kc1 kc2 elc
    have gww2 : CG f8Xn f8Xr w w2 := g1'.tr (gw2.mono f8Y_X f8Yr_X)
    have o10 : oc w2 v10 = oc w v10 := gww2.oc gw.1 kc1.1 kc1.2
    refine pc_right gw2.1 (kc1.up gww2) (fun v11 vv11 e11 => ?_)
    rw [o10, elc] at e11
    have e11 : oc w2 v11 = Ob.ofList la := e11
    have oa2 : oc w2 a = oc v a := gv2.oc hT va.1 va.2
    have i11 : itN (oc w2 v11) = (la.length : Int) := by
      have : (oc w2 v11).len = (la.length : Int) := by rw [e11, Ob.len_ofList]
      rw [itN_len (by omega), this]
    refine pc_bindRow gw2.1 (va.up gv2) vv11 (by rw [oa2, ia, i11, ell]) (by rw [oa2, ia]; omega) (fun w3 gw3 b3' eb3 c3 => ?_)
    rw [oa2, tl, e11, Ob.toList_ofList] at eb3
    have gv3 : CG f8Xn f8Xr v w3 := gv2.tr (gw3.mono (fun k h => f8b_Y k (f8Y_X k h)) (fun k h => f8m_Y k (f8Yr_X k h)))
    have P4 := P3.on gw3 (fun k h => f8b_Y k (nY k h)) (fun k h => f8m_Y k (rY k h)) (gw3.2.2.1 29 (by decide)) (gw3.2.2.1 30 (by decide)) (gw3.2.2.1 31 (by decide)) (gw3.2.2.1 32 (by decide))
    have rows3 : ∀ k, 46 ≤ k → k ≤ 49 → w3.2.1 k = w2.2.1 k := fun k h1 h2 => gw3.2.2.2 k (by unfold f8m; simp only [Bool.or_eq_false_iff, decide_eq_false_iff_not]; omega)
    obtain ⟨nm3, em3⟩ := nm.up hT gv3
    have erg : Ob.toList (Ob.rgt (Ob.pr (oc v f) (Ob.ofList la))) = la := Ob.toList_ofList la
    rw [erg, ← em3] at P4
    refine pc_fillG P4 nB rW fit (fun _ => Mono.bd Mono.big (fun _ => Mono.bd Mono.bounded (fun _ => Mono.bd (measGo_mono _) (fun _ => Mono.bd (measAll_mono _) (fun _ => hK _))))) h6 nm3 b3' (fun x _ => by rw [eb3]) (fun x hx => by rw [eb3]; exact lkD_w (P := fun y => Ob.wt (Sp.arOf E) y ∧ y.sz ≤ 120) _ (fun pr hp => hla pr.2 (List.of_mem_zip hp).2) (var_w hx)) (fun v13 w4 gw4 w4d n13 P5 _ => ?_)
    obtain ⟨nm4, em4⟩ := nm3.up gw3.1 gw4
    rw [← em4] at P5
    obtain ⟨k0, k1, k2⟩ := knC gw4.1 9 (o := Ob.less) (by decide) (by decide) rfl
    refine pc_mk2_d P5 nB rW fit (fun _ => Mono.bd Mono.bounded (fun _ => Mono.bd (measGo_mono _) (fun _ => Mono.bd (measAll_mono _) (fun _ => hK _)))) ⟨⟨k0, k1⟩, k2⟩ (Ob.sym_isSym _) (Ob.sym_ne (by decide)) (arOf_less E) n13 nm4.d (fun v14 w5 gw5 w5d n14 P6 _ => ?_)
    have g35 := gw4.tr gw5
    have rows5 : ∀ k, 46 ≤ k → k ≤ 49 → w5.2.1 k = w2.2.1 k := fun k h1 h2 => (f8B_rows g35 k h1 h2).trans (rows3 k h1 h2)
    have g25 : CG f8Yn f8Yr w2 w5 := (gw3.mono f8b_Y f8m_Y).tr (g35.mono f8B_Y f8W_Y)
    have dead25 : w2.1 32 ≠ 0 → w5.1 32 ≠ 0 := fun q => w5d (w4d (by rw [gw3.2.2.1 32 (by decide)]; exact q))
    have live2 : w5.1 32 = 0 → w2.1 32 = 0 := fun q => by
      by_cases q2 : w2.1 32 = 0
      · exact q2
      · exact absurd q (dead25 q2)
    have W5 : w5.1 32 = 0 → ClW w5 E (gs.length : Int) ∧ clC w5 (gs.length : Int) = clC w2 (gs.length : Int) := fun q => (hC2 (live2 q)).2.1.up gw2.1 g25 rows5
    have P7 : PdK_d B 1500 n r u w5 R (Sp.bd (Sp.bounded (Sp.putL (clC w5 (gs.length : Int)) (oc w5 v14))) (fun l => Sp.bd (Sp.measGo xs (oc v m) p.1 (cs.drop (k + 1))) (fun cl => Sp.bd (Sp.measAll xs (oc v f) (oc v m) L) (fun b => K (gs ++ (((l, 0) :: cl) ++ b)))))) := by
      by_cases q : w5.1 32 = 0
      · rw [(W5 q).2]
        rw [em4, em3] at P6
        rw [ep1]
        exact P6
      · exact P6.any q _
    refine pc_joinP (K := fun l' => Sp.bd (Sp.bounded l') (fun l => Sp.bd (Sp.measGo xs (oc v m) p.1 (cs.drop (k + 1))) (fun cl => Sp.bd (Sp.measAll xs (oc v f) (oc v m) L) (fun b => K (gs ++ (((l, 0) :: cl) ++ b)))))) P7 (fun j h => f8T_Y j (nY j h)) (fun j h => f8C_Y j (rY j h)) (fun q => ⟨(W5 q).1, by rw [(W5 q).2]; exact (hC2 (live2 q)).2.2.1⟩) n14 (fun l hb => Die.left (die_bounded hb) _) (fun w6 gw6 _ w6d hal6 P8 => ?_)
    intro _
    have g26 : CG f8Yn f8Yr w2 w6 := g25.tr (gw6.mono f8T_Y f8C_Y)
    have gww6 : CG f8Xn f8Xr w w6 := gww2.tr (g26.mono f8Y_X f8Yr_X)
    refine ⟨rfl, rfl, rfl, rfl, k + 1, by omega, by omega, gw.tr gww6, hPw.up gw.1 gww6 ?_ ?_ ?_ ?_, hCw.up gw.1 gww6 ?_ ?_, gs ++ [(clC w6 (gs.length : Int), 0)], fun q => ?_, ?_⟩
    · rw [g26.2.2.1 33 (by decide), gw2.2.2.1 33 (by decide), w1n 33 (by decide)]
    · rw [g26.2.2.1 34 (by decide), gw2.2.2.1 34 (by decide), w1n 34 (by decide)]
    · rw [g26.2.2.2 31 (by decide), gw2.2.2.2 31 (by decide), gw1.2.2.2 31 (by decide)]
    · rw [g26.2.2.2 32 (by decide), gw2.2.2.2 32 (by decide), gw1.2.2.2 32 (by decide)]
    · rw [g26.2.2.1 35 (by decide), gw2.2.2.1 35 (by decide), w1n 35 (by decide)]
    · rw [g26.2.2.2 33 (by decide), r33]
    · obtain ⟨ck, W6, hb6, e48⟩ := hal6 q
      have q5 : w5.1 32 = 0 := by
        by_cases q5 : w5.1 32 = 0
        · exact q5
        · exact absurd q (w6d q5)
      obtain ⟨o2, W2, hb2, e2'⟩ := hC2 (live2 q5)
      have oAll : OtC (fun j => j ≠ (gs.length : Int)) w w6 := o1.tr (o2.tr ((OtC.of rows5).tr (ck.ot (fun j hj => hj))))
      have n13 : w6.1 13 = (gs.length : Int) + 1 := by rw [g26.2.2.1 13 (by decide), gw2.2.2.1 13 (by decide), w13]
      refine ⟨⟨by rw [n13, List.length_append]; show _ = ((gs.length + 1 : Nat) : Int); omega, fun i d hi => ?_⟩, by rw [List.length_append]; show ((gs.length + 1 : Nat) : Int) + _ + _ ≤ _; omega⟩
      by_cases ci : i < gs.length
      · rw [List.getElem?_append_left ci] at hi
        exact ⟨(hG.2 i d hi).1.ot oAll gw.1 gww6 (by omega), (hG.2 i d hi).2⟩
      · have hi2 := (List.getElem?_eq_some_iff.mp hi).1
        rw [List.length_append] at hi2
        have hi2 : i < gs.length + 1 := hi2
        have ei : i = gs.length := by omega
        rw [ei, List.getElem?_append_right (Nat.le_refl _), Nat.sub_self] at hi
        have hi : some (clC w6 (gs.length : Int), 0) = some d := hi
        rw [← Option.some.inj hi, ei]
        refine ⟨⟨W6, rfl, ?_⟩, rfl⟩
        rw [e48, rows5 48 (by decide) (by decide), e2', w48]
        rfl
    · by_cases q : w6.1 32 = 0
      · have hb6 := (hal6 q).2.2.1
        have eb : Sp.bounded (clC w6 (gs.length : Int)) = Sp.ret (clC w6 (gs.length : Int)) := if_pos hb6
        rw [eb] at P8
        have P8 : PdK_d B 1500 n r u w6 R (Sp.bd (Sp.measGo xs (oc v m) p.1 (cs.drop (k + 1))) (fun cl => Sp.bd (Sp.measAll xs (oc v f) (oc v m) L) (fun b => K (gs ++ (((clC w6 (gs.length : Int), 0) :: cl) ++ b))))) := P8
        simp only [List.append_assoc, List.cons_append, List.nil_append] at P8 ⊢
        exact P8
      · exact P8.any q _
