-- deps: 730
/-! the class: terms are asked, ended -/
/-- the notes: there are more, and those before stay -/
def NtK [DecidableEq Ob] (u v : iST) : Prop := u.1 26 ≤ v.1 26 ∧ v.1 26 - u.1 26 ≤ v.1 31 - u.1 31 ∧ ∀ i, i < 5 * u.1 26 → v.2.1 52 i = u.2.1 52 i
theorem NtK.rf [DecidableEq Ob] (u : iST) : NtK u u := ⟨Int.le_refl _, by omega, fun _ _ => rfl⟩
theorem NtK.tr [DecidableEq Ob] {u v w : iST} (h : NtK u v) (g : NtK v w) : NtK u w := by
  obtain ⟨h1, h2, h3⟩ := h
  obtain ⟨g1, g2, g3⟩ := g
  exact ⟨by omega, by omega, fun i hi => (g3 i (by omega)).trans (h3 i hi)⟩
theorem NtK.of [DecidableEq Ob] {u v : iST} (h26 : v.1 26 = u.1 26) (h31 : u.1 31 ≤ v.1 31) (h52 : v.2.1 52 = u.2.1 52) : NtK u v := ⟨by omega, by omega, fun i _ => by rw [h52]⟩
/-- the own note of a frame: its place, what is asked -/
def NtF [DecidableEq Ob] (c x g row ni : Int) (v : iST) : Prop := v.2.1 51 (17 * c + 4) = ni ∧ ni < v.1 26 ∧ v.1 26 ≤ v.1 31 ∧ v.2.1 52 (5 * ni + 0) = x ∧ v.2.1 52 (5 * ni + 1) = g ∧ v.2.1 52 (5 * ni + 2) = row
/-- a note that is whole -/
def NtO [DecidableEq Ob] (x g row ni a : Int) (w : iST) : Prop := ni < w.1 26 ∧ w.1 26 ≤ w.1 31 ∧ w.2.1 52 (5 * ni + 0) = x ∧ w.2.1 52 (5 * ni + 1) = g ∧ w.2.1 52 (5 * ni + 2) = row ∧ w.2.1 52 (5 * ni + 3) = a ∧ w.2.1 52 (5 * ni + 4) = w.1 26
def RjK [DecidableEq Ob] (c : Int) (u v : iST) : Prop := CG f8Jn f8Jr u v ∧ (∀ j, j < 17 * c → v.2.1 51 j = u.2.1 51 j) ∧ NtK u v
theorem RjK.rf [DecidableEq Ob] {c : Int} {u : iST} (h : CT u) : RjK c u u := ⟨CG.rf h, fun _ _ => rfl, NtK.rf u⟩
theorem RjK.tr [DecidableEq Ob] {c c' : Int} {u v w : iST} (h : RjK c u v) (g : RjK c' v w) (hc : c ≤ c') : RjK c u w := ⟨h.1.tr g.1, fun j hj => (g.2.1 j (by omega)).trans (h.2.1 j hj), h.2.2.tr g.2.2⟩
theorem RjK.of [DecidableEq Ob] {c : Int} {n r : Nat → Bool} {u v : iST} (g : CG n r u v) (hn : ∀ k, f8Jn k = false → n k = false) (hr : ∀ k, f8Jr k = false → r k = false) (h : r 51 = false ∧ r 52 = false ∧ n 26 = false ∧ n 31 = false) : RjK c u v := ⟨g.mono hn hr, fun j _ => by rw [g.2.2.2 51 h.1], NtK.of (g.2.2.1 26 h.2.2.1) (Int.le_of_eq (g.2.2.1 31 h.2.2.2).symm) (g.2.2.2 52 h.2.1)⟩
theorem RjK.of31 [DecidableEq Ob] {c : Int} {n r : Nat → Bool} {u v : iST} (g : CG n r u v) (hn : ∀ k, f8Jn k = false → n k = false) (hr : ∀ k, f8Jr k = false → r k = false) (h : r 51 = false ∧ r 52 = false ∧ n 26 = false) (h31 : u.1 31 ≤ v.1 31) : RjK c u v := ⟨g.mono hn hr, fun j _ => by rw [g.2.2.2 51 h.1], NtK.of (g.2.2.1 26 h.2.2) h31 (g.2.2.2 52 h.2.1)⟩
/-- the innermost frame: its term, goal, row -/
def FrJ [DecidableEq Ob] (c x g row ni : Int) (v : iST) : Prop := v.1 23 = c + 1 ∧ v.2.1 51 (17 * c + 0) = x ∧ v.2.1 51 (17 * c + 1) = g ∧ v.2.1 51 (17 * c + 2) = row ∧ NtF c x g row ni v
theorem FrJ.keep [DecidableEq Ob] {c x g row ni : Int} {v w : iST} (h : FrJ c x g row ni v) (e23 : w.1 23 = c + 1) (e : ∀ j, j < 17 * c + 5 → j ≠ 17 * c + 3 → w.2.1 51 j = v.2.1 51 j) (n : NtK v w) : FrJ c x g row ni w := by
  obtain ⟨h1, h2, h3, h4, h5, h6, h7, h8, h9, h10⟩ := h
  obtain ⟨n1, n2, n3⟩ := n
  exact ⟨e23, by rw [e _ (by omega) (by omega)]; exact h2, by rw [e _ (by omega) (by omega)]; exact h3, by rw [e _ (by omega) (by omega)]; exact h4, by rw [e _ (by omega) (by omega)]; exact h5, by omega, by omega, by rw [n3 _ (by omega)]; exact h8, by rw [n3 _ (by omega)]; exact h9, by rw [n3 _ (by omega)]; exact h10⟩
/-- a place of the frame is set -/
theorem fr_set [DecidableEq Ob] {c i y : Int} {v w : iST} (hT : CT v) (ew : w = iA v 51 (17 * c + i) y) (i3 : 3 ≤ i) : RjK c v w ∧ w.1 = v.1 ∧ w.2.2 = v.2.2 ∧ (∀ k, k ≠ 51 → w.2.1 k = v.2.1 k) ∧ (∀ j, j ≠ 17 * c + i → w.2.1 51 j = v.2.1 51 j) ∧ w.2.1 51 (17 * c + i) = y := by
  have h51 : ∀ j, w.2.1 51 j = if j = 17 * c + i then y else v.2.1 51 j := fun j => by rw [ew]; rfl
  refine ⟨⟨by rw [ew]; exact CG_A hT (by omega) (by decide), fun j hj => by rw [h51, if_neg (by omega)], NtK.of (by rw [ew]; rfl) (by rw [ew]; exact Int.le_refl _) (by rw [ew]; rfl)⟩, by rw [ew]; rfl, by rw [ew]; rfl, fun k hk => by rw [ew]; exact if_neg hk, fun j hj => by rw [h51, if_neg hj], by rw [h51, if_pos rfl]⟩
theorem PdK.same [DecidableEq Ob] {α : Type} {B : Int} {u v w : iST} {R : EStateM.Result Unit Sp.Wk α} {m : Sp.M α} (h : PdK B f8Jn f8Jr u v R m) (g : CG f8Jn f8Jr v w) (e : ∀ k, 29 ≤ k → k ≤ 32 → w.1 k = v.1 k) : PdK B f8Jn f8Jr u w R m := h.on g (fun _ q => q) (fun _ q => q) (e 29 (by decide) (by decide)) (e 30 (by decide) (by decide)) (e 31 (by decide) (by decide)) (e 32 (by decide) (by decide))
/-- what holds through a whole rewriting -/
def CtJ [DecidableEq Ob] {α : Type} (u0 : iST) (E : Sp.Env) (B : Int) (R : EStateM.Result Unit Sp.Wk α) (Q : Int → iST → Prop) : Prop := CT u0 ∧ EnvC u0 E ∧ Fit B R ∧ (0 ≤ u0.1 31 ∧ u0.1 30 ≤ 1000) ∧ ∀ w s, CG f8Jn f8Jr u0 w → Dd w s → R = .error () s → Q (-1) w
theorem CtJ.env [DecidableEq Ob] {α : Type} {u0 v : iST} {E : Sp.Env} {B : Int} {R : EStateM.Result Unit Sp.Wk α} {Q : Int → iST → Prop} {m : Sp.M α} (h : CtJ u0 E B R Q) (hP : PdK B f8Jn f8Jr u0 v R m) : EnvC v E := h.2.1.mono h.1 hP.1
theorem CtJ.turn [DecidableEq Ob] {α : Type} {u0 v : iST} {E : Sp.Env} {B : Int} {R : EStateM.Result Unit Sp.Wk α} {Q : Int → iST → Prop} {m : Sp.M α} (h : CtJ u0 E B R Q) (hP : PdK B f8Jn f8Jr u0 v R m) (h32 : v.1 32 = 0) {t : Int} (ht : t ≤ 24 * (v.1 31 - u0.1 31)) : t < 1000000 := by
  obtain ⟨s, hl, _⟩ := hP.live h32
  have e30 : v.1 30 = u0.1 30 := hP.1.2.2.1 30 (by decide)
  have h2 := hl.2.1
  unfold StS StC at h2
  have := h.2.2.2.1
  omega
theorem rj_dead [DecidableEq Ob] {α : Type} {u0 w : iST} {E : Sp.Env} {B t : Int} {R : EStateM.Result Unit Sp.Wk α} {Q : Int → iST → Prop} {m : Sp.M α} (hC : CtJ u0 E B R Q) (hP : PdK B f8Jn f8Jr u0 w R m) (h : w.1 32 ≠ 0) : pv_6_rewritten_20 Q t w := by
  obtain ⟨s, hd, e⟩ := hP.dead h
  have fin : pv_6_rewritten_405 Q w := by
    unfold pv_6_rewritten_405
    intro a ea _
    rw [ea]
    exact ⟨fun _ => hC.2.2.2.2 w s hP.1 hd e, fun z => absurd h z⟩
  refine fo_v_6_rewritten_20 ?_
  unfold pv_6_rewritten_20b
  refine ⟨fun _ => fin, fun _ => ?_⟩
  intro a ea _
  refine ⟨fun _ => fin, fun _ => ?_⟩
  intro b eb _
  rw [eb]
  exact ⟨fun _ => fin, fun z => absurd h z⟩
/-- what is owed when a term ends -/
def OwJ [DecidableEq Ob] {α : Type} (u0 : iST) (E : Sp.Env) (B : Int) (R : EStateM.Result Unit Sp.Wk α) (Q : Int → iST → Prop) (c x g row : Int) (v0 : iST) (T : Int) (K : Ob → Sp.M α) : Prop := ∀ w a t, RjK c v0 w → NdC w E a → w.1 24 = a → w.1 23 = c → w.1 32 = 0 → PdK B f8Jn f8Jr u0 w R (K (oc w a)) → t + T ≤ 24 * (w.1 31 - u0.1 31) → NtO x g row (v0.1 26) a w → pv_6_rewritten_20 Q t w
def RjG [DecidableEq Ob] {α : Type} (u0 : iST) (E : Sp.Env) (B : Int) (R : EStateM.Result Unit Sp.Wk α) (Q : Int → iST → Prop) (d : Nat) : Prop := ∀ (ctx : List Ob) (x g row c t T : Int) (v : iST) (K : Ob → Sp.M α) (L : iST → Prop), (∀ w, pv_6_rewritten_20 Q t w → L w) → PdK B f8Jn f8Jr u0 v R (Sp.bd (Sp.rw E d ctx (oc v x) (decide (g = 1))) K) → v.1 32 = 0 → (∀ a, Mono (K a)) → v.1 23 = c → 0 ≤ c → c + (d : Int) = 60 → (g = 0 ∨ g = 1) → NdC v E x → CxC v E row ctx → 0 ≤ T → t + T ≤ 24 * (v.1 31 - u0.1 31) + 4 → t ≤ 24 * (v.1 31 - u0.1 31) → v.1 26 ≤ v.1 31 → OwJ u0 E B R Q c x g row v T K → pv_6_ask x g row L v
theorem CG_Cp [DecidableEq Ob] {n r : Nat → Bool} {u : iST} {k j : Nat} {a b m : Int} (h : CT u) (hk : k < 27 ∨ 30 < k) (hr : r k = true) : CG n r u (iCp u k j a b m) := by
  obtain ⟨x, y⟩ := CT_same (v := iCp u k j a b m) h rfl (fun i h1 h2 => if_neg (by omega)) rfl
  exact ⟨x, y, fun _ _ => rfl, fun i hi => if_neg (fun e => by rw [e, hr] at hi; cases hi)⟩
theorem pc_ask [DecidableEq Ob] {α : Type} {u0 v : iST} {E : Sp.Env} {B x g row c t : Int} {R : EStateM.Result Unit Sp.Wk α} {Q : Int → iST → Prop} {L : iST → Prop} {K : Ob → Sp.M α} {d : Nat} {ctx : List Ob} {o : Ob} {tr : Bool} (hC : CtJ u0 E B R Q) (hL : ∀ w, pv_6_rewritten_20 Q t w → L w) (hP : PdK B f8Jn f8Jr u0 v R (Sp.bd (Sp.rw E d ctx o tr) K)) (h32 : v.1 32 = 0) (h23 : v.1 23 = c) (c0 : 0 ≤ c) (hd : c + (d : Int) = 60) (h26 : v.1 26 ≤ v.1 31)
    (hq : ∀ d' w, d = d' + 1 → RjK c v w → w.1 32 = 0 → FrJ c x g row (v.1 26) w → w.2.1 51 (17 * c + 3) = 0 → w.1 31 = v.1 31 + 1 → PdK B f8Jn f8Jr u0 w R (Sp.bd (Sp.rwStep E (Sp.rw E d') ctx o tr) (fun y => K (Sp.fin tr y))) → pv_6_rewritten_20 Q t w) : pv_6_ask x g row L v := by
  have hT := hP.1.1
  have hE := hC.env hP
  have h27 : v.1 27 = 0 := hE.2.2.2.2.2
  obtain ⟨s, hl, eR⟩ := hP.live h32
  unfold pv_6_ask
  intro a ea _
  rw [ea]
  refine ⟨fun _ => ?_, fun z => absurd h27 z⟩
  unfold pv_6_ask_44
  intro b eb _
  rw [eb, h23]
  refine ⟨fun hlt => ?_, fun hge => ?_⟩
  rotate_left
  · have hd0 : d = 0 := by omega
    subst hd0
    refine pc_blame hT (by decide) (fun w gw w32 => hL w (rj_dead hC (m := Sp.fail) ⟨hP.1.tr (gw.mono f8T_J f80_any), Or.inr ⟨s, ⟨w32, hl.2.1.cg gw (by decide) (by decide) rfl⟩, by rw [eR]; rfl⟩⟩ w32))
  obtain ⟨d', hd'⟩ : ∃ d', d = d' + 1 := ⟨d - 1, by omega⟩
  subst hd'
  intro e ee _
  rw [ee]
  refine ⟨fun z => absurd h27 z, fun _ => ?_⟩
  have eRw : ∀ s, Sp.bd (Sp.rw E (d' + 1) ctx o tr) K s = Sp.bd Sp.tick (fun _ => Sp.bd (Sp.rwStep E (Sp.rw E d') ctx o tr) (fun y => K (Sp.fin tr y))) s := fun s => by
    show Sp.bd (Sp.bd Sp.tick (fun _ => Sp.bd (Sp.rwStep E (Sp.rw E d') ctx o tr) (fun v => Sp.ret (Sp.fin tr v)))) K s = _
    rw [bd_assoc]
    congr 1
    funext _
    rw [bd_assoc]
    rfl
  rw [eRw] at eR
  refine pc_stepS hT hl.2.1 (fun w gw w32 s0 htick hst w31 => ?_) (fun w gw w32 s0 htick hst w31 => ?_)
  rotate_left
  · refine ⟨fun _ => hL w (rj_dead hC (m := Sp.fail) ⟨hP.1.tr (gw.mono f8S_J f80_any), Or.inr ⟨s, ⟨w32, hst⟩, by rw [eR]; exact bind_err htick⟩⟩ w32), fun z => absurd rfl z⟩
  refine ⟨(fun z => by cases z), fun _ => ?_⟩
  have eR2 : R = Sp.bd (Sp.rwStep E (Sp.rw E d') ctx o tr) (fun y => K (Sp.fin tr y)) (s.1 - 1, s.2) := by rw [eR]; exact bind_ok htick
  have wn : ∀ k, k ≠ 31 → k ≠ 32 → w.1 k = v.1 k := fun k h1 h2 => gw.2.2.1 k (by unfold f8S; exact decide_eq_false (by omega))
  have wr : ∀ k, w.2.1 k = v.2.1 k := fun k => gw.2.2.2 k rfl
  have hPw : PdK B f8Jn f8Jr u0 w R (Sp.bd (Sp.rwStep E (Sp.rw E d') ctx o tr) (fun y => K (Sp.fin tr y))) := ⟨hP.1.tr (gw.mono f8S_J f80_any), Or.inl ⟨(s.1 - 1, s.2), ⟨by rw [w32]; exact h32, hst, by rw [wn 29 (by decide) (by decide)]; exact hl.2.2⟩, eR2⟩⟩
  unfold pv_6_ask_81
  intro n1 en1 _
  rw [en1, wn 23 (by decide) (by decide), h23]
  intro _ _ _ _ y1 e1 _ _ y2 e2 _ _ y3 e3 _ _ y4 e4 n7 en7 _ _ _ y5 e5 n8 en8 _ _ y6 e6
  have g1 : CG f8Jn f8Jr w y1 := by rw [e1]; exact CG_A gw.1 (by omega) (by decide)
  have g2 : CG f8Jn f8Jr y1 y2 := by rw [e2]; exact CG_A g1.1 (by omega) (by decide)
  have g3 : CG f8Jn f8Jr y2 y3 := by rw [e3]; exact CG_A g2.1 (by omega) (by decide)
  have g4 : CG f8Jn f8Jr y3 y4 := by rw [e4]; exact CG_A g3.1 (by omega) (by decide)
  have g5 : CG f8Jn f8Jr y4 y5 := by rw [e5]; exact CG_A g4.1 (by omega) (by decide)
  have g6 : CG f8Jn f8Jr y5 y6 := by rw [e6]; exact CG_I g5.1 (by decide) (by decide)
  have gA := ((((g1.tr g2).tr g3).tr g4).tr g5).tr g6
  have y51 : ∀ j, y6.2.1 51 j = if j = 17 * c + 4 then n7 else if j = 17 * c + 3 then 0 else if j = 17 * c + 2 then row else if j = 17 * c + 1 then g else if j = 17 * c + 0 then x else w.2.1 51 j := fun j => by rw [e6, e5, e4, e3, e2, e1]; rfl
  have yn : ∀ k, k ≠ 23 → y6.1 k = w.1 k := fun k hk => by rw [e6, e5, e4, e3, e2, e1]; exact if_neg hk
  have y23 : y6.1 23 = c + 1 := by
    have e8' : n8 = c := by rw [en8, e5, e4, e3, e2, e1]; exact (wn 23 (by decide) (by decide)).trans h23
    rw [e6, e8']; rfl
  have yc : y6.2.2 = w.2.2 := by rw [e6, e5, e4, e3, e2, e1]; rfl
  have y652 : y6.2.1 52 = v.2.1 52 := by rw [e6, e5, e4, e3, e2, e1]; exact wr 52
  have y626 : y6.1 26 = v.1 26 := by rw [yn 26 (by decide), wn 26 (by decide) (by decide)]
  have e7n : n7 = v.1 26 := by rw [en7, e4, e3, e2, e1]; exact wn 26 (by decide) (by decide)
  have yx : y6.2.1 51 (17 * c + 0) = x := by rw [y51, if_neg (by omega), if_neg (by omega), if_neg (by omega), if_neg (by omega), if_pos rfl]
  have yg : y6.2.1 51 (17 * c + 1) = g := by rw [y51, if_neg (by omega), if_neg (by omega), if_neg (by omega), if_pos rfl]
  have yr : y6.2.1 51 (17 * c + 2) = row := by rw [y51, if_neg (by omega), if_neg (by omega), if_pos rfl]
  -- what is noted
  have fin : ∀ z, CG f8Jn f8Jr y6 z → z.2.1 51 = y6.2.1 51 → (∀ k, k ≠ 26 → z.1 k = y6.1 k) → z.1 26 = v.1 26 + 1 → (∀ i, z.2.1 52 i = if 5 * v.1 26 ≤ i ∧ i < 5 * v.1 26 + 3 then y6.2.1 51 (17 * c + (i - 5 * v.1 26)) else v.2.1 52 i) → L z := by
    intro z gz z51 zn z26 z52
    have gwz := gA.tr gz
    have zk : ∀ k, k ≠ 26 → k ≠ 23 → z.1 k = w.1 k := fun k h1 h2 => (zn k h1).trans (yn k h2)
    have z31 : z.1 31 = v.1 31 + 1 := by rw [zk 31 (by decide) (by decide)]; exact w31
    have zx : ∀ j, 0 ≤ j → j < 3 → z.2.1 52 (5 * v.1 26 + j) = y6.2.1 51 (17 * c + j) := fun j j0 j1 => by rw [z52, if_pos (by omega), show 5 * v.1 26 + j - 5 * v.1 26 = j by omega]
    have kz51 : ∀ j, j < 17 * c → z.2.1 51 j = v.2.1 51 j := fun j hj => by rw [z51, y51, if_neg (by omega), if_neg (by omega), if_neg (by omega), if_neg (by omega), if_neg (by omega), wr 51]
    have kz : RjK c v z := ⟨(gw.mono f8S_J f80_any).tr gwz, kz51, by omega, by omega, fun i hi => by rw [z52, if_neg (by omega)]⟩
    refine hL z (hq d' z rfl kz (by rw [zk 32 (by decide) (by decide), w32]; exact h32) ⟨by rw [zn 23 (by decide)]; exact y23, by rw [z51]; exact yx, by rw [z51]; exact yg, by rw [z51]; exact yr, ?_, by omega, by omega, by rw [zx 0 (by decide) (by decide)]; exact yx, by rw [zx 1 (by decide) (by decide)]; exact yg, by rw [zx 2 (by decide) (by decide)]; exact yr⟩ ?_ z31 (hPw.same gwz (fun k h1 h2 => zk k (by omega) (by omega))))
    · rw [z51, y51, if_pos rfl, e7n]
    · rw [z51, y51, if_neg (by omega), if_pos rfl]
  intro n10 en10 _
  refine ⟨fun q => absurd (by rw [en10, yn 27 (by decide), wn 27 (by decide) (by decide)]; exact h27) q, fun _ => ?_⟩
  intro n11 en11 _
  have e30 : v.1 30 = u0.1 30 := hP.1.2.2.1 30 (by decide)
  have w30 : w.1 30 = v.1 30 := wn 30 (by decide) (by decide)
  have hst2 : w.1 31 + (((s.1 - 1 : Nat)) : Int) = w.1 30 := hst.2
  have h1000 := hC.2.2.2.1.2
  refine ⟨fun q => by rw [en11, y626] at q; omega, fun _ => ?_⟩
  intro n12 en12 _ _ _ y7 e7 n15 en15 _ _ y8 e8
  have g7 : CG f8Jn f8Jr y6 y7 := by rw [e7]; exact CG_Cp gA.1 (by omega) (by decide)
  have g8 : CG f8Jn f8Jr y7 y8 := by rw [e8]; exact CG_I g7.1 (by decide) (by decide)
  refine fin y8 (g7.tr g8) (by rw [e8, e7]; rfl) (fun k hk => by rw [e8, e7]; exact if_neg hk) ?_ (fun i => ?_)
  · rw [e8]
    show n15 + 1 = _
    rw [en15, e7]
    show y6.1 26 + 1 = _
    rw [y626]
  · rw [e8, e7]
    show (if 5 * n12 ≤ i ∧ i < 5 * n12 + 3 then y6.2.1 51 (17 * c + (i - 5 * n12)) else y6.2.1 52 i) = _
    rw [en12, y626, y652]
theorem pc_isConstantA [DecidableEq Ob] {k : Int} {Q : Int → iST → Prop} {u : iST} (hT : CT u) (h : -1 ≤ k ∧ k < u.1 29) (hq : ∀ r, Q r u) : pv_7_isConstant k Q u := by
  by_cases c : k = -1
  · rw [c]
    unfold pv_7_isConstant
    exact ⟨fun _ _ => hq 0, fun z => absurd (by decide) z⟩
  · exact pc_isConstant hT ⟨by omega, h.2⟩ (fun r _ => hq r)
/-- the innermost term ends -/
theorem pc_fin58 [DecidableEq Ob] {α : Type} {u0 v : iST} {E : Sp.Env} {B b c ni : Int} {R : EStateM.Result Unit Sp.Wk α} {L : iST → Prop} {m : Sp.M α} (hP : PdK B f8Jn f8Jr u0 v R m) (h27 : v.1 27 = 0) (h4 : v.2.1 51 (17 * c + 4) = ni) (hni : ni < 1000) (hq : ∀ w, CG f8Jn f8Jr v w → w.1 24 = b → w.2.1 51 = v.2.1 51 → (∀ k, k ≠ 24 → w.1 k = v.1 k) → PdK B f8Jn f8Jr u0 w R m → (∀ i, w.2.1 52 i = if i = 5 * ni + 4 then v.1 26 else if i = 5 * ni + 3 then b else v.2.1 52 i) → L w) : pv_6_finish_58 L c b v := by
  have hT := hP.1.1
  unfold pv_6_finish_58
  intro y1 e1
  have g1 : CG f8Jn f8Jr v y1 := by rw [e1]; exact CG_I hT (by decide) (by decide)
  have n1 : ∀ k, k ≠ 24 → y1.1 k = v.1 k := fun k hk => by rw [e1]; exact if_neg hk
  have y151 : y1.2.1 51 = v.2.1 51 := by rw [e1]; rfl
  intro n7 en7 _
  refine ⟨fun q => absurd (by rw [en7, n1 27 (by decide)]; exact h27) q, fun _ => ?_⟩
  intro _ _ n8 en8 _
  refine ⟨fun q => by rw [en8, y151, h4] at q; omega, fun _ => ?_⟩
  intro _ _ n9 en9 _ _ _ n12 en12 _ _ _ y2 e2 _ _ n13 en13 _ _ _ n16 en16 _ _ _ y3 e3
  have g2 : CG f8Jn f8Jr y1 y2 := by rw [e2]; exact CG_A g1.1 (by omega) (by decide)
  have g3 : CG f8Jn f8Jr y2 y3 := by rw [e3]; exact CG_A g2.1 (by omega) (by decide)
  have z51 : y3.2.1 51 = y1.2.1 51 := by rw [e3, e2]; rfl
  have zn : y3.1 = y1.1 := by rw [e3, e2]; rfl
  have e9 : n9 = ni := by rw [en9, y151]; exact h4
  have e13 : n13 = ni := by rw [en13, show y2.2.1 51 = y1.2.1 51 by rw [e2]; rfl, y151]; exact h4
  have e12 : n12 = b := by rw [en12, e1]; rfl
  have e16 : n16 = v.1 26 := by rw [en16, show y2.1 26 = y1.1 26 by rw [e2]; rfl]; exact n1 26 (by decide)
  refine hq y3 (g1.tr (g2.tr g3)) (by rw [zn, e1]; rfl) (by rw [z51, y151]) (fun k hk => by rw [zn]; exact n1 k hk) (hP.same (g1.tr (g2.tr g3)) (fun k h1 h2 => by rw [zn]; exact n1 k (by omega))) (fun i => ?_)
  rw [e3]
  show (if i = 5 * n13 + 4 then n16 else y2.2.1 52 i) = _
  rw [e2]
  show (if i = 5 * n13 + 4 then n16 else if i = 5 * n9 + 3 then n12 else y1.2.1 52 i) = _
  rw [e13, e16, e9, e12, e1]
  rfl
theorem pc_finish [DecidableEq Ob] {α : Type} {u0 v0 v : iST} {E : Sp.Env} {B a x g row c t T : Int} {R : EStateM.Result Unit Sp.Wk α} {Q : Int → iST → Prop} {L : iST → Prop} {K : Ob → Sp.M α} (hC : CtJ u0 E B R Q) (hO : OwJ u0 E B R Q c x g row v0 T K) (hL : ∀ w, pv_6_rewritten_20 Q t w → L w) (hk : RjK c v0 v) (hF : FrJ c x g row (v0.1 26) v) (na : NdD v E a) (hP : PdK B f8Jn f8Jr u0 v R (K (Sp.fin (decide (g = 1)) (oc v a)))) (ht : t + T ≤ 24 * (v.1 31 - u0.1 31)) : pv_6_finish a L v := by
  have hT := hP.1.1
  unfold pv_6_finish
  intro n1 en1 _ _ y1 e1
  have e1 : y1 = iI v 23 c := by rw [e1, en1, hF.1, show c + 1 - 1 = c by omega]
  have g1 : CG f8Jn f8Jr v y1 := by rw [e1]; exact CG_I hT (by decide) (by decide)
  have yn : ∀ k, k ≠ 23 → y1.1 k = v.1 k := fun k hk => by rw [e1]; exact if_neg hk
  have y51 : y1.2.1 51 = v.2.1 51 := by rw [e1]; rfl
  have y23 : y1.1 23 = c := by rw [e1]; rfl
  have hP1 := hP.same g1 (fun k h1 h2 => yn k (by omega))
  have ec : ∀ k, oc y1 k = oc v k := oc_same (by rw [e1]; rfl)
  have h27 : v.1 27 = 0 := (hC.env hP).2.2.2.2.2
  obtain ⟨hf4, hf5, hf6, hf7, hf8, hf9⟩ := hF.2.2.2.2
  have h1000 : v.1 31 ≤ 1000 := by
    have e30 : v.1 30 = u0.1 30 := hP.1.2.2.1 30 (by decide)
    have h3 := hC.2.2.2.1.2
    rcases hP.2 with ⟨s, hl, _⟩ | ⟨s, hl, _⟩
    · have h2 : v.1 31 + (s.1 : Int) = v.1 30 := hl.2.1.2
      omega
    · have h2 : v.1 31 + (s.1 : Int) = v.1 30 := hl.2.2
      omega
  have hk3 := hk.2.2
  -- what came out
  have out : ∀ b, (v.1 32 = 0 → NdC v E b ∧ oc v b = Sp.fin (decide (g = 1)) (oc v a)) → pv_6_finish_58 L c b y1 := by
    intro b hb
    refine pc_fin58 (ni := v0.1 26) hP1 (E := E) (by rw [yn 27 (by decide)]; exact h27) (by rw [y51]; exact hf4) (by omega) (fun w gw w24 w51 wn hPw w52 => hL w ?_)
    have gvw := g1.tr gw
    by_cases h32 : v.1 32 = 0
    · obtain ⟨nb, eb⟩ := hb h32
      obtain ⟨nb', eb'⟩ := nb.up hT gvw
      have w31 : w.1 31 = v.1 31 := by rw [wn 31 (by decide), yn 31 (by decide)]
      have w26 : w.1 26 = v.1 26 := by rw [wn 26 (by decide), yn 26 (by decide)]
      have y52 : y1.2.1 52 = v.2.1 52 := by rw [e1]; rfl
      rw [yn 26 (by decide), y52] at w52
      obtain ⟨hk4, hk5, hk6⟩ := hk3
      exact hO w b t ⟨hk.1.tr gvw, fun j hj => by rw [w51, y51]; exact hk.2.1 j hj, by omega, by omega, fun i hi => by rw [w52, if_neg (by omega), if_neg (by omega)]; exact hk6 i hi⟩ nb' w24 (by rw [wn 23 (by decide)]; exact y23) (by rw [wn 32 (by decide), yn 32 (by decide)]; exact h32) (by rw [eb', eb]; exact hPw) (by rw [w31]; exact ht) ⟨by omega, by omega, by rw [w52, if_neg (by omega), if_neg (by omega)]; exact hf7, by rw [w52, if_neg (by omega), if_neg (by omega)]; exact hf8, by rw [w52, if_neg (by omega), if_neg (by omega)]; exact hf9, by rw [w52, if_neg (by omega), if_pos rfl], by rw [w52, if_pos rfl, w26]⟩
    · exact rj_dead hC hPw (by rw [wn 32 (by decide), yn 32 (by decide)]; exact h32)
  have o0 : (v.1 32 = 0 → Sp.fin (decide (g = 1)) (oc v a) = oc v a) → pv_6_finish_47 L a c 0 y1 := by
    intro hb
    unfold pv_6_finish_47
    exact ⟨fun _ => out a (fun h => ⟨na.2.2 h, (hb h).symm⟩), fun z => absurd rfl z⟩
  intro n3 en3 _
  rw [en3, y23]
  intro _ _ _ _ n6 en6 _
  rw [en6, y51, hF.2.2.1]
  refine ⟨fun hg => ?_, fun hg => ?_⟩
  · unfold pv_6_finish_46
    refine o0 (fun _ => ?_)
    unfold Sp.fin
    rw [decide_eq_false hg]; rfl
  have hg := Decidable.not_not.mp hg
  by_cases h32 : v.1 32 = 0
  · have nA := na.2.2 h32
    refine pc_isConstant g1.1 (nA.1.up g1) (fun r hr => ⟨fun z => ?_, fun z => ⟨fun z0 => ?_, fun z0 => ?_⟩⟩)
    · unfold pv_6_finish_46
      refine o0 (fun _ => ?_)
      have := hr.f z
      rw [ec] at this
      unfold Sp.fin
      rw [this, Bool.and_false]; rfl
    · unfold pv_6_finish_46
      refine o0 (fun _ => ?_)
      have e0 : oc v a = Ob.nil := (oc_nil hT nA.1).mp z0
      unfold Sp.fin
      rw [e0, decide_eq_false (show ¬ Ob.nil ≠ Ob.nil from fun q => q rfl), Bool.and_false]; rfl
    · unfold pv_6_finish_47
      refine ⟨(fun q => by cases q), fun _ => out 1 (fun _ => ?_)⟩
      obtain ⟨n1', e1'⟩ := NdC.known hT E 1 (o := Ob.t) (by decide) (by decide) rfl rfl
      refine ⟨n1', ?_⟩
      have hc := hr.t z
      rw [ec] at hc
      unfold Sp.fin
      rw [e1', hc, decide_eq_true hg, decide_eq_true (show oc v a ≠ Ob.nil from fun q => z0 ((oc_nil hT nA.1).mpr q))]; rfl
  · have o1 : ∀ y, pv_6_finish_47 L a c y y1 := fun y => by
      unfold pv_6_finish_47
      exact ⟨fun _ => out a (fun h => absurd h h32), fun _ => out 1 (fun h => absurd h h32)⟩
    refine pc_isConstantA g1.1 ⟨na.1, by have := na.2.1; have := g1.le; omega⟩ (fun r => ⟨fun _ => ?_, fun _ => ⟨fun _ => ?_, fun _ => o1 1⟩⟩) <;> (unfold pv_6_finish_46; exact o1 0)
theorem nf_mono [DecidableEq Ob] {α : Type} {K : Ob → Sp.M α} (hK : ∀ a, Mono (K a)) (tr : Bool) : ∀ a, Mono ((fun y => K (Sp.fin tr y)) a) := fun a => hK _
/-- another term is asked in its place -/
theorem pc_askInstead [DecidableEq Ob] {α : Type} {u0 v0 v : iST} {E : Sp.Env} {B a x g row c t T : Int} {R : EStateM.Result Unit Sp.Wk α} {Q : Int → iST → Prop} {L : iST → Prop} {K : Ob → Sp.M α} {d : Nat} {ctx : List Ob} (hC : CtJ u0 E B R Q) (ih : RjG u0 E B R Q d) (hO : OwJ u0 E B R Q c x g row v0 T K) (hL : ∀ w, pv_6_rewritten_20 Q t w → L w) (hK : ∀ a, Mono (K a)) (hk : RjK c v0 v) (hF : FrJ c x g row (v0.1 26) v) (c0 : 0 ≤ c) (hd : c + 1 + (d : Int) = 60) (hg : g = 0 ∨ g = 1) (cx : CxC v E row ctx) (na : NdD v E a) (hP : PdK B f8Jn f8Jr u0 v R (Sp.bd (Sp.rw E d ctx (oc v a) (decide (g = 1))) (fun y => K (Sp.fin (decide (g = 1)) y)))) (hT0 : 0 ≤ T) (ht : t + T ≤ 24 * (v.1 31 - u0.1 31)) : pv_6_askInstead c a L v := by
  have hT := hP.1.1
  unfold pv_6_askInstead
  intro _ _ y1 e1
  obtain ⟨k1, n1, c1, r1, s1, q1⟩ := fr_set hT e1 (by decide)
  have hP1 := hP.same k1.1 (fun k _ _ => by rw [n1])
  have hF1 : FrJ c x g row (v0.1 26) y1 := hF.keep (by rw [n1]; exact hF.1) (fun j hj h3 => s1 j (by omega)) k1.2.2
  have ec : ∀ k, oc y1 k = oc v k := oc_same c1
  intro n32 en32 _
  rw [en32]
  refine ⟨fun z => hL y1 (rj_dead hC hP1 z), fun z => ?_⟩
  have z := Decidable.not_not.mp z
  intro _ _ ng eng _ _ _ nr enr _
  rw [eng, hF1.2.2.1, enr, hF1.2.2.2.1]
  have nA := na.2.2 (by rw [n1] at z; exact z)
  obtain ⟨nA', eA'⟩ := nA.up hT k1.1
  have k1c : RjK (c + 1) y1 y1 := RjK.rf k1.1.1
  refine ih ctx a g row (c + 1) t (T + 4) y1 (fun y => K (Sp.fin (decide (g = 1)) y)) _ hL (by rw [ec]; exact hP1) z (nf_mono hK _) hF1.1 (by omega) hd hg nA' (cx.up hT k1.1) (by omega) (by rw [n1]; omega) (by rw [n1]; omega) hF1.2.2.2.2.2.2.1 ?_
  intro w b t' kw nb w24 w23 w32 hPw ht' _
  have hFw : FrJ c x g row (v0.1 26) w := hF1.keep w23 (fun j hj _ => kw.2.1 j (by omega)) kw.2.2
  refine hd_1 (c := c) w23 c0 w32 (hC.turn hPw w32 (by omega)) (by rw [kw.2.1 _ (by omega)]; exact q1) ?_
  rw [w24]
  exact pc_finish (t := t' + 1) hC hO (fun w h _ => h) ((hk.tr k1 (Int.le_refl _)).tr kw (by omega)) hFw nb.d hPw (by omega)
