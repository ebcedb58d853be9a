-- deps: 7999862
theorem ev_const_z [DecidableEq Ob] {E : Sp.Env} {env : Ob → Ob} {o : Ob} {s : Sz.Ek} (h : o.isConst = true) : ∀ d, Sz.ev E d env o s = .ok o.valOf s
  | 0 => by unfold Sz.ev; rw [if_pos h]
  | d + 1 => by unfold Sz.ev; rw [if_pos h]
theorem ev_var_z [DecidableEq Ob] {E : Sp.Env} {env : Ob → Ob} {o : Ob} {s : Sz.Ek} (h : o.isConst = false) (h2 : o.isCall = false) : ∀ d, Sz.ev E d env o s = .ok (env o) s
  | 0 => by unfold Sz.ev; rw [if_neg (by rw [h]; decide), if_pos (by rw [h2]; rfl)]
  | d + 1 => by unfold Sz.ev; rw [if_neg (by rw [h]; decide), if_pos (by rw [h2]; rfl)]
theorem ev_deep_z [DecidableEq Ob] {E : Sp.Env} {env : Ob → Ob} {o : Ob} {s : Sz.Ek} (h : o.isConst = false) (h2 : o.isCall = true) : Sz.ev E 0 env o s = .error 2 s := by
  unfold Sz.ev; rw [if_neg (by rw [h]; decide), if_neg (by rw [h2]; decide)]
theorem ev_own_z [DecidableEq Ob] {E : Sp.Env} {env : Ob → Ob} {o : Ob} {s : Sz.Ek} {d : Nat} (h : o.isConst = false) (h2 : o.isCall = true) (h3 : s.2.1 = 0) : Sz.ev E (d + 1) env o s = .error (-1) s := by
  unfold Sz.ev; rw [if_neg (by rw [h]; decide), if_neg (by rw [h2]; decide), if_pos h3]
theorem ev_fuel_z [DecidableEq Ob] {E : Sp.Env} {env : Ob → Ob} {o : Ob} {s : Sz.Ek} {d : Nat} (h : o.isConst = false) (h2 : o.isCall = true) (h3 : s.2.1 ≠ 0) (h4 : s.1 = 0) : Sz.ev E (d + 1) env o s = .error 1 s := by
  unfold Sz.ev; rw [if_neg (by rw [h]; decide), if_neg (by rw [h2]; decide), if_neg h3, if_pos h4]
theorem ev_if_z [DecidableEq Ob] {E : Sp.Env} {env : Ob → Ob} {o : Ob} {s : Sz.Ek} {d : Nat} (h : o.isConst = false) (h2 : o.isCall = true) (h3 : s.2.1 ≠ 0) (h4 : s.1 ≠ 0) (h5 : o.lft = Ob.ifS) :
    Sz.ev E (d + 1) env o s = Sp.bd (Sz.ev E d env (o.item 1)) (fun a => Sz.ev E d env (o.item (if a = Ob.nil then 3 else 2))) (s.1 - 1, s.2.1 - 1, s.2.2) := by
  rw [Sz.ev.eq_2, if_neg (by rw [h]; decide), if_neg (by rw [h2]; decide), if_neg h3, if_neg h4, if_pos h5]
/-- a call, its terms evaluated -/
def Sz.evCall [DecidableEq Ob] (E : Sp.Env) (d : Nat) (f : Ob) (vs : List Ob) : Sz.ME Ob :=
  match E.dfn f with
  | some D => Sz.ev E d (fun x => (Ob.lk (D.params.zip vs) x).getD Ob.nil) D.body
  | none => match Ob.base f (vs.getD 0 Ob.nil) (vs.getD 1 Ob.nil) with
    | some v => fun s => .ok v (s.1, s.2.1, Sz.ad s.2.2 v 1)
    | none => fun s => .error 3 s
theorem ev_call_z [DecidableEq Ob] {E : Sp.Env} {env : Ob → Ob} {o : Ob} {s : Sz.Ek} {d : Nat} (h : o.isConst = false) (h2 : o.isCall = true) (h3 : s.2.1 ≠ 0) (h4 : s.1 ≠ 0) (h5 : o.lft ≠ Ob.ifS) :
    Sz.ev E (d + 1) env o s = Sp.bd (Sz.evArgs (Sz.ev E d env) (Ob.toList (Ob.rgt o))) (Sz.evCall E d o.lft) (s.1 - 1, s.2.1 - 1, s.2.2) := by
  rw [Sz.ev.eq_2, if_neg (by rw [h]; decide), if_neg (by rw [h2]; decide), if_neg h3, if_neg h4, if_neg h5]
  rfl
def EvSc_z [DecidableEq Ob] (B : Sz.Bx) (v : iST) (s : Sz.Ek) (c h : Int) : Prop := v.1 4 = c ∧ v.1 5 = h ∧ v.1 9 = 0 ∧ v.1 32 = 0 ∧ v.1 8 = (s.2.1 : Int) ∧ v.1 31 + (s.1 : Int) = v.1 30 ∧ Rm B v s.2.2
/-- a call begins -/
theorem pc_begin_z [DecidableEq Ob] {x c h : Int} {Q : iST → Prop} {v : iST} (hT : CT v) (hx : VN v x) {s : Sz.Ek} {B : Sz.Bx} (hS : EvSc_z B v s c h)
    (deep : 300 ≤ c → ∀ w, EvK c h v w → w.1 9 = 2 → (∀ k, k ≠ 9 → w.1 k = v.1 k) → Q w)
    (long : c < 300 → s.2.1 = 0 → ∀ w, EvK c h v w → w.1 9 = 5 → (∀ k, k ≠ 9 → w.1 k = v.1 k) → Q w)
    (fuel : c < 300 → s.2.1 ≠ 0 → s.1 = 0 → ∀ w, EvK c h v w → w.1 9 = 1 → w.1 32 ≠ 0 → w.1 31 = v.1 31 → w.1 30 = v.1 30 → w.1 29 = v.1 29 → Q w)
    (ok : c < 300 → s.2.1 ≠ 0 → s.1 ≠ 0 → ∀ w, EvK c h v w → EvSc_z B w (s.1 - 1, s.2.1 - 1, s.2.2) (c + 1) h → w.1 6 = v.1 6 → w.1 7 = v.1 7 → VN w (w.2.1 16 c) → oc w (w.2.1 16 c) = (oc v x).lft → VN w (w.2.1 17 c) → oc w (w.2.1 17 c) = (oc v x).rgt → w.2.1 18 c = h → w.2.1 19 c = 0 → w.2.1 20 c = v.1 6 → w.2.1 21 c = v.1 7 → Q w) : pv_2_begin x Q v := by
  obtain ⟨s4, s5, s9, s32, s8, s31, s29⟩ := hS
  unfold pv_2_begin
  intro a ea _
  rw [ea, s4]
  refine ⟨fun hc => ?_, fun hc => ?_⟩
  rotate_left
  · intro w ew
    exact deep (by omega) w (by rw [ew]; exact EvK_I hT (by decide)) (by rw [ew]; rfl) (fun k hk => by rw [ew]; exact if_neg hk)
  intro b eb _
  rw [eb, s8]
  refine ⟨fun hb => ?_, fun hb => ?_⟩
  rotate_left
  · intro w ew
    exact long hc (by omega) w (by rw [ew]; exact EvK_I hT (by decide)) (by rw [ew]; rfl) (fun k hk => by rw [ew]; exact if_neg hk)
  have hb' : s.2.1 ≠ 0 := by omega
  have hst : StC v (s.1, 0) := s31
  refine pc_step hT hst (fun y gy y32 s0 _ hs => ⟨fun _ => ?_, fun z => absurd (by decide) z⟩) (fun y gy y32 s0 _ hs => ⟨fun z => absurd rfl z, fun _ => ?_⟩)
  rotate_left
  · intro w ew
    have k1 : EvK c h v y := EvK_S gy
    have k2 : EvK c h y w := by rw [ew]; exact EvK_I gy.1 (by decide)
    have e30 := gy.2.2.1 30 (by decide)
    have hs : y.1 31 + (s.1 : Int) = y.1 30 := hs
    exact fuel hc hb' s0 w (k1.tr k2 (Int.le_refl _) (Int.le_refl _)) (by rw [ew]; rfl) (by rw [ew]; exact y32) (by rw [ew]; show y.1 31 = _; omega) (by rw [ew]; exact e30) (by rw [ew]; exact gy.2.2.1 29 (by decide))
  have k0 : EvK c h v y := EvK_S gy
  have yr : y.2.1 = v.2.1 := funext (fun k => gy.2.2.2 k rfl)
  have yn : ∀ k, k ≠ 31 → k ≠ 32 → y.1 k = v.1 k := fun k h1 h2 => gy.2.2.1 k (by unfold f8S; exact decide_eq_false (by omega))
  intro d ed _ _ y1 e1 e ee _
  have k1 : EvK c h y y1 := by rw [e1]; exact EvK_I gy.1 (by decide)
  have ee' : e = c := by rw [ee, e1]; show y.1 4 = c; rw [yn 4 (by decide) (by decide)]; exact s4
  rw [ee']
  have hx1 := (hx.up k0.1).up k1.1
  refine pc_left k1.1.1 hx1 (fun l hl el => ?_)
  intro _ _ y2 e2 f ef _
  have k2 : EvK c h y1 y2 := by rw [e2]; exact EvK_A k1.1.1 (by decide) (fun _ => Int.le_refl _) (fun z => by cases z)
  have ef' : f = c := by rw [ef, e2, ← ee', ee]; rfl
  rw [ef']
  have hx2 := hx1.up k2.1
  refine pc_right k2.1.1 hx2 (fun t ht et => ?_)
  intro _ _ y3 e3 g eg _ g2 eg2 _ _ _ y4 e4 i ei _ _ _ _ y5 e5 j ej _ j2 ej2 _ _ _ y6 e6 m em _ m2 em2 _ _ _ y7 e7 n en _ _ y8 e8
  have n4 : y1.1 4 = c := by rw [e1]; show y.1 4 = c; rw [yn 4 (by decide) (by decide)]; exact s4
  have q5 : y1.1 5 = h := by rw [e1]; show y.1 5 = h; rw [yn 5 (by decide) (by decide)]; exact s5
  have q6 : y1.1 6 = v.1 6 := by rw [e1]; show y.1 6 = _; exact yn 6 (by decide) (by decide)
  have q7 : y1.1 7 = v.1 7 := by rw [e1]; show y.1 7 = _; exact yn 7 (by decide) (by decide)
  have eg' : g = c := by rw [eg, e3, e2]; exact n4
  have eg2' : g2 = h := by rw [eg2, e3, e2]; exact q5
  have ei' : i = c := by rw [ei, e4, e3, e2]; exact n4
  have ej' : j = c := by rw [ej, e5, e4, e3, e2]; exact n4
  have ej2' : j2 = v.1 6 := by rw [ej2, e5, e4, e3, e2]; exact q6
  have em' : m = c := by rw [em, e6, e5, e4, e3, e2]; exact n4
  have em2' : m2 = v.1 7 := by rw [em2, e6, e5, e4, e3, e2]; exact q7
  have en' : n = c := by rw [en, e7, e6, e5, e4, e3, e2]; exact n4
  rw [eg', eg2'] at e4
  rw [ei'] at e5
  rw [ej', ej2'] at e6
  rw [em', em2'] at e7
  rw [en'] at e8
  have k3 : EvK c h y2 y3 := by rw [e3]; exact EvK_A k2.1.1 (by decide) (fun _ => Int.le_refl _) (fun z => by cases z)
  have k4 : EvK c h y3 y4 := by rw [e4]; exact EvK_A k3.1.1 (by decide) (fun _ => Int.le_refl _) (fun z => by cases z)
  have k5 : EvK c h y4 y5 := by rw [e5]; exact EvK_A k4.1.1 (by decide) (fun _ => Int.le_refl _) (fun z => by cases z)
  have k6 : EvK c h y5 y6 := by rw [e6]; exact EvK_A k5.1.1 (by decide) (fun _ => Int.le_refl _) (fun z => by cases z)
  have k7 : EvK c h y6 y7 := by rw [e7]; exact EvK_A k6.1.1 (by decide) (fun _ => Int.le_refl _) (fun z => by cases z)
  have k8 : EvK c h y7 y8 := by rw [e8]; exact EvK_I k7.1.1 (by decide)
  have k38 := ((((k3.tr k4 (Int.le_refl _) (Int.le_refl _)).tr k5 (Int.le_refl _) (Int.le_refl _)).tr k6 (Int.le_refl _) (Int.le_refl _)).tr k7 (Int.le_refl _) (Int.le_refl _)).tr k8 (Int.le_refl _) (Int.le_refl _)
  have k28 := k2.tr k38 (Int.le_refl _) (Int.le_refl _)
  have kk := (k0.tr k1 (Int.le_refl _) (Int.le_refl _)).tr k28 (Int.le_refl _) (Int.le_refl _)
  have d8 : d = (s.2.1 : Int) := by rw [ed, yn 8 (by decide) (by decide)]; exact s8
  have n8 : y1.1 8 = ((s.2.1 - 1 : Nat) : Int) := by rw [e1]; show d - 1 = _; omega
  have nn : ∀ k, k ≠ 4 → k ≠ 8 → y8.1 k = y.1 k := fun k h1 h2 => by
    rw [e8, e7, e6, e5, e4, e3, e2, e1]
    exact (if_neg h1).trans (if_neg h2)
  have p16 : y8.2.1 16 c = l := by rw [e8, e7, e6, e5, e4, e3, e2]; exact if_pos rfl
  have p17 : y8.2.1 17 c = t := by rw [e8, e7, e6, e5, e4, e3]; exact if_pos rfl
  have p18 : y8.2.1 18 c = h := by rw [e8, e7, e6, e5, e4]; exact if_pos rfl
  have p19 : y8.2.1 19 c = 0 := by rw [e8, e7, e6, e5]; exact if_pos rfl
  have p20 : y8.2.1 20 c = v.1 6 := by rw [e8, e7, e6]; exact if_pos rfl
  have p21 : y8.2.1 21 c = v.1 7 := by rw [e8, e7]; exact if_pos rfl
  have hs : y.1 31 + ((s.1 - 1 : Nat) : Int) = y.1 30 := hs
  have ex1 : oc y1 x = oc v x := by rw [k1.1.oc gy.1 (hx.up k0.1).1 (hx.up k0.1).2, k0.1.oc hT hx.1 hx.2]
  have ex2 : oc y2 x = oc v x := by rw [k2.1.oc k1.1.1 hx1.1 hx1.2]; exact ex1
  refine ok hc hb' s0 y8 kk ⟨by rw [e8]; rfl, ?_, ?_, ?_, ?_, ?_, ?_⟩ ?_ ?_ ?_ ?_ ?_ ?_ p18 p19 p20 p21
  · rw [nn 5 (by decide) (by decide), yn 5 (by decide) (by decide)]; exact s5
  · rw [nn 9 (by decide) (by decide), yn 9 (by decide) (by decide)]; exact s9
  · rw [nn 32 (by decide) (by decide), y32]; exact s32
  · rw [e8, e7, e6, e5, e4, e3, e2]; exact n8
  · rw [nn 31 (by decide) (by decide), nn 30 (by decide) (by decide)]; exact hs
  · exact s29.up hT kk.1 (by rw [nn 29 (by decide) (by decide), yn 29 (by decide) (by decide)])
  · rw [nn 6 (by decide) (by decide), yn 6 (by decide) (by decide)]
  · rw [nn 7 (by decide) (by decide), yn 7 (by decide) (by decide)]
  · rw [p16]; exact hl.up k28.1
  · rw [p16, k28.1.oc k1.1.1 hl.1 hl.2, el, ex1]
  · rw [p17]; exact ht.up k38.1
  · rw [p17, k38.1.oc k2.1.1 ht.1 ht.2, et, ex2]

def EvOk_z [DecidableEq Ob] (E : Sp.Env) (B : Sz.Bx) (Q : Int → iST → Prop) (d : Nat) (env : Ob → Ob) (c h x4 : Int) (o : Ob) (s : Sz.Ek) (v : iST) : Prop := ∀ w y4 s', Sz.ev E d env o s = .ok (oc w (w.2.1 22 h)) s' → EvK c h v w → EvSc_z B w s' c (h + 1) → w.1 6 = v.1 6 → w.1 7 = v.1 7 → VN w (w.2.1 22 h) → x4 ≤ y4 → y4 + 16 * (s'.2.1 : Int) ≤ x4 + 16 * (s.2.1 : Int) + 1 → pv_2_evaluated_35 Q (-1) y4 w
def EvBd_z [DecidableEq Ob] {α : Type} (B : Sz.Bx) (Q : Int → iST → Prop) (R : EStateM.Result Int Sz.Ek α) (v : iST) : Prop := ∀ w s' e, R = .error e s' → CG f8En f8Er v w → w.1 9 = evCd e → w.1 9 ≠ 0 → w.1 31 + (s'.1 : Int) = w.1 30 → Rm B w s'.2.2 → (e ≠ 1 → w.1 32 = 0) → (e = 1 → w.1 32 ≠ 0) → Q (-1) w
def EvGc_z [DecidableEq Ob] (u0 : iST) (E : Sp.Env) (B : Sz.Bx) (Q : Int → iST → Prop) (d : Nat) : Prop := ∀ (env : Ob → Ob) (c h x x4 : Int) (v : iST) (s : Sz.Ek), CG f8En f8Er u0 v → EvSc_z B v s c h → c + (d : Int) = 300 → 0 ≤ h → h ≤ 6 * c → VN v x → Ob.wt (Sp.arOf E) (oc v x) → EnC v h env (oc v x) → 0 ≤ x4 → x4 + 16 * (s.2.1 : Int) + 20 ≤ 900000 → FitE_z B (Sz.ev E d env (oc v x) s) → EvOk_z E B Q d env c h x4 (oc v x) s v → EvBd_z B Q (Sz.ev E d env (oc v x) s) v → pv_2_evaluated_35 Q x x4 v
theorem EvBd_z.of [DecidableEq Ob] {α β : Type} {B : Sz.Bx} {Q : Int → iST → Prop} {R : EStateM.Result Int Sz.Ek α} {R' : EStateM.Result Int Sz.Ek β} {v y : iST} (h : EvBd_z B Q R v) (g : CG f8En f8Er v y) (hR : ∀ e s', R' = .error e s' → R = .error e s') : EvBd_z B Q R' y := fun w s' e e1 g1 a b c d f k => h w s' e (hR e s' e1) (g.tr g1) a b c d f k
/-- the terms of a call are evaluated, one behind the other -/
theorem evc_args_z [DecidableEq Ob] {u0 : iST} {E : Sp.Env} {B : Sz.Bx} {Q : Int → iST → Prop} {d : Nat} (hT0 : CT u0) (hD0 : DOz u0 E) (ih : EvGc_z u0 E B Q d) {env : Ob → Ob} {c b : Int} (c0 : 0 ≤ c) (hd : c + 1 + (d : Int) = 300) : ∀ (l : List Ob) (k t : Int) (y : iST) (s : Sz.Ek), CG f8En f8Er u0 y → EvSc_z B y s (c + 1) (b + k) → 0 ≤ b → b ≤ 6 * c → 0 ≤ k → k + (l.length : Int) ≤ 6 → y.2.1 16 c ≠ 3 → y.2.1 19 c = 0 → VN y (y.2.1 17 c) → oc y (y.2.1 17 c) = Ob.ofList l → (∀ a, a ∈ l → Ob.wt (Sp.arOf E) a ∧ EnC y b env a) → 0 ≤ t → t + 16 * (s.2.1 : Int) + 22 + 2 * (l.length : Int) ≤ 900000 → FitE_z B (Sz.evArgs (Sz.ev E d env) l s) →
    (∀ w t' s', Sz.evArgs (Sz.ev E d env) l s = .ok (lsC w (w.2.1 22) (b + k) l.length) s' → EvK c (b + k) y w → EvSc_z B w s' (c + 1) (b + k + (l.length : Int)) → (∀ j, 16 ≤ j → j ≤ 21 → j ≠ 17 → w.2.1 j c = y.2.1 j c) → VN w (w.2.1 17 c) → (oc w (w.2.1 17 c)).isPr = false → w.1 6 = y.1 6 → w.1 7 = y.1 7 → (∀ i, b + k ≤ i → i < b + k + (l.length : Int) → VN w (w.2.1 22 i)) → t ≤ t' → t' + 16 * (s'.2.1 : Int) ≤ t + 16 * (s.2.1 : Int) + 2 * (l.length : Int) → pv_2_evaluated_35 Q (-1) t' w) →
    EvBd_z B Q (Sz.evArgs (Sz.ev E d env) l s) y → pv_2_evaluated_35 Q (-1) t y
  | [], k, t, y, s, gy, hS, b0, b1, k0, k1, h16, h19, h17, el, ha, t0, t1, fit, fin, bad => by
    refine fin y t s rfl (EvK.rf gy.1) (by rw [show b + k + (([] : List Ob).length : Int) = b + k by simp]; exact hS) (fun _ _ _ _ => rfl) h17 (by rw [el]; rfl) rfl rfl (fun i i0 i1 => by simp at i1; omega) (Int.le_refl _) (by simp)
  | a :: l, k, t, y, s, gy, hS, b0, b1, k0, k1, h16, h19, h17, el, ha, t0, t1, fit, fin, bad => by
    obtain ⟨s4, s5, s9, s32, s8, s31, s29⟩ := hS
    rw [List.length_cons] at k1 t1
    have eA : Sz.evArgs (Sz.ev E d env) (a :: l) = Sp.bd (Sz.ev E d env a) fun v => Sp.bd (Sz.evArgs (Sz.ev E d env) l) fun vs => fun s => .ok (v :: vs) s := rfl
    rw [eA] at fit bad
    have mon2 : ∀ v : Ob, MonE_z (Sp.bd (Sz.evArgs (Sz.ev E d env) l) fun vs => fun s => .ok (v :: vs) s) := fun v => MonE_z.bd (evArgs_mon_z (fun o => ev_mon_z d env o) l) (fun vs => fun s => ⟨CoL.rf _, Nat.le_refl _, Nat.le_refl _⟩)
    refine ev_next gy.1 (by omega) s9 s4 c0 h17 h19 (by rw [el]; rfl) (fun z => absurd z h16) (fun x w hw vx ex v17 e17 => ?_)
    obtain ⟨r, ew⟩ := hw
    have kw : EvK c (b + k) y w := by rw [ew]; exact EvK_A gy.1 (by decide) (fun _ => Int.le_refl _) (fun z => by cases z)
    have wn : w.1 = y.1 := by rw [ew]; rfl
    have wr : ∀ j, j ≠ 17 → w.2.1 j = y.2.1 j := fun j hj => by rw [ew]; exact if_neg hj
    rw [el] at ex e17
    have ex : oc w x = a := ex
    have e17 : oc w (w.2.1 17 c) = Ob.ofList l := e17
    have hSw : EvSc_z B w s (c + 1) (b + k) := ⟨by rw [wn]; exact s4, by rw [wn]; exact s5, by rw [wn]; exact s9, by rw [wn]; exact s32, by rw [wn]; exact s8, by rw [wn]; exact s31, s29.up gy.1 kw.1 (by rw [wn])⟩
    obtain ⟨wa, ea⟩ := ha a List.mem_cons_self
    have hDy := hD0.ev hT0 gy
    have enw : ∀ o, EnC y b env o → EnC w (b + k) env o := fun o he => (he.up (by omega)).keep_z gy.1 hDy kw (by rw [wn]) (by rw [wn])
    refine ih env (c + 1) (b + k) x (t + 1) w s (gy.tr kw.1) hSw hd (by omega) (by omega) vx (by rw [ex]; exact wa) (by rw [ex]; exact enw a ea) (by omega) (by omega) (by rw [ex]; exact fit.bd mon2) ?_ ?_
    · intro z y4 s' hev kz hSz z6 z7 vz t2 t3
      rw [ex] at hev
      have hmon := ev_mon_z d env a s (E := E)
      rw [hev] at hmon
      have z17 : z.2.1 17 c = w.2.1 17 c := kz.2.1 c 17 (by omega) (by decide) (by decide)
      have eb : Sp.bd (Sz.ev E d env a) (fun v => Sp.bd (Sz.evArgs (Sz.ev E d env) l) fun vs => fun s => .ok (v :: vs) s) s = (Sp.bd (Sz.evArgs (Sz.ev E d env) l) fun vs => fun s => .ok (oc z (z.2.1 22 (b + k)) :: vs) s) s' := bind_ok hev
      rw [eb] at fit bad
      have gz := (gy.tr kw.1).tr kz.1
      have kyz : EvK c (b + k) y z := kw.tr kz (by omega) (Int.le_refl _)
      have hs1 : s'.2.1 ≤ s.2.1 := hmon.2.2
      refine evc_args_z hT0 hD0 ih c0 hd l (k + 1) y4 z s' gz (by rw [show b + (k + 1) = b + k + 1 by omega]; exact hSz) b0 b1 (by omega) (by omega) (by rw [kz.2.1 c 16 (by omega) (by decide) (by decide), wr 16 (by decide)]; exact h16) (by rw [kz.2.1 c 19 (by omega) (by decide) (by decide), wr 19 (by decide)]; exact h19) (by rw [z17]; exact v17.up kz.1) (by rw [z17, kz.1.oc kw.1.1 v17.1 v17.2]; exact e17) (fun a' ha' => ⟨(ha a' (List.mem_cons_of_mem _ ha')).1, ((ha a' (List.mem_cons_of_mem _ ha')).2.keep_z gy.1 hDy (c := c) (h := b) ⟨kyz.1, kyz.2.1, fun j hj => kyz.2.2 j (by omega)⟩ (by rw [z6, wn]) (by rw [z7, wn]))⟩) (by omega) (by omega) (fit.bd (fun vs => fun s => ⟨CoL.rf _, Nat.le_refl _, Nat.le_refl _⟩)) ?_ ?_
      · intro w' t' s'' hev' kw' hSw' hr' v17' np' w6' w7' vv' t2' t3'
        have hlen : ((a :: l).length : Int) = (l.length : Int) + 1 := by rw [List.length_cons]; omega
        have q22 : w'.2.1 22 (b + k) = z.2.1 22 (b + k) := kw'.2.2 _ (by omega)
        refine fin w' t' s'' ?_ (kyz.tr kw' (Int.le_refl _) (by omega)) (by rw [hlen, show b + k + ((l.length : Int) + 1) = b + (k + 1) + (l.length : Int) by omega]; exact hSw') (fun j h1 h2 h3 => by rw [hr' j h1 h2 h3, kz.2.1 c j (by omega) h1 h2, wr j h3]) v17' np' (by rw [w6', z6, wn]) (by rw [w7', z7, wn]) (fun i i0 i1 => ?_) (by omega) (by omega)
        · show (Sp.bd (Sz.ev E d env a) (fun v => Sp.bd (Sz.evArgs (Sz.ev E d env) l) fun vs => fun s => .ok (v :: vs) s)) s = _
          rw [eb, bind_ok hev', List.length_cons, lsC_cons, q22, kw'.1.oc kz.1.1 vz.1 vz.2, show b + (k + 1) = b + k + 1 by omega]
        · by_cases q : i = b + k
          · rw [q, q22]; exact vz.up kw'.1
          · exact vv' i (by omega) (by rw [hlen] at i1; omega)
      · exact bad.of kyz.1 (fun e s'' h => bind_err h)
    · refine bad.of kw.1 (fun e s' h => ?_)
      rw [ex] at h
      exact bind_err h

/-- a BASE function's terms have values -/
theorem evc_base_z [DecidableEq Ob] {u0 : iST} {E : Sp.Env} {B : Sz.Bx} {Q : Int → iST → Prop} (hT0 : CT u0) (hD0 : DOz u0 E) {c b t : Int} {w : iST} {s : Sz.Ek} {n : Nat} (c0 : 0 ≤ c) (gw : CG f8En f8Er u0 w) (hS : EvSc_z B w s (c + 1) (b + (n : Int))) (hf : VN w (w.2.1 16 c)) (f3 : 4 ≤ w.2.1 16 c ∧ w.2.1 16 c ≤ 16) (h18 : w.2.1 18 c = b) (h19 : w.2.1 19 c = 0) (h17 : VN w (w.2.1 17 c)) (np : (oc w (w.2.1 17 c)).isPr = false) (hn : Sp.arOf E (oc w (w.2.1 16 c)) = (n : Int)) (hv : ∀ i, b ≤ i → i < b + (n : Int) → VN w (w.2.1 22 i)) (t1 : t < 1000000) (room : Ob.base (oc w (w.2.1 16 c)) ((lsC w (w.2.1 22) b n).getD 0 Ob.nil) ((lsC w (w.2.1 22) b n).getD 1 Ob.nil) ≠ none → ∀ val, Ob.base (oc w (w.2.1 16 c)) ((lsC w (w.2.1 22) b n).getD 0 Ob.nil) ((lsC w (w.2.1 22) b n).getD 1 Ob.nil) = some val → FitC B (Sz.ad s.2.2 val 1))
    (ok : ∀ z v, Ob.base (oc w (w.2.1 16 c)) ((lsC w (w.2.1 22) b n).getD 0 Ob.nil) ((lsC w (w.2.1 22) b n).getD 1 Ob.nil) = some v → EvK c b w z → EvSc_z B z (s.1, s.2.1, Sz.ad s.2.2 v 1) c (b + 1) → z.1 6 = w.2.1 20 c → z.1 7 = w.2.1 21 c → VN z (z.2.1 22 b) → oc z (z.2.1 22 b) = v → pv_2_evaluated_35 Q (-1) (t + 1) z)
    (bad : Ob.base (oc w (w.2.1 16 c)) ((lsC w (w.2.1 22) b n).getD 0 Ob.nil) ((lsC w (w.2.1 22) b n).getD 1 Ob.nil) = none → ∀ z, CG f8En f8Er w z → z.1 9 = 3 → z.1 31 = w.1 31 → z.1 30 = w.1 30 → z.1 32 = 0 → z.1 29 = w.1 29 → Q (-1) z) : pv_2_evaluated_35 Q (-1) t w := by
  obtain ⟨s4, s5, s9, s32, s8, s31, s29⟩ := hS
  have kf := gw.1.2.2.2 (w.2.1 16 c).toNat (by omega)
  rw [show (((w.2.1 16 c).toNat : Nat) : Int) = w.2.1 16 c by omega] at kf
  have har := arOf_base (E := E) (i := (w.2.1 16 c).toNat) (by omega) (by omega) kf.symm
  have hn12 : n = 1 ∨ n = 2 := by
    rw [har, if_neg (by omega)] at hn
    split at hn <;> omega
  have g0 : (lsC w (w.2.1 22) b n).getD 0 Ob.nil = oc w (w.2.1 22 b) := by
    rw [List.getD_eq_getElem?_getD, lsC_get w _ b n (i := 0) (by omega), show b + ((0 : Nat) : Int) = b by omega]; rfl
  have g1 : (lsC w (w.2.1 22) b n).getD 1 Ob.nil = if Sp.arOf E (oc w (w.2.1 16 c)) = 2 then oc w (w.2.1 22 (b + 1)) else Ob.nil := by
    rw [hn]
    rcases hn12 with q | q
    · rw [List.getD_eq_getElem?_getD, List.getElem?_eq_none (by rw [lsC_len]; omega), if_neg (by omega)]; rfl
    · rw [List.getD_eq_getElem?_getD, lsC_get w _ b n (i := 1) (by omega), show b + ((1 : Nat) : Int) = b + 1 by omega, if_pos (by omega)]; rfl
  rw [g0, g1] at ok bad room
  refine ev_turn gw.1 t1 s9 s4 c0 h17 (fun z => ?_) (fun _ _ _ => ?_)
  · rcases z with z | z | z
    · exact absurd h19 z
    · omega
    · rw [np] at z; cases z
  rw [h18]
  refine pc_baseValue_z (E := E) gw.1 (fun val hb => by
    rcases s29.room (room (by rw [hb]; exact fun z => by cases z) val hb) with q | q
    · exact Or.inl (by omega)
    · exact Or.inr q) f3 (hv b (Int.le_refl _) (by omega)) (fun h2 => hv (b + 1) (by omega) (by omega)) (fun r v gv v29 hor hexi => ?_)
  have kv : EvK c b w v := EvK_M gv
  have vn : ∀ k, k ≠ 29 → v.1 k = w.1 k := fun k hk => gv.2.2.1 k (decide_eq_false hk)
  have vr : ∀ k, 16 ≤ k → k ≤ 22 → v.2.1 k = w.2.1 k := fun k h1 h2 => gv.2.2.2 k (by unfold f8R; exact decide_eq_false (by omega))
  intro y ey
  have ky : EvK c b v y := by rw [ey]; exact EvK_I gv.1 (by decide)
  have yn : ∀ k, k ≠ 9 → y.1 k = v.1 k := fun k hk => by rw [ey]; exact if_neg hk
  have y2 : y.2 = v.2 := by rw [ey]; rfl
  have y18 : y.2.1 18 c = b := by rw [y2, vr 18 (by decide) (by decide)]; exact h18
  refine pc_close (c := c) ky.1.1 (by rw [yn 4 (by decide), vn 4 (by decide)]; exact s4) (fun z kz z4 z5 z22 z6 z7 zn zc => ?_)
  rw [y18] at kz z5 z22
  have kall := (kv.tr ky (Int.le_refl _) (Int.le_refl _)).tr kz (Int.le_refl _) (Int.le_refl _)
  have z9 : z.1 9 = y.1 9 := zn 9 (by decide) (by decide) (by decide) (by decide)
  have zz : ∀ k, 29 ≤ k → z.1 k = v.1 k := fun k hk => by rw [zn k (by omega) (by omega) (by omega) (by omega), yn k (by omega)]
  rcases hor with ⟨hr, h29, hb⟩ | ⟨hr, hb⟩
  · have e9 : z.1 9 = 3 := by rw [z9, ey, hr]; rfl
    refine ev_stop (by rw [e9]; decide) (bad hb z kall.1 e9 (by rw [zz 31 (by decide), vn 31 (by decide)]) (by rw [zz 30 (by decide), vn 30 (by decide)]) (by rw [zz 32 (by decide), vn 32 (by decide)]; exact s32) (by rw [zz 29 (by decide)]; have := gv.le; omega))
  · have hr1 : r ≠ -1 := by have := hr.1; omega
    have e9 : z.1 9 = 0 := by rw [z9, ey, if_pos hr1]; rfl
    have ez : oc z r = oc v r := by
      have e1 : z.2.2 = v.2.2 := by rw [zc, y2]
      exact oc_same e1 r
    refine ok z (oc v r) hb kall ⟨z4, z5, e9, by rw [zz 32 (by decide), vn 32 (by decide)]; exact s32, by rw [zn 8 (by decide) (by decide) (by decide) (by decide), yn 8 (by decide), vn 8 (by decide)]; exact s8, by rw [zz 31 (by decide), zz 30 (by decide), vn 31 (by decide), vn 30 (by decide)]; exact s31, ?_⟩ (by rw [z6, y2, vr 20 (by decide) (by decide)]) (by rw [z7, y2, vr 21 (by decide) (by decide)]) (by rw [z22]; exact (hr.up ky.1).up kz.1) (by rw [z22]; exact ez)
    exact s29.made gw.1 kall.1 ⟨r, (hr.up ky.1).up kz.1, ez⟩ (by rw [zz 29 (by decide)]; exact v29) (fun q => by rw [zz 29 (by decide)]; exact hexi _ hb q)
/-- a defined function's terms have values: its body is next -/
theorem evc_fun_z [DecidableEq Ob] {u0 : iST} {E : Sp.Env} {Q : Int → iST → Prop} (hT0 : CT u0) (hD0 : DOz u0 E) {c t : Int} {w : iST} (c0 : 0 ≤ c) (gw : CG f8En f8Er u0 w) (h9 : w.1 9 = 0) (h4 : w.1 4 = c + 1) (hf : VN w (w.2.1 16 c)) (f16 : 16 < w.2.1 16 c) (h19 : w.2.1 19 c = 0) (h17 : VN w (w.2.1 17 c)) (np : (oc w (w.2.1 17 c)).isPr = false) {D : Sp.Dfn} (hD : E.dfn (oc w (w.2.1 16 c)) = some D) (t1 : t < 1000000) (har : 0 ≤ Sp.arOf E (oc w (w.2.1 16 c)))
    (hq : ∀ d z, 0 ≤ d → d < w.1 0 → dfnC w d = D → EvK c (w.1 5) w z → (∀ j, 16 ≤ j → j ≤ 21 → j ≠ 19 → z.2.1 j = w.2.1 j) → z.2.1 19 c ≠ 0 → z.2.1 22 = w.2.1 22 → z.1 6 = d → z.1 7 = w.2.1 18 c → (∀ k, k ≠ 6 → k ≠ 7 → z.1 k = w.1 k) → z.2.2 = w.2.2 → pv_2_evaluated_35 Q (w.2.1 3 d) (t + 1) z) : pv_2_evaluated_35 Q (-1) t w := by
  refine ev_turn gw.1 t1 h9 h4 c0 h17 (fun _ => ?_) (fun _ z => by omega)
  unfold pv_2_goOn
  intro _ _ a ea _
  rw [ea]
  refine ⟨fun _ => ?_, fun z => absurd h19 z⟩
  intro _ _ b eb _
  rw [eb]
  refine pc_isPair gw.1 h17 (fun r hr => ⟨fun z => absurd (hr.t z) (by rw [np]; decide), fun _ => ?_⟩)
  intro _ _ _ y1 e1 _ _ f ef _
  have k1 : EvK c (w.1 5) w y1 := by rw [e1]; exact EvK_A gw.1 (by decide) (fun _ => Int.le_refl _) (fun z => by cases z)
  have ec1 : ∀ k, oc y1 k = oc w k := oc_same (by rw [e1]; rfl)
  have ef' : f = w.2.1 16 c := by rw [ef, e1]; rfl
  rw [ef']
  have hD1 := (hD0.ev hT0 gw).ev gw.1 k1.1
  refine pc_functionOf_z k1.1.1 hD1 (hf.up k1.1) (by rw [ec1]; exact har) (fun hn => ?_) (fun d d0 d1 hd1 hdf => ?_)
  · rw [ec1, hD] at hn; cases hn
  intro y2 e2 _ _ g eg _ y3 e3 i ei _
  have ei' : i = d := by rw [ei, e3, e2]; rfl
  rw [ei']
  refine ⟨fun _ => ?_, fun z => absurd (show d ≠ -1 by omega) z⟩
  intro j ej _
  have ej' : j = d := by rw [ej, e3, e2]; rfl
  rw [ej']
  intro _ _ m em _
  have em' : m = w.2.1 3 d := by rw [em, e3, e2, e1]; rfl
  rw [em']
  have k2 : EvK c (w.1 5) y1 y2 := by rw [e2]; exact EvK_I k1.1.1 (by decide)
  have k3 : EvK c (w.1 5) y2 y3 := by rw [e3]; exact EvK_I k2.1.1 (by decide)
  have eg' : g = w.2.1 18 c := by rw [eg, e2, e1]; rfl
  have n0 : y1.1 = w.1 := by rw [e1]; rfl
  rw [n0] at d1
  have hdw := (hD0.ev hT0 gw).2.2 d d0 d1
  have edf : dfnC y1 d = dfnC w d := (hdw.mono gw.1 k1.1 (fun k hk => by rw [e1]; exact if_neg (by omega))).2
  rw [ec1, hD, edf] at hdf
  refine hq d y3 d0 d1 (Option.some.inj hdf).symm ((k1.tr k2 (Int.le_refl _) (Int.le_refl _)).tr k3 (Int.le_refl _) (Int.le_refl _)) (fun j h1 h2 h3 => by rw [e3, e2, e1]; exact if_neg h3) (by rw [e3, e2, e1]; show (if c = c then (1 : Int) else _) ≠ 0; rw [if_pos rfl]; decide) (by rw [e3, e2, e1]; rfl) (by rw [e3, e2]; rfl) (by rw [e3, eg']; rfl) (fun k h1 h2 => by rw [e3, e2, e1]; exact (if_neg h2).trans (if_neg h1)) (by rw [e3, e2, e1]; rfl)
theorem evc_step_z [DecidableEq Ob] {u0 : iST} {E : Sp.Env} {B : Sz.Bx} {Q : Int → iST → Prop} (hT0 : CT u0) (hD0 : DOz u0 E) (hW : Sp.DWf E) (h6 : ∀ f, Sp.arOf E f ≤ 6) (d : Nat) (hprev : ∀ d', d = d' + 1 → EvGc_z u0 E B Q d') : EvGc_z u0 E B Q d := by
  intro env c h x x4 v s gv hS hd h0 h1 vx wx en t0 t1 fit ok bad
  have hS' := hS
  obtain ⟨s4, s5, s9, s32, s8, s31, s29⟩ := hS'
  have hT := gv.1
  have hDv := hD0.ev hT0 gv
  have c0 : 0 ≤ c := by omega
  refine fo_v_2_evaluated_35 ?_
  unfold pv_2_evaluated_35b
  refine ⟨fun z => by omega, fun _ => ?_⟩
  intro a ea _
  rw [ea]
  refine ⟨fun z => absurd s9 z, fun _ => ⟨fun z => by have := vx.1; omega, fun _ => ?_⟩⟩
  -- a leaf
  have leaf : ∀ r, VN v r → Sz.ev E d env (oc v x) s = .ok (oc v r) s → pv_2_evaluated_101 (fun x3 x4 u => pv_2_evaluated_35 Q x3 x4 u) Q x4 r v := by
    intro r vr er
    unfold pv_2_evaluated_101
    refine pc_hold hT s5 h0 (by omega) (fun w kw w5 w22 wn wc => ?_)
    rw [s4] at kw
    unfold pv_2_evaluated_104
    intro _
    have e : oc w (w.2.1 22 h) = oc v r := by rw [w22]; exact oc_same wc r
    refine ok w (x4 + 1) s (by rw [e]; exact er) kw ⟨by rw [wn 4 (by decide)]; exact s4, w5, by rw [wn 9 (by decide)]; exact s9, by rw [wn 32 (by decide)]; exact s32, by rw [wn 8 (by decide)]; exact s8, by rw [wn 31 (by decide), wn 30 (by decide)]; exact s31, s29.up hT kw.1 (wn 29 (by decide))⟩ (wn 6 (by decide)) (wn 7 (by decide)) (by rw [w22]; exact vr.up kw.1) (by omega) (by omega)
  refine pc_isCall hT vx (fun r1 hr1 => ⟨fun z1 => ?_, fun z1 => ?_⟩)
  · have nc := hr1.f z1
    refine pc_isVariable hT vx (fun r2 hr2 => ⟨fun z2 => ?_, fun z2 => ?_⟩)
    · refine pc_valueOf hT vx (fun r vr er => leaf r vr ?_)
      rw [er]
      exact ev_const_z (leaf_const nc (hr2.f z2)) d
    · have iv := hr2.t z2
      refine pc_parameterValue_z hT hDv vx iv en s5 (fun r vr er => leaf r vr ?_)
      rw [er]
      exact ev_var_z (var_nc iv).1 (var_nc iv).2 d
  have ic := hr1.t z1
  have ncst := call_nc ic
  obtain ⟨f, l, eo, hfq, hfs, har, hwl⟩ := Ob.wt_call wx ic
  have hl6 : (l.length : Int) ≤ 6 := by have := h6 f; omega
  have psub : ∀ a, a ∈ l → ∀ y, y ∈ Ob.parts a → y ∈ Ob.parts (oc v x) := fun a ha y hy => by rw [eo]; exact parts_call hfq ha hy
  refine pc_begin_z hT vx hS ?_ ?_ ?_ ?_
  · intro hc w kw w9 wn
    unfold pv_2_evaluated_104
    intro _
    have hd0 : d = 0 := by omega
    subst hd0
    refine ev_stop (by rw [w9]; decide) (bad w s 2 (ev_deep_z ncst ic) kw.1 w9 (by rw [w9]; decide) (by rw [wn 31 (by decide), wn 30 (by decide)]; exact s31) (s29.up hT kw.1 (wn 29 (by decide))) (fun _ => by rw [wn 32 (by decide)]; exact s32) (fun z => by cases z))
  · intro hc hs w kw w9 wn
    unfold pv_2_evaluated_104
    intro _
    obtain ⟨d', hd'⟩ : ∃ d', d = d' + 1 := ⟨d - 1, by omega⟩
    subst hd'
    refine ev_stop (by rw [w9]; decide) (bad w s (-1) (ev_own_z ncst ic hs) kw.1 w9 (by rw [w9]; decide) (by rw [wn 31 (by decide), wn 30 (by decide)]; exact s31) (s29.up hT kw.1 (wn 29 (by decide))) (fun _ => by rw [wn 32 (by decide)]; exact s32) (fun z => by cases z))
  · intro hc hs hs1 w kw w9 w32 w31 w30 w29
    unfold pv_2_evaluated_104
    intro _
    obtain ⟨d', hd'⟩ : ∃ d', d = d' + 1 := ⟨d - 1, by omega⟩
    subst hd'
    exact ev_stop (by rw [w9]; decide) (bad w s 1 (ev_fuel_z ncst ic hs hs1) kw.1 w9 (by rw [w9]; decide) (by rw [w31, w30]; exact s31) (s29.up hT kw.1 w29) (fun z => absurd rfl z) (fun _ => w32))
  intro hc hs hs1 y ky hSy y6 y7 v16 e16 v17 e17 y18 y19 y20 y21
  unfold pv_2_evaluated_104
  intro _
  obtain ⟨d', hd'⟩ : ∃ d', d = d' + 1 := ⟨d - 1, by omega⟩
  have ih := hprev d' hd'
  subst hd'
  have gy := gv.tr ky.1
  have hDy := hD0.ev hT0 gy
  rw [eo] at e16 e17
  have e16 : oc y (y.2.1 16 c) = f := e16
  have e17 : oc y (y.2.1 17 c) = Ob.ofList l := e17
  have eny : ∀ o, (∀ z, z ∈ Ob.parts o → z ∈ Ob.parts (oc v x)) → EnC y h env o := fun o ho => (en.sub ho).keep_z hT hDv ky y6 y7
  have hdd : c + 1 + (d' : Int) = 300 := by omega
  have hfy : y.2.1 16 c = 3 ↔ f = Ob.ifS := by rw [← e16]; exact katC gy.1 3 (by decide) (by decide) rfl v16.1 v16.2
  obtain ⟨q4, q5, q9, q32, q8, q31, q29⟩ := hSy
  have hSy : EvSc_z B y (s.1 - 1, s.2.1 - 1, s.2.2) (c + 1) h := ⟨q4, q5, q9, q32, q8, q31, q29⟩
  have hsn : (((s.1 - 1 : Nat) : Int)) = (s.1 : Int) - 1 := by omega
  by_cases hif : f = Ob.ifS
  · -- IF
    have hl3 : l.length = 3 := by rw [hif, arOf_ifS] at har; omega
    obtain ⟨p, q, r, el⟩ : ∃ p q r, l = [p, q, r] := by
      match l, hl3 with
      | [p, q, r], _ => exact ⟨p, q, r, rfl⟩
    have hev : Sz.ev E (d' + 1) env (oc v x) s = Sp.bd (Sz.ev E d' env p) (fun a => Sz.ev E d' env (if a = Ob.nil then r else q)) (s.1 - 1, s.2.1 - 1, s.2.2) := by
      rw [ev_if_z ncst ic hs hs1 (by rw [eo]; exact hif)]
      have i1 : (oc v x).item 1 = p := by rw [eo, el]; rfl
      have i2 : (oc v x).item 2 = q := by rw [eo, el]; rfl
      have i3 : (oc v x).item 3 = r := by rw [eo, el]; rfl
      rw [i1]
      congr 1
      funext a
      by_cases ha : a = Ob.nil
      · rw [if_pos ha, if_pos ha, i3]
      · rw [if_neg ha, if_neg ha, i2]
    rw [hev] at fit bad
    have mp : p ∈ l := by rw [el]; exact List.mem_cons_self
    have mq : q ∈ l := by rw [el]; exact List.mem_cons_of_mem _ List.mem_cons_self
    have mr : r ∈ l := by rw [el]; exact List.mem_cons_of_mem _ (List.mem_cons_of_mem _ List.mem_cons_self)
    have fy3 := hfy.mpr hif
    refine ev_next gy.1 (by omega) q9 q4 c0 v17 y19 (by rw [e17, el]; rfl) (fun _ => by rw [q5, y18]; exact Int.le_refl _) (fun x1 w1 hw1 vx1 ex1 v171 e171 => ?_)
    obtain ⟨rr, ew1⟩ := hw1
    rw [e17, el] at ex1 e171
    have ex1 : oc w1 x1 = p := ex1
    have e171 : oc w1 (w1.2.1 17 c) = .pr q (.pr r Ob.nil) := e171
    have k1 : EvK c h y w1 := by rw [ew1]; exact EvK_A gy.1 (by decide) (fun _ => Int.le_refl _) (fun z => by cases z)
    have n1 : w1.1 = y.1 := by rw [ew1]; rfl
    have r1 : ∀ j, j ≠ 17 → w1.2.1 j = y.2.1 j := fun j hj => by rw [ew1]; exact if_neg hj
    have g1 := gy.tr k1.1
    have hS1 : EvSc_z B w1 (s.1 - 1, s.2.1 - 1, s.2.2) (c + 1) h := ⟨by rw [n1]; exact q4, by rw [n1]; exact q5, by rw [n1]; exact q9, by rw [n1]; exact q32, by rw [n1]; exact q8, by rw [n1]; exact q31, q29.up gy.1 k1.1 (by rw [n1])⟩
    have en1 : ∀ o, (∀ z, z ∈ Ob.parts o → z ∈ Ob.parts (oc v x)) → EnC w1 h env o := fun o ho => (eny o ho).keep_z gy.1 hDy k1 (by rw [n1]) (by rw [n1])
    refine ih env (c + 1) h x1 (x4 + 1 + 1) w1 (s.1 - 1, s.2.1 - 1, s.2.2) g1 hS1 hdd h0 (by omega) vx1 (by rw [ex1]; exact hwl p mp) (by rw [ex1]; exact en1 p (psub p mp)) (by omega) (by show x4 + 1 + 1 + 16 * (((s.2.1 - 1 : Nat) : Int)) + 20 ≤ 900000; omega) (by rw [ex1]; exact fit.bd (fun a => ev_mon_z d' env _)) ?_ (by rw [ex1]; exact bad.of (ky.1.tr k1.1) (fun e s' hh => bind_err hh))
    intro w2 y4 s2 hev1 k2 hS2 w26 w27 vv2 t2 t3
    rw [ex1] at hev1
    have hm1 := (ev_mon_z d' env p (s.1 - 1, s.2.1 - 1, s.2.2) (E := E)).2.2
    rw [hev1] at hm1
    have hm1 : s2.2.1 ≤ s.2.1 - 1 := hm1
    have t3 : y4 + 16 * (s2.2.1 : Int) ≤ x4 + 1 + 1 + 16 * (((s.2.1 - 1 : Nat) : Int)) + 1 := t3
    have eb := bind_ok (f := fun a => Sz.ev E d' env (if a = Ob.nil then r else q)) hev1
    rw [eb] at fit bad hev
    obtain ⟨p4, p5, p9, p32, p8, p31, p29⟩ := hS2
    have row2 : ∀ j, 16 ≤ j → j ≤ 21 → w2.2.1 j c = w1.2.1 j c := fun j h1 h2 => k2.2.1 c j (by omega) h1 h2
    have w217 : w2.2.1 17 c = w1.2.1 17 c := row2 17 (by decide) (by decide)
    refine evc_if (b := h) (p := q) (q := r) k2.1.1 c0 p9 p4 (by rw [row2 16 (by decide) (by decide), r1 16 (by decide)]; exact fy3) (by rw [row2 18 (by decide) (by decide), r1 18 (by decide)]; exact y18) (by rw [row2 19 (by decide) (by decide), r1 19 (by decide)]; exact y19) p5 (by rw [w217]; exact v171.up k2.1) (by rw [w217, k2.1.oc k1.1.1 v171.1 v171.2]; exact e171) vv2 (by omega) (fun x2 z kz z5 z19 zr zn zc vx2 ex2 => ?_)
    have mo : (if oc w2 (w2.2.1 22 h) = Ob.nil then r else q) ∈ l := by split; exact mr; exact mq
    have g2 := g1.tr k2.1
    have gz := g2.tr kz.1
    have kvz : EvK c h v z := ((ky.tr k1 (Int.le_refl _) (Int.le_refl _)).tr ⟨k2.1, fun j k hj h1 h2 => k2.2.1 j k (by omega) h1 h2, k2.2.2⟩ (Int.le_refl _) (Int.le_refl _)).tr kz (Int.le_refl _) (Int.le_refl _)
    have hDw1 := hD0.ev hT0 g1
    have hDw2 := hD0.ev hT0 g2
    have enz : EnC z h env (oc z x2) := by
      rw [ex2]
      exact ((en1 _ (psub _ mo)).keep_z k1.1.1 hDw1 k2 w26 w27).keep_z k2.1.1 hDw2 kz (zn 6 (by decide)) (zn 7 (by decide))
    refine ih env (c + 1) h x2 (y4 + 1) z s2 gz ⟨by rw [zn 4 (by decide)]; exact p4, z5, by rw [zn 9 (by decide)]; exact p9, by rw [zn 32 (by decide)]; exact p32, by rw [zn 8 (by decide)]; exact p8, by rw [zn 31 (by decide), zn 30 (by decide)]; exact p31, p29.up k2.1.1 kz.1 (zn 29 (by decide))⟩ hdd h0 (by omega) vx2 (by rw [ex2]; exact hwl _ mo) enz (by omega) (by omega) (by rw [ex2]; exact fit) ?_ (by rw [ex2]; exact bad.of kvz.1 (fun e s' hh => hh) |> fun hb => fun w s' e h1 g1' => hb w s' e h1 g1')
    intro w3 y5 s3 hev2 k3 hS3 w36 w37 vv3 t4 t5
    rw [ex2] at hev2
    obtain ⟨m4, m5, m9, m32, m8, m31, m29⟩ := hS3
    have row3 : ∀ j, 16 ≤ j → j ≤ 21 → w3.2.1 j c = z.2.1 j c := fun j h1 h2 => k3.2.1 c j (by omega) h1 h2
    have zrow : ∀ j, 16 ≤ j → j ≤ 21 → j ≠ 19 → j ≠ 17 → z.2.1 j c = y.2.1 j c := fun j h1 h2 h3 h4 => by rw [zr j h1 (by omega) h3, row2 j h1 h2, r1 j h4]
    have w318 : w3.2.1 18 c = h := by rw [row3 18 (by decide) (by decide), zrow 18 (by decide) (by decide) (by decide) (by decide)]; exact y18
    have z17 : z.2.1 17 c = w1.2.1 17 c := by rw [zr 17 (by decide) (by decide) (by decide)]; exact w217
    refine ev_body (h := h) k3.1.1 (by omega) m9 m4 c0 (by rw [row3 17 (by decide) (by decide), z17]; exact ((v171.up k2.1).up kz.1).up k3.1) (by rw [row3 19 (by decide) (by decide)]; exact z19) m5 h0 (fun w4 k4 w44 w45 w422 w46 w47 w4n w4c => ?_)
    rw [w318] at k4 w45 w422
    have kall : EvK c h v w4 := (kvz.tr ⟨k3.1, fun j k hj h1 h2 => k3.2.1 j k (by omega) h1 h2, k3.2.2⟩ (Int.le_refl _) (Int.le_refl _)).tr k4 (Int.le_refl _) (Int.le_refl _)
    have ov : oc w4 (w4.2.1 22 h) = oc w3 (w3.2.1 22 h) := by rw [w422]; exact oc_same w4c _
    have n4 : ∀ k, 8 ≤ k → w4.1 k = w3.1 k := fun k hk => w4n k (by omega) (by omega) (by omega) (by omega)
    refine ok w4 (y5 + 1) s3 (by rw [ov, hev]; exact hev2) kall ⟨w44, w45, by rw [n4 9 (by decide)]; exact m9, by rw [n4 32 (by decide)]; exact m32, by rw [n4 8 (by decide)]; exact m8, by rw [n4 31 (by decide), n4 30 (by decide)]; exact m31, m29.up k3.1.1 k4.1 (n4 29 (by decide))⟩ (by rw [w46, row3 20 (by decide) (by decide), zrow 20 (by decide) (by decide) (by decide) (by decide)]; exact y20) (by rw [w47, row3 21 (by decide) (by decide), zrow 21 (by decide) (by decide) (by decide) (by decide)]; exact y21) (by rw [w422]; exact vv3.up k4.1) (by omega) (by omega)
  · -- a call of another function
    have hev : Sz.ev E (d' + 1) env (oc v x) s = Sp.bd (Sz.evArgs (Sz.ev E d' env) l) (Sz.evCall E d' f) (s.1 - 1, s.2.1 - 1, s.2.2) := by
      rw [ev_call_z ncst ic hs hs1 (by rw [eo]; exact hif)]
      rw [show Ob.toList (Ob.rgt (oc v x)) = l by rw [eo]; exact Ob.toList_ofList l, show Ob.lft (oc v x) = f by rw [eo]; rfl]
    rw [hev] at fit bad
    have monC : ∀ vs : List Ob, MonE_z (Sz.evCall E d' f vs) := fun vs => by
      unfold Sz.evCall
      split
      · exact ev_mon_z d' _ _
      · split
        · exact fun s => ⟨CoL.ad _ _ _, Nat.le_refl _, Nat.le_refl _⟩
        · exact fun s => ⟨CoL.rf _, Nat.le_refl _, Nat.le_refl _⟩
    refine evc_args_z hT0 hD0 ih (b := h) c0 hdd l 0 (x4 + 1) y (s.1 - 1, s.2.1 - 1, s.2.2) gy (by rw [show h + 0 = h by omega]; exact hSy) h0 h1 (Int.le_refl _) (by omega) (fun z => hif (hfy.mp z)) y19 v17 e17 (fun a' ha' => ⟨hwl a' ha', eny a' (psub a' ha')⟩) (by omega) (by show x4 + 1 + 16 * (((s.2.1 - 1 : Nat) : Int)) + 22 + 2 * (l.length : Int) ≤ 900000; omega) (fit.bd monC) ?_ (bad.of ky.1 (fun e s' hh => bind_err hh))
    intro w t' s2 hev1 kw hSw hrow v17w npw w6 w7 vvw t2 t3
    rw [show h + 0 = h by omega] at hev1 kw hSw vvw
    have hm1 := (evArgs_mon_z (fun o => ev_mon_z d' env o) l (s.1 - 1, s.2.1 - 1, s.2.2) (r := Sz.ev E d' env)).2.2
    rw [hev1] at hm1
    have hm1 : s2.2.1 ≤ s.2.1 - 1 := hm1
    have t3 : t' + 16 * (s2.2.1 : Int) ≤ x4 + 1 + 16 * (((s.2.1 - 1 : Nat) : Int)) + 2 * (l.length : Int) := t3
    have eb := bind_ok (f := Sz.evCall E d' f) hev1
    rw [eb] at fit bad hev
    have hSw' := hSw
    obtain ⟨p4, p5, p9, p32, p8, p31, p29⟩ := hSw'
    have gw := gy.tr kw.1
    have w16 : w.2.1 16 c = y.2.1 16 c := hrow 16 (by decide) (by decide) (by decide)
    have v16w : VN w (w.2.1 16 c) := by rw [w16]; exact v16.up kw.1
    have e16w : oc w (w.2.1 16 c) = f := by rw [w16, kw.1.oc gy.1 v16.1 v16.2]; exact e16
    have w18 : w.2.1 18 c = h := by rw [hrow 18 (by decide) (by decide) (by decide)]; exact y18
    have kvw : EvK c h v w := ky.tr kw (Int.le_refl _) (Int.le_refl _)
    have hDw := hD0.ev hT0 gw
    by_cases hb16 : w.2.1 16 c ≤ 16
    · -- BASE
      have h4 : 4 ≤ w.2.1 16 c := by
        have hpos := v16w.1
        have n01 : ¬ w.2.1 16 c < 2 := fun z => by
          have ho := arOf_out (E := E) gw.1 v16w (by omega)
          rw [dfn_base_z gw.1 hDw v16w hb16, e16w] at ho
          have ho : Sp.arOf E f = -1 := ho
          omega
        have n2 : w.2.1 16 c ≠ 2 := fun z => hfq (by rw [← e16w]; exact (katC gw.1 2 (o := Ob.quote) (by decide) (by decide) rfl v16w.1 v16w.2).mp z)
        have n3 : w.2.1 16 c ≠ 3 := fun z => hif (by rw [← e16w]; exact (katC gw.1 3 (o := Ob.ifS) (by decide) (by decide) rfl v16w.1 v16w.2).mp z)
        omega
      have hnd : E.dfn f = none := by rw [← e16w]; exact dfn_base_z gw.1 hDw v16w hb16
      have ecall : ∀ vs, Sz.evCall E d' f vs = (match Ob.base f (vs.getD 0 Ob.nil) (vs.getD 1 Ob.nil) with | some v => fun s => .ok v (s.1, s.2.1, Sz.ad s.2.2 v 1) | none => fun s => .error 3 s) := fun vs => by unfold Sz.evCall; rw [hnd]
      rw [ecall] at fit bad hev
      have hroom : ∀ val, Ob.base f ((lsC w (w.2.1 22) h l.length).getD 0 Ob.nil) ((lsC w (w.2.1 22) h l.length).getD 1 Ob.nil) = some val → FitC B (Sz.ad s2.2.2 val 1) := fun val e9 => by
        rw [e9] at fit
        exact fit
      refine evc_base_z hT0 hD0 (B := B) (n := l.length) (b := h) c0 gw hSw v16w ⟨h4, hb16⟩ w18 (by rw [hrow 19 (by decide) (by decide) (by decide)]; exact y19) v17w npw (by rw [e16w]; exact har) vvw (by omega) (fun _ val hv => hroom val (by rw [e16w] at hv; exact hv)) ?_ ?_
      · intro z vv hb kz hSz z6 z7 vz ez
        rw [e16w] at hb
        rw [hb] at hev
        exact ok z (t' + 1) (s2.1, s2.2.1, Sz.ad s2.2.2 vv 1) (by rw [ez, hev]) (kvw.tr kz (Int.le_refl _) (Int.le_refl _)) hSz (by rw [z6, hrow 20 (by decide) (by decide) (by decide)]; exact y20) (by rw [z7, hrow 21 (by decide) (by decide) (by decide)]; exact y21) vz (by omega) (by show t' + 1 + 16 * (s2.2.1 : Int) ≤ _; omega)
      · intro hb z gz z9 z31 z30 z32 z29
        rw [e16w] at hb
        rw [hb] at bad
        exact bad z s2 3 rfl (kvw.1.tr gz) (by rw [z9]; rfl) (by rw [z9]; decide) (by rw [z31, z30]; exact p31) (p29.up gw.1 gz z29) (fun _ => z32) (fun z => by cases z)
    · -- a function that is defined
      have ho := arOf_out (E := E) gw.1 v16w (by omega)
      rw [e16w, har] at ho
      obtain ⟨D, hD⟩ : ∃ D, E.dfn f = some D := by
        cases e : E.dfn f with
        | none =>
          rw [e] at ho
          have ho : (l.length : Int) = -1 := ho
          omega
        | some D => exact ⟨D, rfl⟩
      rw [hD] at ho
      have hpl : (l.length : Int) = (D.params.length : Int) := ho
      have ecall : ∀ vs, Sz.evCall E d' f vs = Sz.ev E d' (fun x => (Ob.lk (D.params.zip vs) x).getD Ob.nil) D.body := fun vs => by unfold Sz.evCall; rw [hD]
      rw [ecall] at fit bad hev
      obtain ⟨hDm, _⟩ := dfn_mem hD
      obtain ⟨bw, bv⟩ := hW D hDm
      refine evc_fun_z hT0 hD0 c0 gw p9 p4 v16w (by omega) (by rw [hrow 19 (by decide) (by decide) (by decide)]; exact y19) v17w npw (by rw [e16w]; exact hD) (by omega) (by rw [e16w, har]; omega) (fun i z i0 i1 ei kz zr z19 z22 z6 z7 zn zc => ?_)
      rw [p5] at kz
      obtain ⟨_, _, ⟨vp, lp, lp0, _⟩, vb, _⟩ := hDw.2.2 i i0 i1
      have eb1 : oc w (w.2.1 3 i) = D.body := by rw [← ei]; rfl
      have ep1 : Ob.toList (oc w (w.2.1 1 i)) = D.params := by rw [← ei]; rfl
      have hlp : (oc w (w.2.1 1 i)).len ≠ -1 := by omega
      have hit : itN (oc w (w.2.1 1 i)) = (l.length : Int) := by rw [itN_len hlp, Ob.len_toList hlp, ep1]; exact hpl.symm
      have ec : ∀ k, oc z k = oc w k := oc_same zc
      have r1 : z.2.1 1 = w.2.1 1 := kz.1.2.2.2 1 (by decide)
      have gz := gw.tr kz.1
      have enz : EnC z (h + (l.length : Int)) (fun x => (Ob.lk (D.params.zip (lsC w (w.2.1 22) h l.length)) x).getD Ob.nil) D.body := by
        refine Or.inr ⟨by omega, by rw [z6, zn 0 (by decide) (by decide)]; exact i1, by omega, ?_, fun k k0 k1 => ?_, ?_⟩
        · rw [z6, z7, r1, ec, hit, w18]; exact Int.le_refl _
        · rw [z7, w18] at k0 k1
          rw [z6, r1, ec, hit] at k1
          rw [z22]
          exact (vvw k k0 k1).up kz.1
        · rw [z6, z7, r1, ec, hit, w18, ep1, Int.toNat_natCast, z22]
          have hl : lsC z (w.2.1 22) h l.length = lsC w (w.2.1 22) h l.length := lsC_congr (fun i _ => ec _)
          rw [hl]
      have kvz : EvK c h v z := kvw.tr kz (Int.le_refl _) (by omega)
      have ezb : oc z (w.2.1 3 i) = D.body := by rw [ec]; exact eb1
      refine ih _ (c + 1) (h + (l.length : Int)) (w.2.1 3 i) (t' + 1) z s2 gz ⟨by rw [zn 4 (by decide) (by decide)]; exact p4, by rw [zn 5 (by decide) (by decide)]; exact p5, by rw [zn 9 (by decide) (by decide)]; exact p9, by rw [zn 32 (by decide) (by decide)]; exact p32, by rw [zn 8 (by decide) (by decide)]; exact p8, by rw [zn 31 (by decide) (by decide), zn 30 (by decide) (by decide)]; exact p31, p29.up gw.1 kz.1 (zn 29 (by decide) (by decide))⟩ hdd (by omega) (by omega) (vb.up kz.1) (by rw [ezb]; exact bw) (by rw [ezb]; exact enz) (by omega) (by omega) (by rw [ezb]; exact fit) ?_ (by rw [ezb]; exact bad.of kvz.1 (fun e s' hh => hh))
      intro w3 y5 s3 hev2 k3 hS3 w36 w37 vv3 t4 t5
      rw [ezb] at hev2
      obtain ⟨m4, m5, m9, m32, m8, m31, m29⟩ := hS3
      have row3 : ∀ j, 16 ≤ j → j ≤ 21 → w3.2.1 j c = z.2.1 j c := fun j h1 h2 => k3.2.1 c j (by omega) h1 h2
      have zrow : ∀ j, 16 ≤ j → j ≤ 21 → j ≠ 19 → j ≠ 17 → z.2.1 j c = y.2.1 j c := fun j h1 h2 h3 h4 => by rw [zr j h1 h2 h3, hrow j h1 h2 h4]
      have w318 : w3.2.1 18 c = h := by rw [row3 18 (by decide) (by decide), zrow 18 (by decide) (by decide) (by decide) (by decide)]; exact y18
      refine ev_body (h := h + (l.length : Int)) k3.1.1 (by omega) m9 m4 c0 (by rw [row3 17 (by decide) (by decide), zr 17 (by decide) (by decide) (by decide)]; exact (v17w.up kz.1).up k3.1) (by rw [row3 19 (by decide) (by decide)]; exact z19) m5 (by omega) (fun w4 k4 w44 w45 w422 w46 w47 w4n w4c => ?_)
      rw [w318] at k4 w45 w422
      have kall : EvK c h v w4 := (kvz.tr ⟨k3.1, fun j k hj h1 h2 => k3.2.1 j k (by omega) h1 h2, fun j hj => k3.2.2 j (by omega)⟩ (Int.le_refl _) (Int.le_refl _)).tr k4 (Int.le_refl _) (Int.le_refl _)
      have ov : oc w4 (w4.2.1 22 h) = oc w3 (w3.2.1 22 (h + (l.length : Int))) := by rw [w422]; exact oc_same w4c _
      have n4 : ∀ k, 8 ≤ k → w4.1 k = w3.1 k := fun k hk => w4n k (by omega) (by omega) (by omega) (by omega)
      refine ok w4 (y5 + 1) s3 (by rw [ov, hev]; exact hev2) kall ⟨w44, w45, by rw [n4 9 (by decide)]; exact m9, by rw [n4 32 (by decide)]; exact m32, by rw [n4 8 (by decide)]; exact m8, by rw [n4 31 (by decide), n4 30 (by decide)]; exact m31, m29.up k3.1.1 k4.1 (n4 29 (by decide))⟩ (by rw [w46, row3 20 (by decide) (by decide), zrow 20 (by decide) (by decide) (by decide) (by decide)]; exact y20) (by rw [w47, row3 21 (by decide) (by decide), zrow 21 (by decide) (by decide) (by decide) (by decide)]; exact y21) (by rw [w422]; exact vv3.up k4.1) (by omega) (by omega)
theorem evc_go_z [DecidableEq Ob] {u0 : iST} {E : Sp.Env} {B : Sz.Bx} {Q : Int → iST → Prop} (hT0 : CT u0) (hD0 : DOz u0 E) (hW : Sp.DWf E) (h6 : ∀ f, Sp.arOf E f ≤ 6) : ∀ d : Nat, EvGc_z u0 E B Q d
  | 0 => evc_step_z hT0 hD0 hW h6 0 (fun d' h => by omega)
  | d + 1 => evc_step_z hT0 hD0 hW h6 (d + 1) (fun d' h => by rw [show d' = d by omega]; exact evc_go_z hT0 hD0 hW h6 d)

/-! the class: a term without variables is evaluated -/
theorem pc_evaluated_z [DecidableEq Ob] {x n : Int} {B : Sz.Bx} {Q : Int → iST → Prop} {u : iST} {E : Sp.Env} {env : Ob → Ob} {s : Sz.Ek} (hT : CT u) (hD : DOz u E) (hW : Sp.DWf E) (h6 : ∀ f, Sp.arOf E f ≤ 6) (hx : VN u x) (hw : Ob.wt (Sp.arOf E) (oc u x)) (hv : ∀ y, y ∈ Ob.parts (oc u x) → Ob.isVar y = false) (h32 : u.1 32 = 0) (hn : n = (s.2.1 : Int)) (h31 : u.1 31 + (s.1 : Int) = u.1 30) (h29 : Rm B u s.2.2) (hs : 16 * (s.2.1 : Int) + 20 ≤ 900000) (fit : FitE_z B (Sz.ev E 300 env (oc u x) s))
    (ok : ∀ r w s', Sz.ev E 300 env (oc u x) s = .ok (oc w r) s' → CG f8En f8Er u w → VN w r → w.1 9 = 0 → w.1 32 = 0 → w.1 31 + (s'.1 : Int) = w.1 30 → Rm B w s'.2.2 → Q r w)
    (bad : EvBd_z B Q (Sz.ev E 300 env (oc u x) s) u) : pv_2_evaluated x n Q u := by
  unfold pv_2_evaluated
  intro y1 e1 y2 e2 y3 e3 y4 e4 y5 e5 y6 e6
  have g1 : CG f8En f8Er u y1 := by rw [e1]; exact CG_I hT (by decide) (by decide)
  have g2 : CG f8En f8Er y1 y2 := by rw [e2]; exact CG_I g1.1 (by decide) (by decide)
  have g3 : CG f8En f8Er y2 y3 := by rw [e3]; exact CG_I g2.1 (by decide) (by decide)
  have g4 : CG f8En f8Er y3 y4 := by rw [e4]; exact CG_I g3.1 (by decide) (by decide)
  have g5 : CG f8En f8Er y4 y5 := by rw [e5]; exact CG_I g4.1 (by decide) (by decide)
  have g6 : CG f8En f8Er y5 y6 := by rw [e6]; exact CG_I g5.1 (by decide) (by decide)
  have g := ((((g1.tr g2).tr g3).tr g4).tr g5).tr g6
  have n4 : y6.1 4 = 0 := by rw [e6, e5, e4, e3, e2, e1]; rfl
  have n5 : y6.1 5 = 0 := by rw [e6, e5, e4, e3, e2]; rfl
  have n6 : y6.1 6 = -1 := by rw [e6, e5, e4, e3]; rfl
  have n8 : y6.1 8 = n := by rw [e6, e5]; rfl
  have n9 : y6.1 9 = 0 := by rw [e6]; rfl
  have nn : ∀ k, 10 ≤ k → y6.1 k = u.1 k := fun k hk => by
    rw [e6, e5, e4, e3, e2, e1]
    exact (if_neg (by omega)).trans ((if_neg (by omega)).trans ((if_neg (by omega)).trans ((if_neg (by omega)).trans ((if_neg (by omega)).trans (if_neg (by omega))))))
  have ec : ∀ k, oc y6 k = oc u k := oc_same (by rw [e6, e5, e4, e3, e2, e1]; rfl)
  refine evc_go_z (B := B) hT hD hW h6 300 env 0 0 x 0 y6 s g ⟨n4, n5, n9, by rw [nn 32 (by decide)]; exact h32, by rw [n8, hn], by rw [nn 31 (by decide), nn 30 (by decide)]; exact h31, h29.up hT g (nn 29 (by decide))⟩ (by decide) (by decide) (by decide) (hx.up g) (by rw [ec]; exact hw) (by rw [ec]; exact Or.inl ⟨n6, hv⟩) (by decide) (by omega) (by rw [ec]; exact fit) ?_ (by rw [ec]; exact bad.of g (fun _ _ h => h))
  intro w t s' hev k hS w6 w7 vr t0 t1
  rw [ec] at hev
  obtain ⟨s4, s5, s9, s32, s8, s31, s29⟩ := hS
  refine fo_v_2_evaluated_35 ?_
  unfold pv_2_evaluated_35b
  refine ⟨fun z => by omega, fun _ => ?_⟩
  intro a ea _
  rw [ea]
  refine ⟨fun z => absurd s9 z, fun _ => ⟨fun _ => ?_, fun z => absurd rfl z⟩⟩
  intro b eb _
  rw [eb]
  refine ⟨fun z => absurd s4 z, fun _ => ?_⟩
  intro _ _ d ed _
  rw [ed]
  exact ok _ w s' hev (g.tr k.1) vr s9 s32 s31 s29

