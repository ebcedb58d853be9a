-- deps: 719
/-! the class: evaluation -/
def evCd [DecidableEq Ob] (e : Int) : Int := if e = -1 then 5 else e
def EvOk [DecidableEq Ob] (E : Sp.Env) (B : Int) (Q : Int → iST → Prop) (d : Nat) (env : Ob → Ob) (c h x4 : Int) (o : Ob) (s : Sp.Ek) (v : iST) : Prop := ∀ w y4 s', Sp.ev E d env o s = .ok (oc w (w.2.1 22 h)) s' → EvK c h v w → EvSc B w s' c (h + 1) → w.1 6 = v.1 6 → w.1 7 = v.1 7 → VN w (w.2.1 22 h) → x4 ≤ y4 → y4 + 16 * (s'.1 : Int) ≤ x4 + 16 * (s.1 : Int) + 1 → pv_2_evaluated_35 Q (-1) y4 w
def EvBd [DecidableEq Ob] {α : Type} (B : Int) (Q : Int → iST → Prop) (R : EStateM.Result Int Sp.Ek α) (v : iST) : Prop := ∀ w s' e, R = .error e s' → CG f8En f8Er v w → w.1 9 = evCd e → w.1 9 ≠ 0 → w.1 31 + (s'.1 : Int) = w.1 30 → w.1 29 ≤ B + (s'.2.2 : Int) → (e ≠ 1 → w.1 32 = 0) → (e = 1 → w.1 32 ≠ 0) → Q (-1) w
def EvGc [DecidableEq Ob] (u0 : iST) (E : Sp.Env) (B : Int) (Q : Int → iST → Prop) (d : Nat) : Prop := ∀ (env : Ob → Ob) (c h x x4 : Int) (v : iST) (s : Sp.Ek), CG f8En f8Er u0 v → EvSc B v s c h → c + (d : Int) = 300 → 0 ≤ h → h ≤ 6 * c → VN v x → Ob.wt (Sp.arOf E) (oc v x) → EnC v h env (oc v x) → 0 ≤ x4 → x4 + 16 * (s.1 : Int) + 20 ≤ 900000 → FitE B (Sp.ev E d env (oc v x) s) → EvOk E B Q d env c h x4 (oc v x) s v → EvBd B Q (Sp.ev E d env (oc v x) s) v → pv_2_evaluated_35 Q x x4 v
theorem EnC.up [DecidableEq Ob] {v : iST} {h h' : Int} {env : Ob → Ob} {o : Ob} (hE : EnC v h env o) (hh : h ≤ h') : EnC v h' env o := hE.imp id (fun ⟨q1, q2, q3, q4, q5, q6⟩ => ⟨q1, q2, q3, by omega, q5, q6⟩)
theorem DOc.ev [DecidableEq Ob] {u v : iST} {E : Sp.Env} (h : DOc u E) (hT : CT u) (g : CG f8En f8Er u v) : DOc v E := h.mono hT g (g.2.2.1 0 (by decide)) (fun k hk => g.2.2.2 k (by unfold f8Er; simp only [Bool.or_eq_false_iff, decide_eq_false_iff_not]; omega))
/-- it has stopped -/
theorem ev_stop [DecidableEq Ob] {Q : Int → iST → Prop} {x t : Int} {w : iST} (h9 : w.1 9 ≠ 0) (hq : Q (-1) w) : pv_2_evaluated_35 Q x t w := by
  refine fo_v_2_evaluated_35 ?_
  unfold pv_2_evaluated_35b
  refine ⟨fun _ => hq, fun _ => ?_⟩
  intro a ea _
  rw [ea]
  exact ⟨fun _ => hq, fun z => absurd h9 z⟩
theorem EvBd.of [DecidableEq Ob] {α β : Type} {B : Int} {Q : Int → iST → Prop} {R : EStateM.Result Int Sp.Ek α} {R' : EStateM.Result Int Sp.Ek β} {v y : iST} (h : EvBd B Q R v) (g : CG f8En f8Er v y) (hR : ∀ e s', R' = .error e s' → R = .error e s') : EvBd B Q R' y := fun w s' e e1 g1 a b c d f k => h w s' e (hR e s' e1) (g.tr g1) a b c d f k
/-- the terms of a call are evaluated, one behind the other -/
theorem evc_args [DecidableEq Ob] {u0 : iST} {E : Sp.Env} {B : Int} {Q : Int → iST → Prop} {d : Nat} (hT0 : CT u0) (hD0 : DOc u0 E) (ih : EvGc u0 E B Q d) {env : Ob → Ob} {c b : Int} (c0 : 0 ≤ c) (hd : c + 1 + (d : Int) = 300) : ∀ (l : List Ob) (k t : Int) (y : iST) (s : Sp.Ek), CG f8En f8Er u0 y → EvSc B y s (c + 1) (b + k) → 0 ≤ b → b ≤ 6 * c → 0 ≤ k → k + (l.length : Int) ≤ 6 → y.2.1 16 c ≠ 3 → y.2.1 19 c = 0 → VN y (y.2.1 17 c) → oc y (y.2.1 17 c) = Ob.ofList l → (∀ a, a ∈ l → Ob.wt (Sp.arOf E) a ∧ EnC y b env a) → 0 ≤ t → t + 16 * (s.1 : Int) + 22 + 2 * (l.length : Int) ≤ 900000 → FitE B (Sp.evArgs (Sp.ev E d env) l s) →
    (∀ w t' s', Sp.evArgs (Sp.ev E d env) l s = .ok (lsC w (w.2.1 22) (b + k) l.length) s' → EvK c (b + k) y w → EvSc B w s' (c + 1) (b + k + (l.length : Int)) → (∀ j, 16 ≤ j → j ≤ 21 → j ≠ 17 → w.2.1 j c = y.2.1 j c) → VN w (w.2.1 17 c) → (oc w (w.2.1 17 c)).isPr = false → w.1 6 = y.1 6 → w.1 7 = y.1 7 → (∀ i, b + k ≤ i → i < b + k + (l.length : Int) → VN w (w.2.1 22 i)) → t ≤ t' → t' + 16 * (s'.1 : Int) ≤ t + 16 * (s.1 : Int) + 2 * (l.length : Int) → pv_2_evaluated_35 Q (-1) t' w) →
    EvBd B Q (Sp.evArgs (Sp.ev E d env) l s) y → pv_2_evaluated_35 Q (-1) t y
  | [], k, t, y, s, gy, hS, b0, b1, k0, k1, h16, h19, h17, el, ha, t0, t1, fit, fin, bad => by
    refine fin y t s rfl (EvK.rf gy.1) (by rw [show b + k + (([] : List Ob).length : Int) = b + k by simp]; exact hS) (fun _ _ _ _ => rfl) h17 (by rw [el]; rfl) rfl rfl (fun i i0 i1 => by simp at i1; omega) (Int.le_refl _) (by simp)
  | a :: l, k, t, y, s, gy, hS, b0, b1, k0, k1, h16, h19, h17, el, ha, t0, t1, fit, fin, bad => by
    obtain ⟨s4, s5, s9, s32, s8, s31, s29⟩ := hS
    rw [List.length_cons] at k1 t1
    have eA : Sp.evArgs (Sp.ev E d env) (a :: l) = Sp.bd (Sp.ev E d env a) fun v => Sp.bd (Sp.evArgs (Sp.ev E d env) l) fun vs => fun s => .ok (v :: vs) s := rfl
    rw [eA] at fit bad
    have mon2 : ∀ v : Ob, MonE (Sp.bd (Sp.evArgs (Sp.ev E d env) l) fun vs => fun s => .ok (v :: vs) s) := fun v => MonE.bd (evArgs_mon (fun o => ev_mon d env o) l) (fun vs => fun s => ⟨Nat.le_refl _, Nat.le_refl _⟩)
    refine ev_next gy.1 (by omega) s9 s4 c0 h17 h19 (by rw [el]; rfl) (fun z => absurd z h16) (fun x w hw vx ex v17 e17 => ?_)
    obtain ⟨r, ew⟩ := hw
    have kw : EvK c (b + k) y w := by rw [ew]; exact EvK_A gy.1 (by decide) (fun _ => Int.le_refl _) (fun z => by cases z)
    have wn : w.1 = y.1 := by rw [ew]; rfl
    have wr : ∀ j, j ≠ 17 → w.2.1 j = y.2.1 j := fun j hj => by rw [ew]; exact if_neg hj
    rw [el] at ex e17
    have ex : oc w x = a := ex
    have e17 : oc w (w.2.1 17 c) = Ob.ofList l := e17
    have hSw : EvSc B w s (c + 1) (b + k) := by unfold EvSc; rw [wn]; exact ⟨s4, s5, s9, s32, s8, s31, s29⟩
    obtain ⟨wa, ea⟩ := ha a List.mem_cons_self
    have hDy := hD0.ev hT0 gy
    have enw : ∀ o, EnC y b env o → EnC w (b + k) env o := fun o he => (he.up (by omega)).keep gy.1 hDy kw (by rw [wn]) (by rw [wn])
    refine ih env (c + 1) (b + k) x (t + 1) w s (gy.tr kw.1) hSw hd (by omega) (by omega) vx (by rw [ex]; exact wa) (by rw [ex]; exact enw a ea) (by omega) (by omega) (by rw [ex]; exact fit.bd mon2) ?_ ?_
    · intro z y4 s' hev kz hSz z6 z7 vz t2 t3
      rw [ex] at hev
      have hmon := ev_mon d env a s (E := E)
      rw [hev] at hmon
      have z17 : z.2.1 17 c = w.2.1 17 c := kz.2.1 c 17 (by omega) (by decide) (by decide)
      have eb : Sp.bd (Sp.ev E d env a) (fun v => Sp.bd (Sp.evArgs (Sp.ev E d env) l) fun vs => fun s => .ok (v :: vs) s) s = (Sp.bd (Sp.evArgs (Sp.ev E d env) l) fun vs => fun s => .ok (oc z (z.2.1 22 (b + k)) :: vs) s) s' := bind_ok hev
      rw [eb] at fit bad
      have gz := (gy.tr kw.1).tr kz.1
      have kyz : EvK c (b + k) y z := kw.tr kz (by omega) (Int.le_refl _)
      have hs1 : s'.1 ≤ s.1 := hmon.2
      refine evc_args hT0 hD0 ih c0 hd l (k + 1) y4 z s' gz (by rw [show b + (k + 1) = b + k + 1 by omega]; exact hSz) b0 b1 (by omega) (by omega) (by rw [kz.2.1 c 16 (by omega) (by decide) (by decide), wr 16 (by decide)]; exact h16) (by rw [kz.2.1 c 19 (by omega) (by decide) (by decide), wr 19 (by decide)]; exact h19) (by rw [z17]; exact v17.up kz.1) (by rw [z17, kz.1.oc kw.1.1 v17.1 v17.2]; exact e17) (fun a' ha' => ⟨(ha a' (List.mem_cons_of_mem _ ha')).1, ((ha a' (List.mem_cons_of_mem _ ha')).2.keep gy.1 hDy (c := c) (h := b) ⟨kyz.1, kyz.2.1, fun j hj => kyz.2.2 j (by omega)⟩ (by rw [z6, wn]) (by rw [z7, wn]))⟩) (by omega) (by omega) (fit.bd (fun vs => fun s => ⟨Nat.le_refl _, Nat.le_refl _⟩)) ?_ ?_
      · intro w' t' s'' hev' kw' hSw' hr' v17' np' w6' w7' vv' t2' t3'
        have hlen : ((a :: l).length : Int) = (l.length : Int) + 1 := by rw [List.length_cons]; omega
        have q22 : w'.2.1 22 (b + k) = z.2.1 22 (b + k) := kw'.2.2 _ (by omega)
        refine fin w' t' s'' ?_ (kyz.tr kw' (Int.le_refl _) (by omega)) (by rw [hlen, show b + k + ((l.length : Int) + 1) = b + (k + 1) + (l.length : Int) by omega]; exact hSw') (fun j h1 h2 h3 => by rw [hr' j h1 h2 h3, kz.2.1 c j (by omega) h1 h2, wr j h3]) v17' np' (by rw [w6', z6, wn]) (by rw [w7', z7, wn]) (fun i i0 i1 => ?_) (by omega) (by omega)
        · show (Sp.bd (Sp.ev E d env a) (fun v => Sp.bd (Sp.evArgs (Sp.ev E d env) l) fun vs => fun s => .ok (v :: vs) s)) s = _
          rw [eb, bind_ok hev', List.length_cons, lsC_cons, q22, kw'.1.oc kz.1.1 vz.1 vz.2, show b + (k + 1) = b + k + 1 by omega]
        · by_cases q : i = b + k
          · rw [q, q22]; exact vz.up kw'.1
          · exact vv' i (by omega) (by rw [hlen] at i1; omega)
      · exact bad.of kyz.1 (fun e s'' h => bind_err h)
    · refine bad.of kw.1 (fun e s' h => ?_)
      rw [ex] at h
      exact bind_err h
