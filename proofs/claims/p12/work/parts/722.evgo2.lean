-- deps: 721
/-! the class: evaluation, by depth -/
theorem leaf_const [DecidableEq Ob] {o : Ob} (hc : o.isCall = false) (hv : o.isVar = false) : o.isConst = true := by
  cases o with
  | op a b => exact decide_eq_true (Decidable.not_not.mp (of_decide_eq_false hc))
  | var x =>
    show (Ob.isNat (.var x) || decide (.var x = Ob.nil) || decide (.var x = Ob.t)) = true
    by_cases c0 : .var x = Ob.nil
    · rw [decide_eq_true c0, Bool.or_true]; rfl
    by_cases c1 : .var x = Ob.t
    · rw [decide_eq_true c1, Bool.or_true]
    have hs : Ob.isSym (.var x) = false := by
      cases e : Ob.isSym (.var x) with
      | false => rfl
      | true =>
        have : Ob.isVar (.var x) = true := by
          unfold Ob.isVar
          rw [e, decide_eq_true c0, decide_eq_true c1]; rfl
        rw [hv] at this; cases this
    have : Ob.isNat (.var x) = true := by
      have hs : (x % 2 == 1) = false := hs
      show (x % 2 == 0) = true
      rw [beq_eq_false_iff_ne] at hs
      rw [beq_iff_eq]
      omega
    rw [this]; rfl
theorem call_nc [DecidableEq Ob] {o : Ob} (h : o.isCall = true) : o.isConst = false := by
  cases o with
  | var x => cases h
  | op a b => exact decide_eq_false (of_decide_eq_true h)
theorem var_nc [DecidableEq Ob] {o : Ob} (h : o.isVar = true) : o.isConst = false ∧ o.isCall = false := by
  cases o with
  | op a b => cases h
  | var x =>
    unfold Ob.isVar at h
    rw [Bool.and_eq_true, Bool.and_eq_true, decide_eq_true_eq, decide_eq_true_eq] at h
    refine ⟨?_, rfl⟩
    show (Ob.isNat (.var x) || decide (.var x = Ob.nil) || decide (.var x = Ob.t)) = false
    rw [decide_eq_false h.1.2, decide_eq_false h.2]
    have hs : (x % 2 == 1) = true := h.1.1
    have : Ob.isNat (.var x) = false := by
      show (x % 2 == 0) = false
      rw [beq_iff_eq] at hs
      rw [beq_eq_false_iff_ne]
      omega
    rw [this]; rfl
/-- a value is held -/
theorem pc_hold [DecidableEq Ob] {r h : Int} {Q : iST → Prop} {v : iST} (hT : CT v) (h5 : v.1 5 = h) (h0 : 0 ≤ h) (h1 : h < 1803) (hq : ∀ w, EvK (v.1 4) h v w → w.1 5 = h + 1 → w.2.1 22 h = r → (∀ k, k ≠ 5 → w.1 k = v.1 k) → w.2.2 = v.2.2 → Q w) : pv_2_hold r Q v := by
  unfold pv_2_hold
  intro a ea _
  rw [ea, h5]
  refine ⟨fun z => by omega, fun _ => ?_⟩
  intro b eb _
  rw [eb]
  intro _ _ y1 e1 d ed _ _ y2 e2
  have k1 : EvK (v.1 4) h v y1 := by rw [e1]; exact EvK_A hT (by decide) (fun z => absurd z (by decide)) (fun _ => Int.le_refl _)
  have k2 : EvK (v.1 4) h y1 y2 := by rw [e2]; exact EvK_I k1.1.1 (by decide)
  have ed' : d = h := by rw [ed, e1]; exact h5
  rw [ed'] at e2
  exact hq y2 (k1.tr k2 (Int.le_refl _) (Int.le_refl _)) (by rw [e2]; rfl) (by rw [e2, e1]; exact if_pos rfl) (fun k hk => by rw [e2, e1]; exact if_neg hk) (by rw [e2, e1]; rfl)
theorem arOf_out [DecidableEq Ob] {u : iST} {E : Sp.Env} {f : Int} (hT : CT u) (hf : VN u f) (h : ¬ (3 ≤ f ∧ f ≤ 16)) : Sp.arOf E (oc u f) = match E.dfn (oc u f) with | some D => (D.params.length : Int) | none => -1 := by
  have h0 := hf.1
  have nb : Ob.isBase (oc u f) = false := by
    by_cases q : f ≤ 16
    · have hk : f = 0 ∨ f = 1 ∨ f = 2 := by omega
      rcases hk with q | q | q
      · rw [(katC hT 0 (o := Ob.nil) (by decide) (by decide) rfl hf.1 hf.2).mp q]
        unfold Ob.isBase
        simp only [Bool.or_eq_false_iff, decide_eq_false_iff_not]
        refine ⟨⟨⟨⟨⟨⟨⟨⟨⟨⟨⟨⟨⟨?_, ?_⟩, ?_⟩, ?_⟩, ?_⟩, ?_⟩, ?_⟩, ?_⟩, ?_⟩, ?_⟩, ?_⟩, ?_⟩, ?_⟩, ?_⟩ <;> exact Ob.sym_ne (by decide)
      · rw [(katC hT 1 (o := Ob.t) (by decide) (by decide) rfl hf.1 hf.2).mp q]
        unfold Ob.isBase
        simp only [Bool.or_eq_false_iff, decide_eq_false_iff_not]
        refine ⟨⟨⟨⟨⟨⟨⟨⟨⟨⟨⟨⟨⟨?_, ?_⟩, ?_⟩, ?_⟩, ?_⟩, ?_⟩, ?_⟩, ?_⟩, ?_⟩, ?_⟩, ?_⟩, ?_⟩, ?_⟩, ?_⟩ <;> exact Ob.sym_ne (by decide)
      · rw [(katC hT 2 (o := Ob.quote) (by decide) (by decide) rfl hf.1 hf.2).mp q]
        unfold Ob.isBase
        simp only [Bool.or_eq_false_iff, decide_eq_false_iff_not]
        refine ⟨⟨⟨⟨⟨⟨⟨⟨⟨⟨⟨⟨⟨?_, ?_⟩, ?_⟩, ?_⟩, ?_⟩, ?_⟩, ?_⟩, ?_⟩, ?_⟩, ?_⟩, ?_⟩, ?_⟩, ?_⟩, ?_⟩ <;> exact Ob.sym_ne (by decide)
    · refine bf_of (fun z => ?_)
      have := (oc_res hT hf).mp (by unfold Ob.reserved; rw [z, Bool.or_true])
      omega
  have nif : ¬ oc u f = Ob.ifS := fun z => by rw [z] at nb; unfold Ob.isBase at nb; rw [decide_eq_true rfl] at nb; cases nb
  have n2 : ¬ (oc u f = Ob.equal ∨ oc u f = Ob.cons ∨ oc u f = Ob.implies ∨ oc u f = Ob.plus ∨ oc u f = Ob.minus ∨ oc u f = Ob.less) := by
    intro z
    have : Ob.isBase (oc u f) = true := by
      unfold Ob.isBase
      simp only [Bool.or_eq_true, decide_eq_true_eq]
      rcases z with z | z | z | z | z | z <;> rw [z] <;> simp
    rw [this] at nb; cases nb
  unfold Sp.arOf
  rw [if_neg nif, if_neg n2, if_neg (by rw [nb]; decide)]
  cases E.dfn (oc u f) <;> rfl
theorem evc_step [DecidableEq Ob] {u0 : iST} {E : Sp.Env} {B : Int} {Q : Int → iST → Prop} (hT0 : CT u0) (hD0 : DOc u0 E) (hW : Sp.DWf E) (h6 : ∀ f, Sp.arOf E f ≤ 6) (d : Nat) (hprev : ∀ d', d = d' + 1 → EvGc u0 E B Q d') : EvGc u0 E B Q d := by
  intro env c h x x4 v s gv hS hd h0 h1 vx wx en t0 t1 fit ok bad
  have hS' := hS
  obtain ⟨s4, s5, s9, s32, s8, s31, s29⟩ := hS'
  have hT := gv.1
  have hDv := hD0.ev hT0 gv
  have c0 : 0 ≤ c := by omega
  refine fo_v_2_evaluated_35 ?_
  unfold pv_2_evaluated_35b
  refine ⟨fun z => by omega, fun _ => ?_⟩
  intro a ea _
  rw [ea]
  refine ⟨fun z => absurd s9 z, fun _ => ⟨fun z => by have := vx.1; omega, fun _ => ?_⟩⟩
  -- a leaf
  have leaf : ∀ r, VN v r → Sp.ev E d env (oc v x) s = .ok (oc v r) s → pv_2_evaluated_101 (fun x3 x4 u => pv_2_evaluated_35 Q x3 x4 u) Q x4 r v := by
    intro r vr er
    unfold pv_2_evaluated_101
    refine pc_hold hT s5 h0 (by omega) (fun w kw w5 w22 wn wc => ?_)
    rw [s4] at kw
    unfold pv_2_evaluated_104
    intro _
    have e : oc w (w.2.1 22 h) = oc v r := by rw [w22]; exact oc_same wc r
    refine ok w (x4 + 1) s (by rw [e]; exact er) kw ⟨by rw [wn 4 (by decide)]; exact s4, w5, by rw [wn 9 (by decide)]; exact s9, by rw [wn 32 (by decide)]; exact s32, by rw [wn 8 (by decide)]; exact s8, by rw [wn 31 (by decide), wn 30 (by decide)]; exact s31, by rw [wn 29 (by decide)]; exact s29⟩ (wn 6 (by decide)) (wn 7 (by decide)) (by rw [w22]; exact vr.up kw.1) (by omega) (by omega)
  refine pc_isCall hT vx (fun r1 hr1 => ⟨fun z1 => ?_, fun z1 => ?_⟩)
  · have nc := hr1.f z1
    refine pc_isVariable hT vx (fun r2 hr2 => ⟨fun z2 => ?_, fun z2 => ?_⟩)
    · refine pc_valueOf hT vx (fun r vr er => leaf r vr ?_)
      rw [er]
      exact ev_const (leaf_const nc (hr2.f z2)) d
    · have iv := hr2.t z2
      refine pc_parameterValue hT hDv vx iv en s5 (fun r vr er => leaf r vr ?_)
      rw [er]
      exact ev_var (var_nc iv).1 (var_nc iv).2 d
  have ic := hr1.t z1
  have ncst := call_nc ic
  obtain ⟨f, l, eo, hfq, hfs, har, hwl⟩ := Ob.wt_call wx ic
  have hl6 : (l.length : Int) ≤ 6 := by have := h6 f; omega
  have psub : ∀ a, a ∈ l → ∀ y, y ∈ Ob.parts a → y ∈ Ob.parts (oc v x) := fun a ha y hy => by rw [eo]; exact parts_call hfq ha hy
  refine pc_begin hT vx hS ?_ ?_ ?_ ?_
  · intro hc w kw w9 wn
    unfold pv_2_evaluated_104
    intro _
    have hd0 : d = 0 := by omega
    subst hd0
    refine ev_stop (by rw [w9]; decide) (bad w s 2 (ev_deep ncst ic) kw.1 w9 (by rw [w9]; decide) (by rw [wn 31 (by decide), wn 30 (by decide)]; exact s31) (by rw [wn 29 (by decide)]; exact s29) (fun _ => by rw [wn 32 (by decide)]; exact s32) (fun z => by cases z))
  · intro hc hs w kw w9 wn
    unfold pv_2_evaluated_104
    intro _
    obtain ⟨d', hd'⟩ : ∃ d', d = d' + 1 := ⟨d - 1, by omega⟩
    subst hd'
    refine ev_stop (by rw [w9]; decide) (bad w s (-1) (ev_own ncst ic hs) kw.1 w9 (by rw [w9]; decide) (by rw [wn 31 (by decide), wn 30 (by decide)]; exact s31) (by rw [wn 29 (by decide)]; exact s29) (fun _ => by rw [wn 32 (by decide)]; exact s32) (fun z => by cases z))
  · intro hc hs hs1 w kw w9 w32 w31 w30 w29
    unfold pv_2_evaluated_104
    intro _
    obtain ⟨d', hd'⟩ : ∃ d', d = d' + 1 := ⟨d - 1, by omega⟩
    subst hd'
    exact ev_stop (by rw [w9]; decide) (bad w s 1 (ev_fuel ncst ic hs hs1) kw.1 w9 (by rw [w9]; decide) (by rw [w31, w30]; exact s31) (by rw [w29]; exact s29) (fun z => absurd rfl z) (fun _ => w32))
  intro hc hs hs1 y ky hSy y6 y7 v16 e16 v17 e17 y18 y19 y20 y21
  unfold pv_2_evaluated_104
  intro _
  obtain ⟨d', hd'⟩ : ∃ d', d = d' + 1 := ⟨d - 1, by omega⟩
  have ih := hprev d' hd'
  subst hd'
  have gy := gv.tr ky.1
  have hDy := hD0.ev hT0 gy
  rw [eo] at e16 e17
  have e16 : oc y (y.2.1 16 c) = f := e16
  have e17 : oc y (y.2.1 17 c) = Ob.ofList l := e17
  have eny : ∀ o, (∀ z, z ∈ Ob.parts o → z ∈ Ob.parts (oc v x)) → EnC y h env o := fun o ho => (en.sub ho).keep hT hDv ky y6 y7
  have hdd : c + 1 + (d' : Int) = 300 := by omega
  have hfy : y.2.1 16 c = 3 ↔ f = Ob.ifS := by rw [← e16]; exact katC gy.1 3 (by decide) (by decide) rfl v16.1 v16.2
  obtain ⟨q4, q5, q9, q32, q8, q31, q29⟩ := hSy
  have hSy : EvSc B y (s.1 - 1, s.2.1 - 1, s.2.2) (c + 1) h := ⟨q4, q5, q9, q32, q8, q31, q29⟩
  have hsn : (((s.1 - 1 : Nat) : Int)) = (s.1 : Int) - 1 := by omega
  by_cases hif : f = Ob.ifS
  · -- IF
    have hl3 : l.length = 3 := by rw [hif, arOf_ifS] at har; omega
    obtain ⟨p, q, r, el⟩ : ∃ p q r, l = [p, q, r] := by
      match l, hl3 with
      | [p, q, r], _ => exact ⟨p, q, r, rfl⟩
    have hev : Sp.ev E (d' + 1) env (oc v x) s = Sp.bd (Sp.ev E d' env p) (fun a => Sp.ev E d' env (if a = Ob.nil then r else q)) (s.1 - 1, s.2.1 - 1, s.2.2) := by
      rw [ev_if ncst ic hs hs1 (by rw [eo]; exact hif)]
      have i1 : (oc v x).item 1 = p := by rw [eo, el]; rfl
      have i2 : (oc v x).item 2 = q := by rw [eo, el]; rfl
      have i3 : (oc v x).item 3 = r := by rw [eo, el]; rfl
      rw [i1]
      congr 1
      funext a
      by_cases ha : a = Ob.nil
      · rw [if_pos ha, if_pos ha, i3]
      · rw [if_neg ha, if_neg ha, i2]
    rw [hev] at fit bad
    have mp : p ∈ l := by rw [el]; exact List.mem_cons_self
    have mq : q ∈ l := by rw [el]; exact List.mem_cons_of_mem _ List.mem_cons_self
    have mr : r ∈ l := by rw [el]; exact List.mem_cons_of_mem _ (List.mem_cons_of_mem _ List.mem_cons_self)
    have fy3 := hfy.mpr hif
    refine ev_next gy.1 (by omega) q9 q4 c0 v17 y19 (by rw [e17, el]; rfl) (fun _ => by rw [q5, y18]; exact Int.le_refl _) (fun x1 w1 hw1 vx1 ex1 v171 e171 => ?_)
    obtain ⟨rr, ew1⟩ := hw1
    rw [e17, el] at ex1 e171
    have ex1 : oc w1 x1 = p := ex1
    have e171 : oc w1 (w1.2.1 17 c) = .pr q (.pr r Ob.nil) := e171
    have k1 : EvK c h y w1 := by rw [ew1]; exact EvK_A gy.1 (by decide) (fun _ => Int.le_refl _) (fun z => by cases z)
    have n1 : w1.1 = y.1 := by rw [ew1]; rfl
    have r1 : ∀ j, j ≠ 17 → w1.2.1 j = y.2.1 j := fun j hj => by rw [ew1]; exact if_neg hj
    have g1 := gy.tr k1.1
    have hS1 : EvSc B w1 (s.1 - 1, s.2.1 - 1, s.2.2) (c + 1) h := by unfold EvSc; rw [n1]; exact hSy
    have en1 : ∀ o, (∀ z, z ∈ Ob.parts o → z ∈ Ob.parts (oc v x)) → EnC w1 h env o := fun o ho => (eny o ho).keep gy.1 hDy k1 (by rw [n1]) (by rw [n1])
    refine ih env (c + 1) h x1 (x4 + 1 + 1) w1 (s.1 - 1, s.2.1 - 1, s.2.2) g1 hS1 hdd h0 (by omega) vx1 (by rw [ex1]; exact hwl p mp) (by rw [ex1]; exact en1 p (psub p mp)) (by omega) (by show x4 + 1 + 1 + 16 * (((s.1 - 1 : Nat) : Int)) + 20 ≤ 900000; omega) (by rw [ex1]; exact fit.bd (fun a => ev_mon d' env _)) ?_ (by rw [ex1]; exact bad.of (ky.1.tr k1.1) (fun e s' hh => bind_err hh))
    intro w2 y4 s2 hev1 k2 hS2 w26 w27 vv2 t2 t3
    rw [ex1] at hev1
    have hm1 := (ev_mon d' env p (s.1 - 1, s.2.1 - 1, s.2.2) (E := E)).2
    rw [hev1] at hm1
    have hm1 : s2.1 ≤ s.1 - 1 := hm1
    have t3 : y4 + 16 * (s2.1 : Int) ≤ x4 + 1 + 1 + 16 * (((s.1 - 1 : Nat) : Int)) + 1 := t3
    have eb := bind_ok (f := fun a => Sp.ev E d' env (if a = Ob.nil then r else q)) hev1
    rw [eb] at fit bad hev
    obtain ⟨p4, p5, p9, p32, p8, p31, p29⟩ := hS2
    have row2 : ∀ j, 16 ≤ j → j ≤ 21 → w2.2.1 j c = w1.2.1 j c := fun j h1 h2 => k2.2.1 c j (by omega) h1 h2
    have w217 : w2.2.1 17 c = w1.2.1 17 c := row2 17 (by decide) (by decide)
    refine evc_if (b := h) (p := q) (q := r) k2.1.1 c0 p9 p4 (by rw [row2 16 (by decide) (by decide), r1 16 (by decide)]; exact fy3) (by rw [row2 18 (by decide) (by decide), r1 18 (by decide)]; exact y18) (by rw [row2 19 (by decide) (by decide), r1 19 (by decide)]; exact y19) p5 (by rw [w217]; exact v171.up k2.1) (by rw [w217, k2.1.oc k1.1.1 v171.1 v171.2]; exact e171) vv2 (by omega) (fun x2 z kz z5 z19 zr zn zc vx2 ex2 => ?_)
    have mo : (if oc w2 (w2.2.1 22 h) = Ob.nil then r else q) ∈ l := by split; exact mr; exact mq
    have g2 := g1.tr k2.1
    have gz := g2.tr kz.1
    have kvz : EvK c h v z := ((ky.tr k1 (Int.le_refl _) (Int.le_refl _)).tr ⟨k2.1, fun j k hj h1 h2 => k2.2.1 j k (by omega) h1 h2, k2.2.2⟩ (Int.le_refl _) (Int.le_refl _)).tr kz (Int.le_refl _) (Int.le_refl _)
    have hDw1 := hD0.ev hT0 g1
    have hDw2 := hD0.ev hT0 g2
    have enz : EnC z h env (oc z x2) := by
      rw [ex2]
      exact ((en1 _ (psub _ mo)).keep k1.1.1 hDw1 k2 w26 w27).keep k2.1.1 hDw2 kz (zn 6 (by decide)) (zn 7 (by decide))
    refine ih env (c + 1) h x2 (y4 + 1) z s2 gz ⟨by rw [zn 4 (by decide)]; exact p4, z5, by rw [zn 9 (by decide)]; exact p9, by rw [zn 32 (by decide)]; exact p32, by rw [zn 8 (by decide)]; exact p8, by rw [zn 31 (by decide), zn 30 (by decide)]; exact p31, by rw [zn 29 (by decide)]; exact p29⟩ hdd h0 (by omega) vx2 (by rw [ex2]; exact hwl _ mo) enz (by omega) (by omega) (by rw [ex2]; exact fit) ?_ (by rw [ex2]; exact bad.of kvz.1 (fun e s' hh => hh) |> fun hb => fun w s' e h1 g1' => hb w s' e h1 g1')
    intro w3 y5 s3 hev2 k3 hS3 w36 w37 vv3 t4 t5
    rw [ex2] at hev2
    obtain ⟨m4, m5, m9, m32, m8, m31, m29⟩ := hS3
    have row3 : ∀ j, 16 ≤ j → j ≤ 21 → w3.2.1 j c = z.2.1 j c := fun j h1 h2 => k3.2.1 c j (by omega) h1 h2
    have zrow : ∀ j, 16 ≤ j → j ≤ 21 → j ≠ 19 → j ≠ 17 → z.2.1 j c = y.2.1 j c := fun j h1 h2 h3 h4 => by rw [zr j h1 (by omega) h3, row2 j h1 h2, r1 j h4]
    have w318 : w3.2.1 18 c = h := by rw [row3 18 (by decide) (by decide), zrow 18 (by decide) (by decide) (by decide) (by decide)]; exact y18
    have z17 : z.2.1 17 c = w1.2.1 17 c := by rw [zr 17 (by decide) (by decide) (by decide)]; exact w217
    refine ev_body (h := h) k3.1.1 (by omega) m9 m4 c0 (by rw [row3 17 (by decide) (by decide), z17]; exact ((v171.up k2.1).up kz.1).up k3.1) (by rw [row3 19 (by decide) (by decide)]; exact z19) m5 h0 (fun w4 k4 w44 w45 w422 w46 w47 w4n w4c => ?_)
    rw [w318] at k4 w45 w422
    have kall : EvK c h v w4 := (kvz.tr ⟨k3.1, fun j k hj h1 h2 => k3.2.1 j k (by omega) h1 h2, k3.2.2⟩ (Int.le_refl _) (Int.le_refl _)).tr k4 (Int.le_refl _) (Int.le_refl _)
    have ov : oc w4 (w4.2.1 22 h) = oc w3 (w3.2.1 22 h) := by rw [w422]; exact oc_same w4c _
    have n4 : ∀ k, 8 ≤ k → w4.1 k = w3.1 k := fun k hk => w4n k (by omega) (by omega) (by omega) (by omega)
    refine ok w4 (y5 + 1) s3 (by rw [ov, hev]; exact hev2) kall ⟨w44, w45, by rw [n4 9 (by decide)]; exact m9, by rw [n4 32 (by decide)]; exact m32, by rw [n4 8 (by decide)]; exact m8, by rw [n4 31 (by decide), n4 30 (by decide)]; exact m31, by rw [n4 29 (by decide)]; exact m29⟩ (by rw [w46, row3 20 (by decide) (by decide), zrow 20 (by decide) (by decide) (by decide) (by decide)]; exact y20) (by rw [w47, row3 21 (by decide) (by decide), zrow 21 (by decide) (by decide) (by decide) (by decide)]; exact y21) (by rw [w422]; exact vv3.up k4.1) (by omega) (by omega)
  · -- a call of another function
    have hev : Sp.ev E (d' + 1) env (oc v x) s = Sp.bd (Sp.evArgs (Sp.ev E d' env) l) (Sp.evCall E d' f) (s.1 - 1, s.2.1 - 1, s.2.2) := by
      rw [ev_call ncst ic hs hs1 (by rw [eo]; exact hif)]
      rw [show Ob.toList (Ob.rgt (oc v x)) = l by rw [eo]; exact Ob.toList_ofList l, show Ob.lft (oc v x) = f by rw [eo]; rfl]
    rw [hev] at fit bad
    have monC : ∀ vs : List Ob, MonE (Sp.evCall E d' f vs) := fun vs => by
      unfold Sp.evCall
      split
      · exact ev_mon d' _ _
      · split
        · exact fun s => ⟨Nat.le_succ _, Nat.le_refl _⟩
        · exact fun s => ⟨Nat.le_refl _, Nat.le_refl _⟩
    refine evc_args hT0 hD0 ih (b := h) c0 hdd l 0 (x4 + 1) y (s.1 - 1, s.2.1 - 1, s.2.2) gy (by rw [show h + 0 = h by omega]; exact hSy) h0 h1 (Int.le_refl _) (by omega) (fun z => hif (hfy.mp z)) y19 v17 e17 (fun a' ha' => ⟨hwl a' ha', eny a' (psub a' ha')⟩) (by omega) (by show x4 + 1 + 16 * (((s.1 - 1 : Nat) : Int)) + 22 + 2 * (l.length : Int) ≤ 900000; omega) (fit.bd monC) ?_ (bad.of ky.1 (fun e s' hh => bind_err hh))
    intro w t' s2 hev1 kw hSw hrow v17w npw w6 w7 vvw t2 t3
    rw [show h + 0 = h by omega] at hev1 kw hSw vvw
    have hm1 := (evArgs_mon (fun o => ev_mon d' env o) l (s.1 - 1, s.2.1 - 1, s.2.2) (r := Sp.ev E d' env)).2
    rw [hev1] at hm1
    have hm1 : s2.1 ≤ s.1 - 1 := hm1
    have t3 : t' + 16 * (s2.1 : Int) ≤ x4 + 1 + 16 * (((s.1 - 1 : Nat) : Int)) + 2 * (l.length : Int) := t3
    have eb := bind_ok (f := Sp.evCall E d' f) hev1
    rw [eb] at fit bad hev
    have hSw' := hSw
    obtain ⟨p4, p5, p9, p32, p8, p31, p29⟩ := hSw'
    have gw := gy.tr kw.1
    have w16 : w.2.1 16 c = y.2.1 16 c := hrow 16 (by decide) (by decide) (by decide)
    have v16w : VN w (w.2.1 16 c) := by rw [w16]; exact v16.up kw.1
    have e16w : oc w (w.2.1 16 c) = f := by rw [w16, kw.1.oc gy.1 v16.1 v16.2]; exact e16
    have w18 : w.2.1 18 c = h := by rw [hrow 18 (by decide) (by decide) (by decide)]; exact y18
    have kvw : EvK c h v w := ky.tr kw (Int.le_refl _) (Int.le_refl _)
    have hDw := hD0.ev hT0 gw
    by_cases hb16 : w.2.1 16 c ≤ 16
    · -- BASE
      have h4 : 4 ≤ w.2.1 16 c := by
        have hpos := v16w.1
        have n01 : ¬ w.2.1 16 c < 2 := fun z => by
          have ho := arOf_out (E := E) gw.1 v16w (by omega)
          rw [dfn_base gw.1 hDw v16w hb16, e16w] at ho
          have ho : Sp.arOf E f = -1 := ho
          omega
        have n2 : w.2.1 16 c ≠ 2 := fun z => hfq (by rw [← e16w]; exact (katC gw.1 2 (o := Ob.quote) (by decide) (by decide) rfl v16w.1 v16w.2).mp z)
        have n3 : w.2.1 16 c ≠ 3 := fun z => hif (by rw [← e16w]; exact (katC gw.1 3 (o := Ob.ifS) (by decide) (by decide) rfl v16w.1 v16w.2).mp z)
        omega
      have hnd : E.dfn f = none := by rw [← e16w]; exact dfn_base gw.1 hDw v16w hb16
      have ecall : ∀ vs, Sp.evCall E d' f vs = (match Ob.base f (vs.getD 0 Ob.nil) (vs.getD 1 Ob.nil) with | some v => fun s => .ok v (s.1, s.2.1, s.2.2 + 1) | none => fun s => .error 3 s) := fun vs => by unfold Sp.evCall; rw [hnd]; rfl
      rw [ecall] at fit bad hev
      have hroom : B + (s2.2.2 : Int) + 1 ≤ 160000 ∨ Ob.base f ((lsC w (w.2.1 22) h l.length).getD 0 Ob.nil) ((lsC w (w.2.1 22) h l.length).getD 1 Ob.nil) = none := by
        cases e9 : Ob.base f ((lsC w (w.2.1 22) h l.length).getD 0 Ob.nil) ((lsC w (w.2.1 22) h l.length).getD 1 Ob.nil) with
        | none => exact Or.inr rfl
        | some vv =>
          rw [e9] at fit
          have fit : B + ((s2.2.2 + 1 : Nat) : Int) ≤ 160000 := fit
          exact Or.inl (by omega)
      refine evc_base hT0 hD0 (B := B) (n := l.length) (b := h) c0 gw hSw v16w ⟨h4, hb16⟩ w18 (by rw [hrow 19 (by decide) (by decide) (by decide)]; exact y19) v17w npw (by rw [e16w]; exact har) vvw (by omega) (fun hne => hroom.resolve_right (by rw [e16w] at hne; exact hne)) ?_ ?_
      · intro z vv hb kz hSz z6 z7 vz ez
        rw [e16w] at hb
        rw [hb] at hev
        exact ok z (t' + 1) (s2.1, s2.2.1, s2.2.2 + 1) (by rw [ez, hev]) (kvw.tr kz (Int.le_refl _) (Int.le_refl _)) hSz (by rw [z6, hrow 20 (by decide) (by decide) (by decide)]; exact y20) (by rw [z7, hrow 21 (by decide) (by decide) (by decide)]; exact y21) vz (by omega) (by show t' + 1 + 16 * (s2.1 : Int) ≤ _; omega)
      · intro hb z gz z9 z31 z30 z32 z29
        rw [e16w] at hb
        rw [hb] at bad
        exact bad z s2 3 rfl (kvw.1.tr gz) (by rw [z9]; rfl) (by rw [z9]; decide) (by rw [z31, z30]; exact p31) (Int.le_trans z29 p29) (fun _ => z32) (fun z => by cases z)
    · -- a function that is defined
      have ho := arOf_out (E := E) gw.1 v16w (by omega)
      rw [e16w, har] at ho
      obtain ⟨D, hD⟩ : ∃ D, E.dfn f = some D := by
        cases e : E.dfn f with
        | none =>
          rw [e] at ho
          have ho : (l.length : Int) = -1 := ho
          omega
        | some D => exact ⟨D, rfl⟩
      rw [hD] at ho
      have hpl : (l.length : Int) = (D.params.length : Int) := ho
      have ecall : ∀ vs, Sp.evCall E d' f vs = Sp.ev E d' (fun x => (Ob.lk (D.params.zip vs) x).getD Ob.nil) D.body := fun vs => by unfold Sp.evCall; rw [hD]
      rw [ecall] at fit bad hev
      obtain ⟨hDm, _⟩ := dfn_mem hD
      obtain ⟨bw, bv⟩ := hW D hDm
      refine evc_fun hT0 hD0 c0 gw p9 p4 v16w (by omega) (by rw [hrow 19 (by decide) (by decide) (by decide)]; exact y19) v17w npw (by rw [e16w]; exact hD) (by omega) (fun i z i0 i1 ei kz zr z19 z22 z6 z7 zn zc => ?_)
      rw [p5] at kz
      obtain ⟨_, _, ⟨vp, lp, lp0, _⟩, vb, _⟩ := hDw.2.2 i i0 i1
      have eb1 : oc w (w.2.1 3 i) = D.body := by rw [← ei]; rfl
      have ep1 : Ob.toList (oc w (w.2.1 1 i)) = D.params := by rw [← ei]; rfl
      have hlp : (oc w (w.2.1 1 i)).len ≠ -1 := by omega
      have hit : itN (oc w (w.2.1 1 i)) = (l.length : Int) := by rw [itN_len hlp, Ob.len_toList hlp, ep1]; exact hpl.symm
      have ec : ∀ k, oc z k = oc w k := oc_same zc
      have r1 : z.2.1 1 = w.2.1 1 := kz.1.2.2.2 1 (by decide)
      have gz := gw.tr kz.1
      have enz : EnC z (h + (l.length : Int)) (fun x => (Ob.lk (D.params.zip (lsC w (w.2.1 22) h l.length)) x).getD Ob.nil) D.body := by
        refine Or.inr ⟨by omega, by rw [z6, zn 0 (by decide) (by decide)]; exact i1, by omega, ?_, fun k k0 k1 => ?_, ?_⟩
        · rw [z6, z7, r1, ec, hit, w18]; exact Int.le_refl _
        · rw [z7, w18] at k0 k1
          rw [z6, r1, ec, hit] at k1
          rw [z22]
          exact (vvw k k0 k1).up kz.1
        · rw [z6, z7, r1, ec, hit, w18, ep1, Int.toNat_natCast, z22]
          have hl : lsC z (w.2.1 22) h l.length = lsC w (w.2.1 22) h l.length := lsC_congr (fun i _ => ec _)
          rw [hl]
      have kvz : EvK c h v z := kvw.tr kz (Int.le_refl _) (by omega)
      have ezb : oc z (w.2.1 3 i) = D.body := by rw [ec]; exact eb1
      refine ih _ (c + 1) (h + (l.length : Int)) (w.2.1 3 i) (t' + 1) z s2 gz ⟨by rw [zn 4 (by decide) (by decide)]; exact p4, by rw [zn 5 (by decide) (by decide)]; exact p5, by rw [zn 9 (by decide) (by decide)]; exact p9, by rw [zn 32 (by decide) (by decide)]; exact p32, by rw [zn 8 (by decide) (by decide)]; exact p8, by rw [zn 31 (by decide) (by decide), zn 30 (by decide) (by decide)]; exact p31, by rw [zn 29 (by decide) (by decide)]; exact p29⟩ hdd (by omega) (by omega) (vb.up kz.1) (by rw [ezb]; exact bw) (by rw [ezb]; exact enz) (by omega) (by omega) (by rw [ezb]; exact fit) ?_ (by rw [ezb]; exact bad.of kvz.1 (fun e s' hh => hh))
      intro w3 y5 s3 hev2 k3 hS3 w36 w37 vv3 t4 t5
      rw [ezb] at hev2
      obtain ⟨m4, m5, m9, m32, m8, m31, m29⟩ := hS3
      have row3 : ∀ j, 16 ≤ j → j ≤ 21 → w3.2.1 j c = z.2.1 j c := fun j h1 h2 => k3.2.1 c j (by omega) h1 h2
      have zrow : ∀ j, 16 ≤ j → j ≤ 21 → j ≠ 19 → j ≠ 17 → z.2.1 j c = y.2.1 j c := fun j h1 h2 h3 h4 => by rw [zr j h1 h2 h3, hrow j h1 h2 h4]
      have w318 : w3.2.1 18 c = h := by rw [row3 18 (by decide) (by decide), zrow 18 (by decide) (by decide) (by decide) (by decide)]; exact y18
      refine ev_body (h := h + (l.length : Int)) k3.1.1 (by omega) m9 m4 c0 (by rw [row3 17 (by decide) (by decide), zr 17 (by decide) (by decide) (by decide)]; exact (v17w.up kz.1).up k3.1) (by rw [row3 19 (by decide) (by decide)]; exact z19) m5 (by omega) (fun w4 k4 w44 w45 w422 w46 w47 w4n w4c => ?_)
      rw [w318] at k4 w45 w422
      have kall : EvK c h v w4 := (kvz.tr ⟨k3.1, fun j k hj h1 h2 => k3.2.1 j k (by omega) h1 h2, fun j hj => k3.2.2 j (by omega)⟩ (Int.le_refl _) (Int.le_refl _)).tr k4 (Int.le_refl _) (Int.le_refl _)
      have ov : oc w4 (w4.2.1 22 h) = oc w3 (w3.2.1 22 (h + (l.length : Int))) := by rw [w422]; exact oc_same w4c _
      have n4 : ∀ k, 8 ≤ k → w4.1 k = w3.1 k := fun k hk => w4n k (by omega) (by omega) (by omega) (by omega)
      refine ok w4 (y5 + 1) s3 (by rw [ov, hev]; exact hev2) kall ⟨w44, w45, by rw [n4 9 (by decide)]; exact m9, by rw [n4 32 (by decide)]; exact m32, by rw [n4 8 (by decide)]; exact m8, by rw [n4 31 (by decide), n4 30 (by decide)]; exact m31, by rw [n4 29 (by decide)]; exact m29⟩ (by rw [w46, row3 20 (by decide) (by decide), zrow 20 (by decide) (by decide) (by decide) (by decide)]; exact y20) (by rw [w47, row3 21 (by decide) (by decide), zrow 21 (by decide) (by decide) (by decide) (by decide)]; exact y21) (by rw [w422]; exact vv3.up k4.1) (by omega) (by omega)
theorem evc_go [DecidableEq Ob] {u0 : iST} {E : Sp.Env} {B : Int} {Q : Int → iST → Prop} (hT0 : CT u0) (hD0 : DOc u0 E) (hW : Sp.DWf E) (h6 : ∀ f, Sp.arOf E f ≤ 6) : ∀ d : Nat, EvGc u0 E B Q d
  | 0 => evc_step hT0 hD0 hW h6 0 (fun d' h => by omega)
  | d + 1 => evc_step hT0 hD0 hW h6 (d + 1) (fun d' h => by rw [show d' = d by omega]; exact evc_go hT0 hD0 hW h6 d)
