-- deps: 494
theorem rg_nil [DecidableEq Ob] (E : Sp.Env) (r n : Nat) (pre : List Ob) (ch : Bool) : Sp.roundGo E r n pre [] ch = if !ch then Sp.ret (some (.inr (.inl (pre, r + 1)))) else if 400 < Sp.szL pre then Sp.fail else Sp.ret (some (.inr (.inr (pre, r + 1)))) := by
  cases n <;> rfl
theorem RO.env [DecidableEq Ob] {id : Int} {u v : iST} {E : Sp.Env} (h : RO id u v) (hT : TI u) (hE : EnvS u E) : EnvS v E := hE.monoZ hT h.1
theorem rnd_go [DecidableEq Ob] {id : Int} {Q : iST → Prop} {E : Sp.Env} {R : EStateM.Result Unit Sp.Wk Sp.Out} {r : Nat} {u0 : iST} (hT0 : TI u0) (hE0 : EnvS u0 E) (h71 : 0 ≤ u0.1 71) (d0 : 0 ≤ id) (hid : id < u0.1 117) (hr : u0.2.1 116 id = (r : Int))
    (hprov : ∀ v s', R = .ok none s' → RO id u0 v → StL v s' → v.1 61 = 0 → v.1 64 = 0 → Q (iI v 119 (v.1 119 - 1)))
    (hsplit : ∀ v w s' x y, R = .ok (some (.inl ((x, r + 1), (y, r + 1)))) s' → RO id u0 v → SpR v w E x y ((r : Int) + 1) → StL w s' → w.1 61 = 0 → w.1 64 = 0 → Q w)
    (hleft : ∀ v s' c, R = .ok (some (.inr (.inl (c, r + 1)))) s' → RO id u0 v → ClOk v E id → lits v id = c → StL v s' → v.1 61 = 0 → v.1 64 = 0 → pw_leave id Q (iA v 116 id ((r : Int) + 1)))
    (hagain : ∀ v s' c, R = .ok (some (.inr (.inr (c, r + 1)))) s' → RO id u0 v → ClOk v E id → lits v id = c → StL v s' → v.1 61 = 0 → v.1 64 = 0 → Q (iA v 116 id ((r : Int) + 1)))
    (hbad : ∀ w s', R = .error () s' → GZ f7Z u0 w → StL w s' → w.1 64 = 0 → w.1 61 ≠ 0 → Q w) : ∀ (n : Nat) (v : iST) (s : Sp.Wk) (pre post : List Ob) (ch : Int), RO id u0 v → ClOk v E id → lits v id = pre ++ post → post.length ≤ n → v.1 64 = 0 → StL v s → v.1 61 = 0 → R = Sp.roundGo E r n pre post (decide (ch ≠ 0)) s → pw_round_4 Q id ch (pre.length : Int) v
  | n, v, s, pre, [], ch, kv, hC, hl, hn, v64, hS, h61, hR => by
    have hT := kv.1.1
    have hU := kv.1.2.1
    have hlen := lits_len v id
    rw [hl, List.append_nil] at hlen
    have hl' : lits v id = pre := by rw [hl, List.append_nil]
    have c0 := hC.1
    have v116 : v.2.1 116 id = (r : Int) := by rw [kv.2.2.2.1.1]; exact hr
    rw [rg_nil] at hR
    refine fo_w_round_4 ?_
    unfold pw_round_4b
    intro _ _ x ex _
    rw [ex]
    refine ⟨fun _ => ?_, fun z => by omega⟩
    intro _ _ y ey _ _ _ _ t et
    rw [v116] at ey
    rw [ey] at et
    have gt : GZ f7Z v t := by rw [et]; exact GZ_eq (GZ.rf hT hU) (fun k hk => ⟨rfl, if_neg (by omega)⟩) rfl (Fx_A (by decide))
    have tC : ClOk t E id := by
      obtain ⟨a0, a1, a2, a3⟩ := hC
      refine ⟨by rw [et]; exact a0, by rw [et]; exact a1, by rw [et]; show 0 ≤ (if id = id then (r : Int) + 1 else _); rw [if_pos rfl]; omega, fun i i0 i1 => ?_⟩
      have e114 : t.2.1 114 = v.2.1 114 := by rw [et]; rfl
      rw [show t.2.1 115 = v.2.1 115 by rw [et]; rfl] at i1
      rw [e114]
      exact ((a3 i i0 i1).mono hT gt).1
    have tl : lits t id = pre := by
      rw [← hl']
      have eo : ∀ j, ob t j = ob v j := by rw [et]; exact ob_same rfl rfl rfl rfl rfl
      have e1 : t.2.1 115 = v.2.1 115 := by rw [et]; rfl
      have e2 : t.2.1 114 = v.2.1 114 := by rw [et]; rfl
      unfold lits
      rw [e1, e2]
      exact ls_congr (fun i _ => eo _)
    refine ⟨fun hch => ?_, fun hch => ?_⟩
    · rw [if_neg (by rw [decide_eq_true hch]; decide)] at hR
      refine p_together gt.1 gt.2.1 tC ?_
      rw [tl]
      refine ⟨fun hz => ?_, fun hz => ?_⟩
      · rw [if_neg (by have := (capS7_400 pre).mp hz; omega)] at hR
        rw [et]
        exact hagain v s pre hR kv hC hl' hS h61 v64
      · rw [if_pos (by have : ¬ Sp.szL pre ≤ 400 := fun z => hz ((capS7_400 pre).mpr z); omega)] at hR
        refine p_fail gt.1 gt.2.1 (fun w hG hwn h2 hw => hbad w s hR (kv.1.tr (gt.tr (hG.1.mono (fun k hk => f7M_J k (f7J_Z k hk))))) ?_ (by rw [hwn 64 (by decide), et]; exact v64) ?_)
        · unfold StL
          rw [hwn 60 (by decide), hwn 59 (by decide), et]
          exact hS
        · rw [hw, show t.1 61 = 0 by rw [et]; exact h61, if_neg (not_not_intro rfl)]
          decide
    · rw [if_pos (by rw [decide_eq_false hch]; rfl)] at hR
      rw [et]
      exact hleft v s pre hR kv hC hl' hS h61 v64
  | 0, v, s, pre, x :: post, ch, kv, hC, hl, hn, v64, hS, h61, hR => by simp at hn
  | n + 1, v, s, pre, x :: post, ch, kv, hC, hl, hn, v64, hS, h61, hR => by
    have hT := kv.1.1
    have hU := kv.1.2.1
    have hlen := lits_len v id
    rw [hl] at hlen
    have c0 := hC.1
    have hidx : (pre.length : Int) < v.2.1 115 id := by simp at hlen; omega
    have v116 : v.2.1 116 id = (r : Int) := by rw [kv.2.2.2.1.1]; exact hr
    refine fo_w_round_4 ?_
    unfold pw_round_4b
    intro _ _ y ey _
    rw [ey]
    refine ⟨fun z => by omega, fun _ => ?_⟩
    intro u1 eu1
    have g1 : GZ f7J v u1 := by rw [eu1]; exact GZ_eq (GZ.rf hT hU) (fun k hk => ⟨if_neg (by omega), rfl⟩) rfl (Fx_I (by decide))
    have n1 : ∀ m, m ≠ 109 → u1.1 m = v.1 m := fun m hm => by rw [eu1]; exact if_neg hm
    have c109 : u1.1 109 = 0 := by rw [eu1]; rfl
    clear eu1
    obtain ⟨hC1, hl1⟩ := J_cl g1 hT hC
    rw [hl] at hl1
    have cx1 : CxOk u1 E := ⟨by omega, fun i i0 i1 => by omega⟩
    have cxe1 : cxL u1 = [] := by unfold cxL; rw [c109]; rfl
    have k1 : RO id u0 u1 := kv.tr (RO_J g1 (n1 71 (by decide)))
    have e115 : u1.2.1 115 = v.2.1 115 := (g1.2.2.2.2 115 (by decide)).2
    have e114 : u1.2.1 114 = v.2.1 114 := (g1.2.2.2.2 114 (by decide)).2
    have tk : (lits u1 id).take (pre.length : Int).toNat = pre := by rw [hl1]; simp
    have dr : (lits u1 id).drop ((pre.length : Int).toNat + 1) = post := by rw [hl1]; simp
    have nx := hC1.2.2.2 (pre.length : Int) (by omega) (by rw [e115]; exact hidx)
    have exn : ob u1 (u1.2.1 114 (30 * id + (pre.length : Int))) = x := by
      have e := lits_get (u := u1) (id := id) (i := pre.length) (by rw [e115]; omega)
      rw [hl1, List.getElem?_append_right (Nat.le_refl _), Nat.sub_self] at e
      exact (Option.some.inj e).symm
    refine rd_nots (R := R) (K := fun ctx => Sp.bd (Sp.rw E 60 ctx x true) (fun w => if w = Ob.t then Sp.ret none else if Sp.splits w then Sp.splitC pre post w r else if w = Ob.nil then Sp.roundGo E r n pre post true else if w = x then Sp.roundGo E r n (pre ++ [x]) post (decide (ch ≠ 0)) else if Ob.has pre w then Sp.roundGo E r n pre post true else Sp.roundGo E r n (pre ++ [w]) (post.filter (fun y => decide (y ≠ w))) true)) (by omega) g1.1 hC1 (fun t s1 gt t71 t64 tS cxt hRt hbt => ?_) (u1.2.1 115 id).toNat u1 s 0 (GZ.rf g1.1 g1.2.1) rfl (by rw [k1.2.1]; exact h71) (by rw [n1 64 (by decide)]; exact v64) (by unfold StL; rw [n1 60 (by decide), n1 59 (by decide)]; exact hS) cx1 (by omega) (fun _ => ?_) (fun z => absurd h61 (by rw [← n1 61 (by decide)]; exact z)) (by rw [e115]; exact hidx)
    · -- the literal is rewritten
      have hTt := gt.1
      have hUt := gt.2.1
      have kt : RO id u0 t := k1.tr (RO_J gt t71)
      obtain ⟨hCt, hlt⟩ := J_cl gt g1.1 hC1
      rw [hl1] at hlt
      have f114 : t.2.1 114 = u1.2.1 114 := (gt.2.2.2.2 114 (by decide)).2
      have f115 : t.2.1 115 = v.2.1 115 := ((gt.2.2.2.2 115 (by decide)).2).trans e115
      obtain ⟨nxt, ext⟩ := nx.mono g1.1 gt
      rw [exn] at ext
      have dead : ∀ (w : iST) (s2 : Sp.Wk) (a b : Int), GZ f7Z u0 w → StL w s2 → w.1 64 = 0 → w.1 61 ≠ 0 → R = .error () s2 → pw_round_104 (fun a b c u => pw_round_4 Q a b c u) Q id ch (pre.length : Int) a b w := by
        intro w s2 a b gw wS w64 w61 hRe
        unfold pw_round_104
        intro z ez _
        rw [ez]
        exact ⟨fun z => absurd z w61, fun _ => hbad w s2 hRe gw wS w64 w61⟩
      unfold pw_round_72
      intro _ _ _ _ z ez _ z2 ez2 _
      rw [f114] at ez
      rw [ez, ez2]
      refine ⟨fun hz => dead t s1 _ _ kt.1 tS t64 hz (hbt hz), fun hz => ?_⟩
      have hz := Decidable.not_not.mp hz
      have hRt := hRt hz
      refine p_rewritten hTt hUt (kt.env hT0 hE0) cxt nxt (by rw [kt.2.1]; exact h71) t64 hz tS (fun y s2 w hev gw w71 w109 _ w64 wS w61 ny => ?_) (fun y s2 w hev gw wS w64 w61 => ?_)
      · rw [ext] at hev
        rw [bind_ok (show Sp.rw E 60 (cxL t) x true s1 = .ok (ob w y) s2 from hev)] at hRt
        have hTw := gw.1
        have hUw := gw.2.1
        have kw : RO id u0 w := kt.tr (RO_J gw w71)
        obtain ⟨hCw, hlw⟩ := J_cl gw hTt hCt
        rw [hlt] at hlw
        have w115 : w.2.1 115 = v.2.1 115 := ((gw.2.2.2.2 115 (by decide)).2).trans f115
        obtain ⟨nxw, exw⟩ := nxt.mono hTt gw
        rw [ext] at exw
        have y1 := kat hTw hUw 1 (by decide) (by decide) rfl ny.1 ny.2.1
        have y0 := kat hTw hUw 0 (by decide) (by decide) rfl ny.1 ny.2.1
        have yx := hTw.inj hUw ny.1 ny.2.1 nxw.1 nxw.2.1
        rw [exw] at yx
        have tkw : (lits w id).take (pre.length : Int).toNat = pre := by rw [hlw]; simp
        have drw : (lits w id).drop ((pre.length : Int).toNat + 1) = post := by rw [hlw]; simp
        have w116 : w.2.1 116 id = (r : Int) := by rw [kw.2.2.2.1.1]; exact hr
        have w117 : id < w.1 117 := by rw [kw.2.2.1.2.1]; exact hid
        -- on with the next literal
        have next : ∀ (p : iST) (pre' post' : List Ob) (c' : Int), CK id w p → ClOk p E id → lits p id = pre' ++ post' → post'.length ≤ n → R = Sp.roundGo E r n pre' post' (decide (c' ≠ 0)) s2 → pw_round_4 Q id c' (pre'.length : Int) p := by
          intro p pre' post' c' kp pC pl pn pR
          refine rnd_go hT0 hE0 h71 d0 hid hr hprov hsplit hleft hagain hbad n p s2 pre' post' c' (kw.tr kp.ro) pC pl pn (by rw [kp.2.1]; exact w64) (by unfold StL; rw [kp.2.1]; exact wS) (by rw [kp.2.1]; exact w61) pR
        have hn' : post.length ≤ n := by simp at hn; omega
        unfold pw_round_104
        intro q eq _
        rw [eq]
        refine ⟨fun _ => ?_, fun z => absurd w61 z⟩
        refine ⟨fun hy1 => ?_, fun hy1 => ?_⟩
        · rw [if_neg (fun z => hy1 (y1.mpr z))] at hRt
          refine p_splits hTw hUw ny (fun r1 hr1 => ⟨fun hs => ?_, fun hs => ?_⟩)
          · rw [if_neg (by rw [hr1.f hs]; decide)] at hRt
            refine ⟨fun hy0 => ?_, fun hy0 => ?_⟩
            · rw [if_neg (fun z => hy0 (y0.mpr z))] at hRt
              refine ⟨fun hyx => ?_, fun hyx => ?_⟩
              · rw [if_pos (yx.mpr hyx)] at hRt
                have hpl : lits w id = (pre ++ [x]) ++ post := by rw [hlw]; simp
                have step : ∀ c', (decide (c' ≠ 0) = decide (ch ≠ 0)) → pw_round_4 Q id c' ((pre.length : Int) + 1) w := by
                  intro c' hc'
                  have := next w (pre ++ [x]) post c' (CK.rf hTw hUw id) hCw hpl hn' (by rw [hc']; exact hRt)
                  rw [show ((pre ++ [x]).length : Int) = (pre.length : Int) + 1 by simp] at this
                  exact this
                unfold pw_round_186
                refine ⟨fun hch => ?_, fun hch => ⟨fun z => absurd hyx z, fun _ => ⟨fun _ => ?_, fun z => absurd hy0 z⟩⟩⟩
                · unfold pw_round_202 pw_round_207
                  exact ⟨fun z => absurd z (by decide), fun _ _ => step 1 (by rw [decide_eq_true hch]; rfl)⟩
                · unfold pw_round_207
                  exact ⟨fun z => absurd z (by decide), fun _ _ => step 0 (by rw [decide_eq_false hch]; rfl)⟩
              · rw [if_neg (fun z => hyx (yx.mp z))] at hRt
                have go : ∀ (p : iST) (x6 : Int) (pre' post' : List Ob), (x6 = 0 ∧ pre'.length = pre.length ∨ x6 ≠ 0 ∧ pre'.length = pre.length + 1) → CK id w p → ClOk p E id → lits p id = pre' ++ post' → post'.length ≤ n → R = Sp.roundGo E r n pre' post' true s2 → pw_round_186 (fun a b c u => pw_round_4 Q a b c u) Q id ch (pre.length : Int) (u1.2.1 114 (30 * id + (pre.length : Int))) y x6 p := by
                  intro p x6 pre' post' hx6 kp pC pl pn pR
                  have nx := next p pre' post' 1 kp pC pl pn pR
                  have key : pw_round_202 (fun a b c u => pw_round_4 Q a b c u) Q id (pre.length : Int) x6 p := by
                    unfold pw_round_202 pw_round_207
                    rcases hx6 with ⟨h1, h2⟩ | ⟨h1, h2⟩
                    · refine ⟨fun _ _ => ?_, fun z => absurd h1 z⟩
                      rw [h2] at nx
                      rw [Int.add_zero]
                      exact nx
                    · refine ⟨fun z => absurd z h1, fun _ _ => ?_⟩
                      rw [h2, show ((pre.length + 1 : Nat) : Int) = (pre.length : Int) + 1 by omega] at nx
                      exact nx
                  unfold pw_round_186
                  exact ⟨fun _ => key, fun _ => ⟨fun _ => key, fun z => absurd hyx z⟩⟩
                refine p_changeTo hTw hUw hCw (by omega) (by rw [w115]; exact hidx) ny (fun p hhas kp pC pl => ?_) (fun p hhas kp pC pl => ?_)
                · rw [tkw] at hhas pl
                  rw [drw] at pl
                  rw [if_pos hhas] at hRt
                  exact go p 0 pre post (Or.inl ⟨rfl, rfl⟩) kp pC pl hn' hRt
                · rw [tkw] at hhas pl
                  rw [drw] at pl
                  rw [if_neg (by rw [hhas]; decide)] at hRt
                  exact go p 1 (pre ++ [ob w y]) (post.filter (fun z => decide (z ≠ ob w y))) (Or.inr ⟨by decide, by simp⟩) kp pC (by rw [pl]; simp) (Nat.le_trans (List.length_filter_le _ _) hn') hRt
            · have hy0 := Decidable.not_not.mp hy0
              rw [if_pos (y0.mp hy0)] at hRt
              refine p_removeAt hTw hUw hCw (by omega) (by rw [w115]; exact hidx) (fun p kp pC _ pl _ _ => ?_)
              rw [tkw, drw] at pl
              have nx := next p pre post 1 kp pC pl hn' hRt
              have key : pw_round_202 (fun a b c u => pw_round_4 Q a b c u) Q id (pre.length : Int) 0 p := by
                unfold pw_round_202 pw_round_207
                refine ⟨fun _ _ => ?_, fun z => absurd rfl z⟩
                rw [Int.add_zero]
                exact nx
              unfold pw_round_186
              exact ⟨fun _ => key, fun _ => ⟨fun _ => key, fun _ => ⟨fun z => absurd hy0 z, fun _ => key⟩⟩⟩
          · rw [if_pos (hr1.t hs)] at hRt
            refine p_split hTw hUw hCw (by omega) (by rw [w115]; exact hidx) d0 w117 (by rw [kw.2.1]; exact h71) w61 ny (hr1.t hs) (s := s2) w116 (fun p s3 a b hsp es hSp p61 => ?_) (fun p s3 hsp es gp p61 => ?_)
            · rw [tkw, drw] at hsp
              refine hsplit w p s3 a b (hRt.trans hsp) kw hSp ?_ p61 (by rw [(hSp.1.2.2.2.2 64 (by decide)).1]; exact w64)
              unfold StL at wS ⊢
              rw [(hSp.1.2.2.2.2 60 (by decide)).1, (hSp.1.2.2.2.2 59 (by decide)).1, es]
              exact wS
            · rw [tkw, drw] at hsp
              refine hbad p s3 (hRt.trans hsp) (kw.1.tr (gp.mono f7V_Z)) ?_ (by rw [(gp.2.2.2.2 64 (by decide)).1]; exact w64) p61
              unfold StL at wS ⊢
              rw [(gp.2.2.2.2 60 (by decide)).1, (gp.2.2.2.2 59 (by decide)).1, es]
              exact wS
        · rw [if_pos (y1.mp (Decidable.not_not.mp hy1))] at hRt
          intro a ea _ _ b eb
          rw [eb, ea]
          exact hprov w s2 hRt kw wS w61 w64
      · rw [ext] at hev
        rw [bind_err (show Sp.rw E 60 (cxL t) x true s1 = .error () s2 from hev)] at hRt
        exact dead w s2 _ _ (kt.1.tr (gw.mono f7J_Z)) wS w64 w61 hRt
    · rw [hR, cxe1, if_pos (by omega), tk, dr, List.drop_zero]
      rfl
