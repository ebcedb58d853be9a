-- deps: 7999867
section
variable {α : Type} {δ : Nat} {u0 v0 v : iST} {E : Sp.Env} {B : Sz.Bx} {x g row c t T : Int} {R : EStateM.Result Unit Sz.Wk α} {Q : Int → iST → Prop} {K : Ob → Sz.M α} {ρ : List Ob → Ob → Bool → Sz.M Ob} {ctx : List Ob}
/-- a rule that turns variables round -/
theorem st_compare_z [DecidableEq Ob] {m : Int} {o : Ob} {n : Nat} {l : List (Ob × Ob)} {k : Sp.Thm} {Rl : Sp.Rul} (hM : FmJ_z u0 E B R Q ρ c x g row v0 T K) (hsk : SkJ_z u0 E B R Q ρ c v0 T K x g row ctx m o n) (hap : ApJ_z u0 E B R Q ρ c v0 T K x g row ctx m o n l Rl.rhs Rl.hyps 0) (hk : E.thms[n]? = some k) (hr : k.rule = some Rl) (ho : Ob.wt (Sp.arOf E) o) (hmt : Ob.mt Rl.lhs o = some l) (hS : StJ_z B E c x g row ctx v0 v) (hs : v.2.1 51 (17 * c + 3) = 13) (h8 : v.2.1 51 (17 * c + 8) = (n : Int)) (h9 : v.2.1 51 (17 * c + 9) = 0) (h5 : v.2.1 51 (17 * c + 5) = m) (nm : NdC v E m) (em : oc v m = o)
    (hP : PdK_z B δ (f8Zz B) f8Jr u0 v R (Sp.bd (Sz.fill (Ob.lkD l) Rl.rhs) (fun y => Sp.bd (if Ob.smaller y o then hypM_z E ρ ctx g o n l Rl.rhs Rl.hyps else Sz.rwRules E (ρ ctx) o (decide (g = 1)) (E.thms.take n).reverse) K))) (ht : t + T + 3 ≤ 24 * (v.1 31 + zz B v.1 - (u0.1 31 + zz B u0.1))) : pv_6_rewritten_20 Q t v := by
  have hP := hP.zero (δ' := 0) hS.2.2.1
  have hC := hM.1
  have T0 := hM.2.2.2.2.2.2
  have hT := hS.ct
  have hE := hC.env hP
  obtain ⟨r1, r2, r3, r4, r5, r6, r7⟩ := rule_at_z hE hk hr
  obtain ⟨n7, c7, n8', c9, v8, hh⟩ := r3.2.2 r2
  refine hd_13 hS.2.1.1 hM.2.2.2.2.1 hS.2.2.1 (hC.turn hP hS.2.2.1 (by omega)) hs ?_
  unfold pv_6_compare
  intro _ _ n1 en1 _
  rw [en1, h8]
  intro _ _ n2 en2 _ _ _ n3 en3 _
  rw [en2, en3, h5]
  have hmt' := hmt
  rw [r4] at hmt'
  refine pc_matches hT n7 nm (fun w gw hno => ?_) (fun w gw bw hv hag hbd => ?_)
  · exact absurd (by rw [em]; exact mt_sound n7.2.1 ho hmt') (hno (Ob.lkD l))
  unfold pv_9_clear
  intro y1 e1
  have g1 : CG f80 f8L w y1 := by rw [e1]; exact CG_A gw.1 (by omega) (by decide)
  have y1n : y1.1 = w.1 := by rw [e1]; rfl
  have y1r : ∀ k, k ≠ 54 → y1.2.1 k = w.2.1 k := fun k hk => by rw [e1]; exact if_neg hk
  have y154 : y1.2.1 54 1 = 0 := by rw [e1]; rfl
  have gv1 : CG (f8Zz B) f8Jr v y1 := (gw.mono f8b_Z f8m_J).tr (g1.mono f80_any f8L_J)
  intro _ _ n6 en6 _
  have w51 : w.2.1 51 = v.2.1 51 := gw.2.2.2 51 (by decide)
  rw [en6, y1r 51 (by decide), w51, h8]
  intro _ _ n7' en7' _
  rw [en7', y1r 8 (by decide), gw.2.2.2 8 (by decide)]
  have hP1 := (hP.frame gw f8b_Z f8m_J (by decide)).frame g1 f80_any f8L_J (by decide)
  obtain ⟨nrw, erw⟩ := n8'.up hT gv1
  rw [r5, ← erw] at hP1
  rw [em] at hag
  have b1 := bw.mono gw.1 g1 (by rw [y1n]) (y1r 35 (by decide)) (y1r 36 (by decide))
  have lw := bdL_w hv
  rw [← b1.2] at lw hag hbd
  rw [erw, ← r5] at hP1
  have mn : ∀ a : Ob, Mono_z (Sp.bd (if Ob.smaller a o then hypM_z E ρ ctx g o n l Rl.rhs Rl.hyps else Sz.rwRules E (ρ ctx) o (decide (g = 1)) (E.thms.take n).reverse) K) := fun a => Mono_z.bd (Mono_z.ite (hypM_mono_z hM.2.2.2.2.2.1) (rwRules_mono_z (fun o t => hM.2.2.2.2.2.1 _ _ _) _)) hM.2.2.2.1
  have hP1' : PdK_z B 0 (f8Zz B) f8Jr u0 y1 R (Sp.bd (Sz.fill (Ob.lkD l) (oc y1 (v.2.1 8 (n : Int)))) (fun y => Sp.bd (if Ob.smaller y o then hypM_z E ρ ctx g o n l Rl.rhs Rl.hyps else Sz.rwRules E (ρ ctx) o (decide (g = 1)) (E.thms.take n).reverse) K)) := by rw [erw, ← r5]; exact hP1
  refine pc_fillJ_z hP1' hC.2.2.1 mn (hE.mono hT (gv1.mono f8Z_Y (fun _ q => q))) nrw b1.1 (fun y hy => mt_bind (E := E) n7.2.1 ho hmt' hag hbd y (v8 y (by rw [← erw]; exact hy))) lw (fun q y gy yd nt hPy _ => ?_)
  have gvy : CG (f8Zz B) f8Jr v y := gv1.tr (gy.mono f8B_Z f8W_J)
  have y54 : y.2.1 54 = y1.2.1 54 := gy.2.2.2 54 (by decide)
  -- both written
  have rest : ∀ z, CG (f8Zz B) f8Jr y z → (z.2.1 51 = y.2.1 51 ∧ z.2.1 52 = y.2.1 52) → z.1 = y.1 → (0 ≤ z.2.1 54 1 ∧ z.2.1 54 1 ≤ slenI 1) → (y.1 32 = 0 → LtC 1 z = (Ob.told (oc y q)).take 200) → pv_9_clear 2 (fun u => bdp 5 17 (rd (u.2.1 51 (17 * c + 5)) (fun v11 => pv_9_write 2 v11 (fun u => pv_6_compare_76 (fun u => ovp (t + 1) (pv_6_rewritten_20 Q (t + 1) u)) c 0 u) u))) z := by
    intro z gz z5 zn z54 zl
    have z51 := z5.1
    unfold pv_9_clear
    intro z1 ez1
    have g2 : CG f80 f8L z z1 := by rw [ez1]; exact CG_A gz.1 (by omega) (by decide)
    have z1n : z1.1 = z.1 := by rw [ez1]; rfl
    have z1r : ∀ k, k ≠ 54 → z1.2.1 k = z.2.1 k := fun k hk => by rw [ez1]; exact if_neg hk
    have z154 : z1.2.1 54 2 = 0 := by rw [ez1]; rfl
    have z154' : z1.2.1 54 1 = z.2.1 54 1 := by rw [ez1]; rfl
    intro _ _ n11 en11 _
    have y51 : y.2.1 51 = v.2.1 51 := by rw [gy.2.2.2 51 (by decide), y1r 51 (by decide), w51]
    rw [en11, z1r 51 (by decide), z51, y51, h5]
    have gvz1 : CG (f8Zz B) f8Jr v z1 := (gvy.tr gz).tr (g2.mono f80_any f8L_J)
    obtain ⟨nmz, emz⟩ := nm.up hT gvz1
    refine pc_write g2.1 ⟨by rw [z154]; decide, by rw [z154]; exact (slen_low 2).1 |> fun h => by omega⟩ nmz.1 (fun z2 tl2 => ?_)
    obtain ⟨t1, t2, t3, t4, t5, t6⟩ := tl2
    have z2n : ∀ k, z2.1 k = y.1 k := fun k => by rw [t1.2.2.1 k rfl, z1n, zn]
    have z251 : z2.2.1 51 = v.2.1 51 := by rw [t1.2.2.2 51 (by decide), z1r 51 (by decide), z51, y51]
    have z252 : z2.2.1 52 = v.2.1 52 := by rw [t1.2.2.2 52 (by decide), z1r 52 (by decide), z5.2, gy.2.2.2 52 (by decide), y1r 52 (by decide), gw.2.2.2 52 (by decide)]
    have gyz2 : CG (f8Zz B) f8Jr y z2 := (gz.tr (g2.mono f80_any f8L_J)).tr (t1.mono f80_any f8L_J)
    have z252y : z2.2.1 52 = y.2.1 52 := by rw [t1.2.2.2 52 (by decide), z1r 52 (by decide), z5.2]
    have hP2 := hPy.on gyz2 (fun _ q => q) (fun _ q => q) (z2n 29) (z2n 30) (z2n 31) (z2n 32) (z2n 26) (z2n 28) z252y
    have gvz2 : CG (f8Zz B) f8Jr v z2 := gvy.tr gyz2
    have e1l : LtC 1 z2 = LtC 1 z := by
      have ez : z2.2.1 54 1 = z.2.1 54 1 := by rw [t5 1 (by decide), z154']
      unfold LtC
      rw [ez]
      refine List.map_congr_left (fun i hi => ?_)
      have hi := List.mem_range.mp hi
      have hz := z54.2
      have : slenI 1 = 200 := rfl
      rw [t6 _ (Or.inl (by omega)), z1r 55 (by decide)]
    have e2l : LtC 2 z2 = (Ob.told o).take 200 := by
      have hnil : LtC 2 z1 = [] := by unfold LtC; rw [z154]; rfl
      rw [t4, hnil, emz, em]
      rfl
    have z2kj : RjK_z B (c + 1) v z2 := ⟨gvz2, fun j _ => by rw [z251], by rw [z2n, gy.2.2.1 26 (by decide), y1n, gw.2.2.1 26 (by decide)]; exact Int.le_refl _, fun j _ => by rw [z252]⟩
    have z223 : z2.1 23 = c + 1 := by rw [z2n, gy.2.2.1 23 (by decide), y1n, gw.2.2.1 23 (by decide)]; exact hS.2.1.1
    have z231 : z2.1 31 + zz B z2.1 = v.1 31 + zz B v.1 := zsE (by rw [z2n, gy.2.2.1 31 (by decide), y1n, gw.2.2.1 31 (by decide)]) (by rw [z2n, gy.2.2.1 28 (by decide), y1n, gw.2.2.1 28 (by decide)])
    have z232 : z2.1 32 = y.1 32 := z2n 32
    -- how the frame goes on
    have tail : ∀ st r : Int, ∀ w1 w2 : iST, w1 = iA z2 51 (17 * c + 3) st → w2 = iA w1 51 (17 * c + 8) r → (y.1 32 = 0 → StJ_z B E c x g row ctx v0 w2 → w2.2.1 51 (17 * c + 3) = st → w2.2.1 51 (17 * c + 8) = r → w2.2.1 51 (17 * c + 9) = 0 → w2.2.1 51 (17 * c + 5) = m → NdC w2 E m → oc w2 m = o → w2.1 31 + zz B w2.1 = v.1 31 + zz B v.1 → PdK_z B 0 (f8Zz B) f8Jr u0 w2 R (Sp.bd (if Ob.smaller (oc y q) o then hypM_z E ρ ctx g o n l Rl.rhs Rl.hyps else Sz.rwRules E (ρ ctx) o (decide (g = 1)) (E.thms.take n).reverse) K) → pv_6_rewritten_20 Q (t + 1) w2) → pv_6_rewritten_20 Q (t + 1) w2 := by
      intro st r w1 w2 f1 f2 h
      obtain ⟨k1, m1, c1, q1r, s1, q1⟩ := fr_set_z (B := B) gvz2.1 f1 (by decide)
      obtain ⟨k2, m2, c2, q2r, s2, q2⟩ := fr_set_z (B := B) k1.1.1 f2 (by decide)
      have hPw := (hP2.setA f1).setA f2
      by_cases y32 : y.1 32 = 0
      · have hSz := hS.keep z2kj z223 (by rw [z232]; exact y32)
        obtain ⟨nm2, em2⟩ := nm.up hT ((gvz2.tr k1.1).tr k2.1)
        exact h y32 ((hSz.set f1 (by decide)).set f2 (by decide)) (by rw [s2 _ (by omega)]; exact q1) q2 (by rw [s2 _ (by omega), s1 _ (by omega), z251]; exact h9) (by rw [s2 _ (by omega), s1 _ (by omega), z251]; exact h5) nm2 (by rw [em2]; exact em) (by rw [m2, m1]; exact z231) (hPw.zero (by rw [m2, m1, z232]; exact y32))
      · exact rj_dead_z hC hPw (by rw [m2, m1, z232]; exact y32)
    have lowE : y.1 32 = 0 → Ob.lowL (LtC 1 z2) (LtC 2 z2) = Ob.smaller (oc y q) o := fun y32 => by rw [e1l, zl y32, e2l]; rfl
    refine pc_cmp rfl rfl (by rw [t5 1 (by decide), z154']; exact z54.1) t3.1 (fun w1 w2 hl f1 f2 _ => ?_) (fun w1 w2 hl f1 f2 _ => ?_)
    · refine tail _ _ w1 w2 f1 f2 (fun y32 hS2 a3 a8 a9 a5 nm2 em2 a31 hP3 => ?_)
      rw [← lowE y32, hl] at hP3
      rw [z251, h8] at a8
      exact hap (t + 1) w2 hS2 a3 (by rw [a8]; omega) a9 a5 nm2 em2 hP3 (by rw [a31]; omega)
    · refine tail _ _ w1 w2 f1 f2 (fun y32 hS2 a3 a8 a9 a5 nm2 em2 a31 hP3 => ?_)
      rw [← lowE y32, hl] at hP3
      rw [z251, h8] at a8
      exact hsk (t + 1) w2 hS2 a3 a8 a5 nm2 em2 hP3 (by rw [a31]; omega)
  have y541 : y.2.1 54 1 = 0 := by rw [y54]; exact y154
  refine pc_writeA gy.1 ⟨by rw [y541]; decide, by rw [y541]; decide⟩ ⟨nt.1, nt.2.1⟩ (fun q1 => ?_) (fun z vq tl => ?_)
  · refine rest y (CG.rf gy.1) ⟨rfl, rfl⟩ rfl ⟨by rw [y541]; decide, by rw [y541]; decide⟩ (fun y32 => ?_)
    have := (nt.2.2 y32).1.1
    omega
  · obtain ⟨t1, t2, t3, t4, t5, t6⟩ := tl
    refine rest z (t1.mono f80_any f8L_J) ⟨t1.2.2.2 51 (by decide), t1.2.2.2 52 (by decide)⟩ (funext (fun k => t1.2.2.1 k rfl)) t3 (fun _ => ?_)
    have hnil : LtC 1 y = [] := by unfold LtC; rw [y541]; rfl
    rw [t4, hnil]
    rfl
theorem ruleGoes_eq_z [DecidableEq Ob] {o : Ob} {n : Nat} {l : List (Ob × Ob)} {Rl : Sp.Rul} : Sz.ruleGoes E (ρ ctx) o (decide (g = 1)) (E.thms.take n).reverse Rl l = if Rl.perm then Sp.bd (Sz.fill (Ob.lkD l) Rl.rhs) (fun y => if Ob.smaller y o then hypM_z E ρ ctx g o n l Rl.rhs Rl.hyps else Sz.rwRules E (ρ ctx) o (decide (g = 1)) (E.thms.take n).reverse) else hypM_z E ρ ctx g o n l Rl.rhs Rl.hyps := by
  unfold Sz.ruleGoes hypM_z
  cases Rl.perm
  · rfl
  · show Sp.bd (Sp.bd (Sz.fill (Ob.lkD l) Rl.rhs) (fun y => Sz.ret (Ob.smaller y o))) _ = _
    rw [bd_assoc]
    rfl
/-- rules are sought -/
theorem st_seek_z [DecidableEq Ob] {m : Int} {o : Ob} (hM : FmJ_z u0 E B R Q ρ c x g row v0 T K) (hc : o.isCall = true) : ∀ n : Nat, n ≤ E.thms.length → SkJ_z u0 E B R Q ρ c v0 T K x g row ctx m o n := by
  intro n
  induction n using Nat.strongRecOn with
  | _ n ih =>
  intro hn t v hS hs h8 h5 nm em hP ht
  have hC := hM.1
  have T0 := hM.2.2.2.2.2.2
  have hT := hS.ct
  have ho : Ob.wt (Sp.arOf E) o := by rw [← em]; exact nm.2.1
  refine hd_12 hS.2.1.1 hM.2.2.2.2.1 hS.2.2.1 (hC.turn hP hS.2.2.1 (by omega)) hs ?_
  unfold pv_6_seek
  intro _ _ n1 en1 _
  rw [en1, h8]
  refine pv_6_seek_5_i (fun x1 x2 y => x1 = c ∧ ∃ j : Nat, x2 = (j : Int) - 1 ∧ j ≤ n ∧ RjK_z B (c + 1) v y ∧ y.1 23 = c + 1 ∧ y.1 31 + zz B y.1 = v.1 31 + zz B v.1 ∧ PdK_z B 0 (f8Zz B) f8Jr u0 y R (Sp.bd (Sz.rwRules E (ρ ctx) o (decide (g = 1)) (E.thms.take j).reverse) K)) ?_ ⟨rfl, n, rfl, Nat.le_refl n, RjK_z.rf hT, hS.2.1.1, rfl, hP⟩
  rintro x1 x2 y ⟨b1, j, b2, hj, kv, y23, y31, hPy⟩
  rw [b1]
  -- none is left, or it is over
  have out : (y.1 32 = 0 → j = 0) → pv_6_seek_104 (fun u => ovp (t + 1) (pv_6_rewritten_20 Q (t + 1) u)) c y := by
    intro h
    unfold pv_6_seek_104
    intro _ _ y1 e1 _
    obtain ⟨k1, m1, c1, q1r, s1, q1⟩ := fr_set_z (B := B) kv.1.1 e1 (by decide)
    have hP1 := hPy.setA e1
    by_cases y32 : y.1 32 = 0
    · have hSy := hS.keep kv y23 y32
      obtain ⟨nm1, em1⟩ := nm.up hT (kv.1.tr k1.1)
      rw [h y32] at hP1
      refine st_unfold_z (t := t + 1) (m := m) hM (hSy.set e1 (by decide)) q1 (by rw [s1 _ (by omega), kv.2.1 _ (by omega)]; exact h5) nm1 (by rw [em1, em]; exact hc) (by rw [em1, em]; exact hP1) (by rw [m1, y31]; omega)
    · exact rj_dead_z hC hP1 (by rw [m1]; exact y32)
  unfold pv_6_seek_5b
  refine ⟨fun z => out (fun _ => by omega), fun z => ?_⟩
  intro n2 en2 _
  rw [en2]
  refine ⟨fun z2 => out (fun q => absurd q z2), fun z2 => ?_⟩
  have y32 := Decidable.not_not.mp z2
  have hSy := hS.keep kv y23 y32
  have hTy := hSy.ct
  have hEy := hC.env hPy
  obtain ⟨i, ei⟩ : ∃ i, j = i + 1 := ⟨j - 1, by omega⟩
  have ex : x2 = (i : Int) := by omega
  rw [ex]
  have hlt : i < E.thms.length := by omega
  have hk : E.thms[i]? = some E.thms[i] := List.getElem?_eq_getElem hlt
  rw [ei, take_rev _ _ _ hk] at hPy
  obtain ⟨nmy, emy⟩ := nm.up hT kv.1
  -- the next one
  have next : ∀ w, CG f8b f8m y w → (Sp.can E E.thms[i] (decide (g = 1)) = none ∨ ∃ Rl, Sp.can E E.thms[i] (decide (g = 1)) = some Rl ∧ Ob.mt Rl.lhs o = none) → (c = c ∧ ∃ j : Nat, (i : Int) + (-1) = (j : Int) - 1 ∧ j ≤ n ∧ RjK_z B (c + 1) v w ∧ w.1 23 = c + 1 ∧ w.1 31 + zz B w.1 = v.1 31 + zz B v.1 ∧ PdK_z B 0 (f8Zz B) f8Jr u0 w R (Sp.bd (Sz.rwRules E (ρ ctx) o (decide (g = 1)) (E.thms.take j).reverse) K)) := by
    intro w gw hsk
    rw [rr_skip_z hsk] at hPy
    exact ⟨rfl, i, by omega, by omega, kv.tr (RjK_z.of gw f8b_Z f8m_J (by decide)) (Int.le_refl _), by rw [gw.2.2.1 23 (by decide)]; exact y23, (zsE (gw.2.2.1 31 (by decide)) (gw.2.2.1 28 (by decide))).trans y31, hPy.frame gw f8b_Z f8m_J (by decide)⟩
  intro _ _ n3 en3 _
  rw [en3, hSy.2.1.2.2.1]
  refine pc_canLook_z hEy hk (fun hno => ⟨fun _ _ => next y (CG.rf hTy) (Or.inl hno), fun z => absurd rfl z⟩) (fun Rl hcan => ⟨(fun z => by cases z), fun _ => ?_⟩)
  have hr := can_rule hcan
  obtain ⟨r1, r2, r3, r4, r5, r6, r7⟩ := rule_at_z hEy hk hr
  obtain ⟨n7, c7, n8', c9, v8, hh⟩ := r3.2.2 r2
  intro _ _ n6 en6 _ _ _ n7' en7' _
  rw [en6, en7', kv.2.1 _ (by omega), h5]
  refine pc_matches hTy n7 nmy (fun w gw hno => ⟨fun _ _ => next w gw (Or.inr ⟨Rl, hcan, ?_⟩), fun z => absurd rfl z⟩) (fun w gw bw hv hag hbd => ⟨(fun z => by cases z), fun _ => ?_⟩)
  · refine (mt_iff (ar := Sp.arOf E) (by rw [r4]; exact n7.2.1) ho).1.mpr (fun s => ?_)
    rw [r4, ← em, ← emy]
    exact hno s
  -- it matches
  obtain ⟨l, hmt⟩ : ∃ l, Ob.mt Rl.lhs o = some l := by
    cases q : Ob.mt Rl.lhs o with
    | some l => exact ⟨l, rfl⟩
    | none =>
      have := (mt_iff (ar := Sp.arOf E) (by rw [r4]; exact n7.2.1) ho).1.mp q (Ob.lkD (bdL w))
      rw [r4, ← em, ← emy] at this
      exact absurd ((hag _).mpr (Ag_lkD _)) this
  rw [rr_go_z hcan hmt, bd_assoc] at hPy
  have hPw := hPy.frame gw f8b_Z f8m_J (by decide)
  have w32 : w.1 32 = 0 := by rw [gw.2.2.1 32 (by decide)]; exact y32
  have kw : RjK_z B (c + 1) v w := kv.tr (RjK_z.of gw f8b_Z f8m_J (by decide)) (Int.le_refl _)
  have w23 : w.1 23 = c + 1 := by rw [gw.2.2.1 23 (by decide)]; exact y23
  have w31 : w.1 31 + zz B w.1 = v.1 31 + zz B v.1 := (zsE (gw.2.2.1 31 (by decide)) (gw.2.2.1 28 (by decide))).trans y31
  obtain ⟨s, hl, eR⟩ := hPw.live w32
  refine pc_stepS (s := (s.1, 0)) gw.1 hl.2.1 (fun z gz z32 s0 htick hst zs => ⟨(fun z => by cases z), fun _ => ?_⟩) (fun z gz z32 s0 htick hst zs => ⟨fun _ _ => ?_, fun z => absurd rfl z⟩)
  rotate_left
  · have kz : RjK_z B (c + 1) w z := RjK_z.of gz f8S_Z f80_any (by decide)
    refine ⟨rfl, i, by omega, by omega, kw.tr kz (Int.le_refl _), by rw [gz.2.2.1 23 (by decide)]; exact w23, by rw [zs, zz_eq (B := B) (gz.2.2.1 28 (by decide))]; exact w31, hPw.1.tr (gz.mono f8S_Z f80_any), Or.inr ⟨s, ⟨z32, hst, fun q => by have h1 := hl.2.2.1.2.1 q; have h2 := gz.2.2.1 29 (by decide); omega⟩, by rw [eR]; exact bind_err (ztick_err s0)⟩⟩
  have eR2 : R = Sp.bd (Sz.ruleGoes E (ρ ctx) o (decide (g = 1)) (E.thms.take i).reverse Rl l) K (s.1 - 1, s.2) := by rw [eR]; exact bind_ok (ztick_ok s0)
  have kz : RjK_z B (c + 1) w z := RjK_z.of gz f8S_Z f80_any (by decide)
  have z31 : z.1 31 + zz B z.1 = v.1 31 + zz B v.1 + 1 := by rw [zs, zz_eq (B := B) (gz.2.2.1 28 (by decide))]; omega
  have hlow : B.2.2.2.1 ≤ s.1 - 1 := by
    have f := hC.2.2.1
    rw [eR2] at f
    exact f.low (Mono_z.bd (ruleGoes_mono (fun o t => hM.2.2.2.2.2.1 _ _ _)) hM.2.2.2.1)
  have hPz : PdK_z B 0 (f8Zz B) f8Jr u0 z R (Sp.bd (Sz.ruleGoes E (ρ ctx) o (decide (g = 1)) (E.thms.take i).reverse Rl l) K) := ⟨hPw.1.tr (gz.mono f8S_Z f80_any), Or.inl ⟨(s.1 - 1, s.2), ⟨by rw [z32]; exact w32, hst, hl.2.2.1.up gw.1 gz (gz.2.2.1 29 (by decide)), hl.2.2.2.1.up gw.1 gz (gz.2.2.1 26 (by decide)) (gz.2.2.1 28 (by decide)) (by omega) (gz.2.2.2 52 (by decide)), hlow⟩, eR2⟩⟩
  have hSz := hS.keep (kw.tr kz (Int.le_refl _)) (by rw [gz.2.2.1 23 (by decide)]; exact w23) (by rw [z32]; exact w32)
  intro _ _ y1 e1 _ _ y2 e2 _ _ n12 en12 _
  obtain ⟨k1, m1, c1, q1r, s1, q1⟩ := fr_set_z (B := B) gz.1 e1 (by decide)
  obtain ⟨k2, m2, c2, q2r, s2, q2⟩ := fr_set_z (B := B) k1.1.1 e2 (by decide)
  have gy2 : CG (f8Zz B) f8Jr y y2 := (((gw.mono f8b_Z f8m_J).tr (gz.mono f8S_Z f80_any)).tr k1.1).tr k2.1
  have y211 : y2.2.1 11 = y.2.1 11 := gy2.2.2.2 11 (by decide)
  rw [ruleGoes_eq_z, r7] at hPz
  rw [en12, y211]
  have hskI := ih i (by omega) (by omega)
  have hap := st_apply_z (m := m) hM hskI hk hr ho hmt Rl.hyps.length 0 (by omega)
  -- the stage is set
  have set3 : ∀ st : Int, ∀ y3 : iST, y3 = iA y2 51 (17 * c + 3) st → StJ_z B E c x g row ctx v0 y3 ∧ y3.2.1 51 (17 * c + 3) = st ∧ y3.2.1 51 (17 * c + 8) = (i : Int) ∧ y3.2.1 51 (17 * c + 9) = 0 ∧ y3.2.1 51 (17 * c + 5) = m ∧ NdC y3 E m ∧ oc y3 m = o ∧ y3.1 31 + zz B y3.1 = v.1 31 + zz B v.1 + 1 ∧ ∀ {M : Sz.M α}, PdK_z B 0 (f8Zz B) f8Jr u0 z R M → PdK_z B 0 (f8Zz B) f8Jr u0 y3 R M := by
    intro st y3 e3
    obtain ⟨k3, m3, c3, q3r, s3, q3⟩ := fr_set_z (B := B) k2.1.1 e3 (by decide)
    obtain ⟨nm3, em3⟩ := nmy.up hTy (gy2.tr k3.1)
    refine ⟨((hSz.set e1 (by decide)).set e2 (by decide)).set e3 (by decide), q3, by rw [s3 _ (by omega), s2 _ (by omega)]; exact q1, by rw [s3 _ (by omega)]; exact q2, ?_, nm3, by rw [em3, emy]; exact em, by rw [m3, m2, m1]; exact z31, fun {M} h => ((h.setA e1).setA e2).setA e3⟩
    rw [s3 _ (by omega), s2 _ (by omega), s1 _ (by omega), kz.2.1 _ (by omega), kw.2.1 _ (by omega)]
    exact h5
  refine ⟨fun z3 => ?_, fun z3 => ?_⟩
  · rw [decide_eq_false (not_not_intro z3), if_neg (by decide)] at hPz
    unfold pv_6_seek_96
    intro _ _ y3 e3 _
    obtain ⟨a1, a2, a3, a4, a5, a6, a7, a8, a9⟩ := set3 14 y3 e3
    exact hap (t + 1) y3 a1 a2 a3 a4 a5 a6 a7 (by rw [List.drop_zero]; exact a9 hPz) (by rw [a8]; omega)
  · rw [decide_eq_true z3, if_pos rfl, bd_assoc] at hPz
    unfold pv_6_seek_96
    intro _ _ y3 e3 _
    obtain ⟨a1, a2, a3, a4, a5, a6, a7, a8, a9⟩ := set3 13 y3 e3
    exact st_compare_z (t := t + 1) (m := m) hM hskI hap hk hr ho hmt a1 a2 a3 a4 a5 a6 a7 (a9 hPz) (by rw [a8]; omega)
/-- U is looked up, then rules are sought -/
theorem st_look_z [DecidableEq Ob] {m : Int} (hM : FmJ_z u0 E B R Q ρ c x g row v0 T K) (hS : StJ_z B E c x g row ctx v0 v) (hs : v.2.1 51 (17 * c + 3) = 11) (h5 : v.2.1 51 (17 * c + 5) = m) (nm : NdC v E m) (hc : (oc v m).isCall = true) (hP : PdK_z B δ (f8Zz B) f8Jr u0 v R (Sp.bd (if Sp.look ctx (oc v m) (decide (g = 1)) = oc v m then Sz.rwRules E (ρ ctx) (oc v m) (decide (g = 1)) E.thms.reverse else Sz.ret (Sp.look ctx (oc v m) (decide (g = 1)))) K)) (ht : t + T + 3 ≤ 24 * (v.1 31 + zz B v.1 - (u0.1 31 + zz B u0.1))) : pv_6_rewritten_20 Q t v := by
  have hP := hP.zero (δ' := 0) hS.2.2.1
  have hC := hM.1
  have T0 := hM.2.2.2.2.2.2
  have hT := hS.ct
  have hE := hC.env hP
  refine hd_11 hS.2.1.1 hM.2.2.2.2.1 hS.2.2.1 (hC.turn hP hS.2.2.1 (by omega)) hs ?_
  unfold pv_6_lookUp
  intro _ _ n1 en1 _ _ _ n2 en2 _ _ _ n3 en3 _
  rw [en1, h5, en2, hS.2.1.2.2.1, en3, hS.2.1.2.2.2.1]
  refine pc_lookedUp hT nm hS.2.2.2.2.1 (fun r nr er => ?_)
  intro _ _ n5 en5 _
  rw [en5, h5]
  have i1 := hT.1.inj nr.1.1 nr.1.2 nm.1.1 nm.1.2
  refine ⟨fun z => ?_, fun z => ?_⟩
  rotate_left
  · rw [if_neg (fun q => z (i1.mp (er.trans q))), ← er] at hP
    exact fr_fin_z (t := t + 1) hM hS.1 hS.2.1 nr.d hP.retd (by omega) (fun w h _ => h)
  rw [if_pos (er.symm.trans (i1.mpr z))] at hP
  intro _ _ y1 e1 n6 en6 _ _ _ _ y2 e2 _
  obtain ⟨k1, m1, c1, q1r, s1, q1⟩ := fr_set_z (B := B) hT e1 (by decide)
  obtain ⟨k2, m2, c2, q2r, s2, q2⟩ := fr_set_z (B := B) k1.1.1 e2 (by decide)
  obtain ⟨nm2, em2⟩ := nm.up hT (k1.1.tr k2.1)
  have h25 : n6 = (E.thms.length : Int) := by rw [en6, m1]; exact hE.2.2.2.1.symm
  refine st_seek_z (m := m) hM hc E.thms.length (Nat.le_refl _) (t + 1) y2 ((hS.set e1 (by decide)).set e2 (by decide)) (by rw [s2 _ (by omega)]; exact q1) (by rw [q2, h25]) (by rw [s2 _ (by omega), s1 _ (by omega)]; exact h5) nm2 em2 ?_ (by rw [m2, m1]; omega)
  rw [List.take_length]
  exact (hP.setA e1).setA e2
/-! the class: calls of BASE functions by their form -/
theorem PdK_z.cgm [DecidableEq Ob] {α : Type} {δ : Nat} {B : Sz.Bx} {n r : Nat → Bool} {u v : iST} {R : EStateM.Result Unit Sz.Wk α} {m m' : Sz.M α} (h : PdK_z B δ n r u v R m) (e : v.1 32 = 0 → m = m') : PdK_z B δ n r u v R m' := by
  refine ⟨h.1, ?_⟩
  rcases h.2 with ⟨s, hl, q⟩ | q
  · exact Or.inl ⟨s, hl, by rw [← e hl.1]; exact q⟩
  · exact Or.inr q
theorem red_look_z [DecidableEq Ob] {m : Int} (hM : FmJ_z u0 E B R Q ρ c x g row v0 T K) (hS : StJ_z B E c x g row ctx v0 v) (h5 : v.2.1 51 (17 * c + 5) = m) (nm : NdC v E m) (hc : (oc v m).isCall = true) (hpl : Sz.plain (oc v m) = none) (hP : PdK_z B δ (f8Zz B) f8Jr u0 v R (Sp.bd (Sz.rwRest E (ρ ctx) ctx (oc v m) (decide (g = 1))) K)) (ht : t + T + 4 ≤ 24 * (v.1 31 + zz B v.1 - (u0.1 31 + zz B u0.1))) : ∀ y1, y1 = iA v 51 (17 * c + 3) 11 → pv_6_rewritten_20 Q (t + 1) y1 := by
  have hP := hP.zero (δ' := 0) hS.2.2.1
  intro y1 e1
  obtain ⟨k1, m1, c1, q1r, s1, q1⟩ := fr_set_z (B := B) hS.ct e1 (by decide)
  obtain ⟨nm1, em1⟩ := nm.up hS.ct k1.1
  unfold Sz.rwRest at hP
  rw [hpl] at hP
  refine st_look_z (δ := 0) (t := t + 1) (m := m) hM (hS.set e1 (by decide)) q1 (by rw [s1 _ (by omega)]; exact h5) nm1 (by rw [em1]; exact hc) ?_ (by rw [m1]; omega)
  rw [em1]
  exact hP.setA e1
theorem red_fin_z [DecidableEq Ob] {m a : Int} (hM : FmJ_z u0 E B R Q ρ c x g row v0 T K) (hS : StJ_z B E c x g row ctx v0 v) (na : NdC v E a) (hpl : Sz.plain (oc v m) = some (.inl (oc v a))) (hP : PdK_z B δ (f8Zz B) f8Jr u0 v R (Sp.bd (Sz.rwRest E (ρ ctx) ctx (oc v m) (decide (g = 1))) K)) (ht : t + T + 4 ≤ 24 * (v.1 31 + zz B v.1 - (u0.1 31 + zz B u0.1))) : pv_6_finish a (fun u => ovp (t + 1) (pv_6_rewritten_20 Q (t + 1) u)) v := by
  have hP := hP.zero (δ' := 0) hS.2.2.1
  unfold Sz.rwRest at hP
  rw [hpl] at hP
  exact fr_fin_z (t := t + 1) hM hS.1 hS.2.1 na.d hP.retd (by omega) (fun w h _ => h)
theorem red_ask_z [DecidableEq Ob] {m : Int} {M : Sz.M Ob} (hpl : Sz.plain (oc v m) = some (.inr M)) (hP : PdK_z B δ (f8Zz B) f8Jr u0 v R (Sp.bd (Sz.rwRest E (ρ ctx) ctx (oc v m) (decide (g = 1))) K)) : PdK_z B δ (f8Zz B) f8Jr u0 v R (Sp.bd M (fun z => Sp.bd (ρ ctx z (decide (g = 1))) K)) := by
  unfold Sz.rwRest at hP
  rw [hpl] at hP
  have hP : PdK_z B δ (f8Zz B) f8Jr u0 v R (Sp.bd (Sp.bd M (fun z => ρ ctx z (decide (g = 1)))) K) := hP
  rw [bd_assoc] at hP
  exact hP
/-- what was made is asked instead -/
theorem red_end_z [DecidableEq Ob] {a : Int} {w : iST} (hM : FmJ_z u0 E B R Q ρ c x g row v0 T K) (hS : StJ_z B E c x g row ctx v0 v) (gw : CG f8B f8W v w) (nt : NdD w E a) (hP : PdK_z B δ (f8Zz B) f8Jr u0 w R (Sp.bd (ρ ctx (oc w a) (decide (g = 1))) K)) (ht : t + T + 4 ≤ 24 * (v.1 31 + zz B v.1 - (u0.1 31 + zz B u0.1))) (hδ : δ ≤ 2000 := by omega) : pv_6_askInstead c a (fun u => ovp (t + 1) (pv_6_rewritten_20 Q (t + 1) u)) w := by
  have kz : RjK_z B (c + 1) v w := RjK_z.of gw f8B_Z f8W_J (by decide)
  have z31 : w.1 31 + zz B w.1 = v.1 31 + zz B v.1 := zsE (gw.2.2.1 31 (by decide)) (gw.2.2.1 28 (by decide))
  exact fr_instead_z (t := t + 1) hM (hS.1.tr kz (by omega)) (hS.2.1.keep (by rw [gw.2.2.1 23 (by decide)]; exact hS.2.1.1) (fun j hj => kz.2.1 j (by omega))) hS.2.2.2.2.2 (hS.2.2.2.2.1.up hS.ct gw) nt hP (by rw [z31]; omega) (fun w h _ => h)
theorem end_mono_z [DecidableEq Ob] (hM : FmJ_z u0 E B R Q ρ c x g row v0 T K) : ∀ z : Ob, Mono_z (Sp.bd (ρ ctx z (decide (g = 1))) K) := fun z => Mono_z.bd (hM.2.2.2.2.2.1 _ _ _) hM.2.2.2.1
/-- EQUAL -/
theorem st_equal_z [DecidableEq Ob] {m : Int} (hM : FmJ_z u0 E B R Q ρ c x g row v0 T K) (hS : StJ_z B E c x g row ctx v0 v) (hs : v.2.1 51 (17 * c + 3) = 8) (h5 : v.2.1 51 (17 * c + 5) = m) (nm : NdC v E m) (hc : (oc v m).isCallOf Ob.equal = true) (hP : PdK_z B δ (f8Zz B) f8Jr u0 v R (Sp.bd (Sz.rwRest E (ρ ctx) ctx (oc v m) (decide (g = 1))) K)) (ht : t + T + 4 ≤ 24 * (v.1 31 + zz B v.1 - (u0.1 31 + zz B u0.1))) : pv_6_rewritten_20 Q t v := by
  have hP := hP.zero (δ' := 0) hS.2.2.1
  have hC := hM.1
  have T0 := hM.2.2.2.2.2.2
  have hT := hS.ct
  have qe : Ob.equal ≠ Ob.quote := Ob.sym_ne (by decide)
  have qc : Ob.cons ≠ Ob.quote := Ob.sym_ne (by decide)
  have hcl := isCall_of hc qe
  refine hd_8 hS.2.1.1 hM.2.2.2.2.1 hS.2.2.1 (hC.turn hP hS.2.2.1 (by omega)) hs ?_
  rw [h5]
  refine pc_it hT nm hc qe (arOf_equal E) (by decide) (by decide) (fun a na ea => ?_)
  intro _ _ n1 en1 _
  rw [en1, h5]
  refine pc_it hT nm hc qe (arOf_equal E) (by decide) (by decide) (fun b nb eb => ?_)
  have ea : oc v a = (oc v m).item 1 := ea
  have eb : oc v b = (oc v m).item 2 := eb
  have hpl := plain_equal_z (lft_of hc)
  rw [← ea, ← eb] at hpl
  have iab := hT.1.inj na.1.1 na.1.2 nb.1.1 nb.1.2
  obtain ⟨n0, e0⟩ := NdC.known hT E 0 (o := Ob.nil) (by decide) (by decide) rfl rfl
  obtain ⟨n1', e1'⟩ := NdC.known hT E 1 (o := Ob.t) (by decide) (by decide) rfl rfl
  unfold pv_6_reduceEqual
  refine pc_isCallK 5 hT na.1 (by decide) (by decide) (o := Ob.cons) rfl (fun r1 hr1 => pc_isCallK 5 hT nb.1 (by decide) (by decide) (o := Ob.cons) rfl (fun r2 hr2 => ?_))
  have key : ∀ y0, (r1 = 0 → y0 = a) → (r1 ≠ 0 → y0 = b) → pv_6_reduceEqual_32 (fun u => ovp (t + 1) (pv_6_rewritten_20 Q (t + 1) u)) c a b r1 r2 y0 v := by
    intro y0 hy0 hy1
    unfold pv_6_reduceEqual_32
    refine ⟨fun hne => ?_, fun he => ?_⟩
    rotate_left
    · rw [if_pos (iab.mpr (Decidable.not_not.mp he)), ← e1'] at hpl
      exact red_fin_z hM hS n1' hpl hP ht
    rw [if_neg (fun q => hne (iab.mp q))] at hpl
    have e185 : Sz.plain (oc v m) = none → pv_6_reduceEqual_185 (fun u => ovp (t + 1) (pv_6_rewritten_20 Q (t + 1) u)) c v := by
      intro hn
      unfold pv_6_reduceEqual_185
      intro _ _ y1 f1 _
      exact red_look_z hM hS h5 nm hcl hn hP ht y1 f1
    have e136 : ¬ (r1 ≠ 0 ∧ r2 ≠ 0) → pv_6_reduceEqual_136 (fun u => ovp (t + 1) (pv_6_rewritten_20 Q (t + 1) u)) c r1 r2 y0 v := by
      intro hb
      have e146 : NdC v E y0 → (Sz.plain (oc v m) = if (oc v y0).isConst && !Ob.isPr (Ob.valOf (oc v y0)) then some (.inl Ob.nil) else none) → pv_6_reduceEqual_146 (fun u => ovp (t + 1) (pv_6_rewritten_20 Q (t + 1) u)) c y0 v := by
        intro ny hp
        unfold pv_6_reduceEqual_146
        refine pc_isConstant hT ny.1 (fun r3 hr3 => ⟨fun z => e185 ?_, fun z => ?_⟩)
        · rw [hp, hr3.f z]; rfl
        · rw [hr3.t z] at hp
          refine pc_valueOf hT ny.1 (fun vv nvv evv => pc_isPair hT nvv (fun r4 hr4 => ⟨fun z4 => e185 ?_, fun z4 => ?_⟩))
          · rw [hp, ← evv, hr4.t z4]; rfl
          · rw [← evv, hr4.f (Decidable.not_not.mp z4), ← e0] at hp
            exact red_fin_z hM hS n0 hp hP ht
      unfold pv_6_reduceEqual_136
      refine ⟨fun z1 => ?_, fun z1 => ?_⟩
      · have z2 : r2 = 0 := by
          by_cases q : r2 = 0
          · exact q
          · exact absurd ⟨z1, q⟩ hb
        rw [hr1.t z1, hr2.f z2] at hpl
        rw [hy1 z1]
        rw [hy1 z1] at e146
        refine e146 nb ?_
        rw [hpl]
        simp
      · have z1 := Decidable.not_not.mp z1
        refine ⟨fun z2 => e185 ?_, fun z2 => ?_⟩
        · rw [hpl, hr1.f z1, hr2.f z2]; simp
        · rw [hr1.f z1, hr2.t z2] at hpl
          rw [hy0 z1]
          rw [hy0 z1] at e146
          refine e146 na ?_
          rw [hpl]
          simp
    refine ⟨fun z1 => e136 (fun q => q.1 z1), fun z1 => ⟨fun z2 => e136 (fun q => q.2 z2), fun z2 => ?_⟩⟩
    have ha := hr1.t z1
    have hb := hr2.t z2
    rw [ha, hb, if_pos (by rfl)] at hpl
    have hP := red_ask_z hpl hP
    simp only [bd_assoc] at hP
    refine pc_it hT na ha qc (arOf_cons E) (by decide) (by decide) (fun a1 na1 ea1 => pc_it hT nb hb qc (arOf_cons E) (by decide) (by decide) (fun b1 nb1 eb1 => ?_))
    have ea1 : oc v a1 = (oc v a).item 1 := ea1
    have eb1 : oc v b1 = (oc v b).item 1 := eb1
    rw [← ea1, ← eb1] at hP
    have mn3 : ∀ y z : Ob, Mono_z (Sp.bd (Sz.mk3 Ob.ifS y z Ob.nil) (fun z => Sp.bd (ρ ctx z (decide (g = 1))) K)) := fun y z => Mono_z.bd Mono_z.big (end_mono_z hM)
    refine pc_mk2_z hP f8B_Z f8W_J hC.2.2.1 (fun y => Mono_z.bd Mono_z.big (fun z => mn3 y z)) (kn_c hT 4 (o := Ob.equal) (by decide) (by decide) rfl) (Ob.sym_isSym _) qe (arOf_equal E) na1.d nb1.d (fun o1 w1 gw1 wd1 nt1 hP1 _ => ?_)
    obtain ⟨naw, eaw⟩ := na.up hT gw1
    obtain ⟨nbw, ebw⟩ := nb.up hT gw1
    refine pc_it gw1.1 naw (by rw [eaw]; exact ha) qc (arOf_cons E) (by decide) (by decide) (fun a2 na2 ea2 => pc_it gw1.1 nbw (by rw [ebw]; exact hb) qc (arOf_cons E) (by decide) (by decide) (fun b2 nb2 eb2 => ?_))
    have ea2 : oc w1 a2 = (oc v a).item 2 := by rw [ea2, eaw]; rfl
    have eb2 : oc w1 b2 = (oc v b).item 2 := by rw [eb2, ebw]; rfl
    rw [← ea2, ← eb2] at hP1
    refine pc_mk2_z hP1 f8B_Z f8W_J hC.2.2.1 (fun z => mn3 _ z) (kn_c gw1.1 4 (o := Ob.equal) (by decide) (by decide) rfl) (Ob.sym_isSym _) qe (arOf_equal E) na2.d nb2.d (fun o2 w2 gw2 wd2 nt2 hP2 _ => ?_)
    have nt1' := nt1.up gw1.1 gw2 wd2
    obtain ⟨n0', e0'⟩ := NdC.known gw2.1 E 0 (o := Ob.nil) (by decide) (by decide) rfl rfl
    have hP2' := hP2.cgm (m' := Sp.bd (Sz.mk3 Ob.ifS (oc w2 o1) (oc w2 o2) (oc w2 0)) (fun z => Sp.bd (ρ ctx z (decide (g = 1))) K)) (fun h32 => by
      have h1 : w1.1 32 = 0 := by
        by_cases q : w1.1 32 = 0
        · exact q
        · exact absurd h32 (wd2 q)
      rw [((nt1.2.2 h1).up gw1.1 gw2).2, e0'])
    refine pc_mk3_z hP2' f8B_Z f8W_J hC.2.2.1 (end_mono_z hM) (kn_c gw2.1 3 (o := Ob.ifS) (by decide) (by decide) rfl) (Ob.sym_isSym _) ifq' (arOf_ifS E) nt1' nt2 n0'.d (fun o3 w3 gw3 wd3 nt3 hP3 _ => ?_)
    exact red_end_z hM hS ((gw1.tr gw2).tr gw3) nt3 hP3 ht
  exact ⟨fun z => key a (fun _ => rfl) (fun q => absurd z q), fun z => key b (fun q => absurd q z) (fun _ => rfl)⟩
/-- LESS -/
theorem st_less_z [DecidableEq Ob] {m : Int} (hM : FmJ_z u0 E B R Q ρ c x g row v0 T K) (hS : StJ_z B E c x g row ctx v0 v) (hs : v.2.1 51 (17 * c + 3) = 9) (h5 : v.2.1 51 (17 * c + 5) = m) (nm : NdC v E m) (hc : (oc v m).isCallOf Ob.less = true) (hP : PdK_z B δ (f8Zz B) f8Jr u0 v R (Sp.bd (Sz.rwRest E (ρ ctx) ctx (oc v m) (decide (g = 1))) K)) (ht : t + T + 4 ≤ 24 * (v.1 31 + zz B v.1 - (u0.1 31 + zz B u0.1))) : pv_6_rewritten_20 Q t v := by
  have hP := hP.zero (δ' := 0) hS.2.2.1
  have hC := hM.1
  have T0 := hM.2.2.2.2.2.2
  have hT := hS.ct
  have ql : Ob.less ≠ Ob.quote := Ob.sym_ne (by decide)
  have qh : Ob.height ≠ Ob.quote := Ob.sym_ne (by decide)
  have qm : Ob.minus ≠ Ob.quote := Ob.sym_ne (by decide)
  have hcl := isCall_of hc ql
  refine hd_9 hS.2.1.1 hM.2.2.2.2.1 hS.2.2.1 (hC.turn hP hS.2.2.1 (by omega)) hs ?_
  rw [h5]
  refine pc_it hT nm hc ql (arOf_less E) (by decide) (by decide) (fun a na ea => ?_)
  intro _ _ n1 en1 _
  rw [en1, h5]
  refine pc_it hT nm hc ql (arOf_less E) (by decide) (by decide) (fun b nb eb => ?_)
  have ea : oc v a = (oc v m).item 1 := ea
  have eb : oc v b = (oc v m).item 2 := eb
  have hpl := plain_less_z (lft_of hc)
  rw [← ea, ← eb] at hpl
  have iab := hT.1.inj na.1.1 na.1.2 nb.1.1 nb.1.2
  obtain ⟨n0, e0⟩ := NdC.known hT E 0 (o := Ob.nil) (by decide) (by decide) rfl rfl
  unfold pv_6_reduceLess
  refine pc_item hT na.1 (by decide) (fun i vi ei => pc_item hT nb.1 (by decide) (fun h vh eh => ?_))
  have ei : oc v i = (oc v a).item 1 := ei
  have eh : oc v h = (oc v b).item 1 := eh
  have iib := hT.1.inj vi.1 vi.2 nb.1.1 nb.1.2
  -- looked up
  have e240 : Sz.plain (oc v m) = none → pv_6_reduceLess_240 (fun u => ovp (t + 1) (pv_6_rewritten_20 Q (t + 1) u)) c v := by
    intro hn
    unfold pv_6_reduceLess_240
    intro _ _ y1 f1 _
    exact red_look_z hM hS h5 nm hcl hn hP ht y1 f1
  -- behind the first test
  have e127 : ∀ x6 x7, ¬ (oc v a = oc v b ∨ oc v b = Ob.nat 0) → (x6 ≠ 0 ↔ (Ob.isCallOf (oc v i) Ob.car || Ob.isCallOf (oc v i) Ob.cdr) = true) → (x7 ≠ 0 ↔ (Ob.isCallOf (oc v a) Ob.height && Ob.isCallOf (oc v b) Ob.height) = true) → pv_6_reduceLess_127 (fun u => ovp (t + 1) (pv_6_rewritten_20 Q (t + 1) u)) c a b i h x6 x7 v := by
    intro x6 x7 hno h6 h7
    rw [if_neg hno] at hpl
    have e173 : (Ob.isCallOf (oc v a) Ob.height && Ob.isCallOf (oc v b) Ob.height && (Ob.isCallOf (Ob.item (oc v a) 1) Ob.car || Ob.isCallOf (Ob.item (oc v a) 1) Ob.cdr) && decide (Ob.item (Ob.item (oc v a) 1) 1 = Ob.item (oc v b) 1)) = false → pv_6_reduceLess_173 (fun u => ovp (t + 1) (pv_6_rewritten_20 Q (t + 1) u)) c a b i v := by
      intro hf
      have hpl : Sz.plain (oc v m) = (if (Ob.isCallOf (oc v a) Ob.minus && decide (Ob.item (oc v a) 1 = oc v b) && Ob.isNat (Ob.item (oc v a) 2) && decide (0 < Ob.num (Ob.item (oc v a) 2))) = true then some (Sp.bd (Sz.pay (.nat 0) 1) fun _ => Sz.mk2 Ob.less (.nat 0) (oc v b)) else none).map .inr := by
        rw [hpl]; unfold Sz.fal; rw [hf]; rfl
      unfold pv_6_reduceLess_173
      refine pc_isCallK 8 hT na.1 (by decide) (by decide) (o := Ob.minus) rfl (fun r7 hr7 => ⟨fun z => e240 ?_, fun z => ?_⟩)
      · rw [hpl, hr7.f z]; rfl
      have hmn := hr7.t z
      refine ⟨fun z2 => e240 ?_, fun z2 => ?_⟩
      · rw [hpl, hmn, ← ei, decide_eq_false (fun q => z2 (iib.mp q))]; rfl
      have z2 := Decidable.not_not.mp z2
      refine pc_item hT na.1 (by decide) (fun n2 vn2 en2 => pc_numberOf hT vn2 ?_)
      have en2 : oc v n2 = (oc v a).item 2 := en2
      refine ⟨fun z3 => e240 ?_, fun z3 => ?_⟩
      · rw [hpl, ← en2, decide_eq_false (show ¬ 0 < (oc v n2).num by omega), Bool.and_false]; rfl
      have hpos : 0 < (oc v n2).num := by omega
      have hpl2 : Sz.plain (oc v m) = some (.inr (Sp.bd (Sz.pay (.nat 0) 1) fun _ => Sz.mk2 Ob.less (.nat 0) (oc v b))) := by
        rw [hpl, hmn, ← ei, decide_eq_true (iib.mpr z2), ← en2, num_nat hpos, decide_eq_true hpos]; rfl
      have hP := red_ask_z hpl2 hP
      rw [bd_assoc] at hP
      have mn1 : Mono_z (Sp.bd (Sz.mk2 Ob.less (.nat 0) (oc v b)) (fun z => Sp.bd (ρ ctx z (decide (g = 1))) K)) := Mono_z.bd Mono_z.big (end_mono_z hM)
      have hrm := hP.payroom hC.2.2.1 mn1 hS.2.2.1
      refine pc_naturalE hT (hrm.imp (fun q => by omega) id) (by decide) (by decide) (fun k1 w1 gw1 vk1 ek1 h29 hex => ?_)
      have hP1 := hP.pays gw1 f8B_Z f8W_J ⟨k1, vk1, ek1⟩ h29 hex
      obtain ⟨nbw, ebw⟩ := nb.up hT gw1
      have nk1 : NdC w1 E k1 := NdC.leaf vk1 (by rw [ek1]; rfl)
      refine pc_mk2_z (by rw [ek1, ebw]; exact hP1) f8B_Z f8W_J hC.2.2.1 (end_mono_z hM) (kn_c gw1.1 9 (o := Ob.less) (by decide) (by decide) rfl) (Ob.sym_isSym _) ql (arOf_less E) nk1.d nbw.d (fun o1 w2 gw2 wd2 nt2 hP2 _ => ?_)
      exact red_end_z hM hS ((gw1.mono f8M_B f8R_W).tr gw2) nt2 hP2 ht
    unfold pv_6_reduceLess_127
    refine ⟨fun z => e173 ?_, fun z => ⟨fun z2 => e173 ?_, fun z2 => ?_⟩⟩
    · have : (Ob.isCallOf (oc v a) Ob.height && Ob.isCallOf (oc v b) Ob.height) = false := bf_of (fun q => h7.mpr q z)
      rw [this]; rfl
    · have : (Ob.isCallOf (oc v i) Ob.car || Ob.isCallOf (oc v i) Ob.cdr) = false := bf_of (fun q => h6.mpr q z2)
      rw [ei] at this
      rw [this, Bool.and_false]; rfl
    have hh := h7.mp z
    have hs6 := h6.mp z2
    refine pc_item hT vi (by decide) (fun j vj ej => ?_)
    have ej : oc v j = Ob.item (Ob.item (oc v a) 1) 1 := by rw [ej, ei]; rfl
    have ijh := hT.1.inj vj.1 vj.2 vh.1 vh.2
    refine ⟨fun z3 => e173 ?_, fun z3 => ?_⟩
    · rw [← ej, ← eh, decide_eq_false (fun q => z3 (ijh.mp q)), Bool.and_false]
    have z3 := Decidable.not_not.mp z3
    have hpl2 : Sz.plain (oc v m) = some (.inr (Sz.mk1 Ob.consp (oc v h))) := by
      rw [hpl]; unfold Sz.fal
      rw [ei] at hs6
      rw [hh, hs6, ← ej, ← eh, decide_eq_true (ijh.mpr z3)]; rfl
    have hP := red_ask_z hpl2 hP
    have hbh : Ob.isCallOf (oc v b) Ob.height = true := by rw [Bool.and_eq_true] at hh; exact hh.2
    have nh : NdC v E h := nb.one hbh qh (arOf_height E) vh eh
    refine pc_mk1_z hP f8B_Z f8W_J hC.2.2.1 (end_mono_z hM) (kn_c hT 10 (o := Ob.consp) (by decide) (by decide) rfl) (Ob.sym_isSym _) (Ob.sym_ne (by decide)) (arOf_consp E) nh.d (fun o1 w1 gw1 wd1 nt1 hP1 _ => ?_)
    exact red_end_z hM hS gw1 nt1 hP1 ht
  have e88 : ∀ x6 x7, (x6 ≠ 0 ↔ (Ob.isCallOf (oc v i) Ob.car || Ob.isCallOf (oc v i) Ob.cdr) = true) → (x7 ≠ 0 ↔ (Ob.isCallOf (oc v a) Ob.height && Ob.isCallOf (oc v b) Ob.height) = true) → pv_6_reduceLess_88 (fun u => ovp (t + 1) (pv_6_rewritten_20 Q (t + 1) u)) c a b i h x6 x7 v := by
    intro x6 x7 h6 h7
    have e119 : (oc v a = oc v b ∨ oc v b = Ob.nat 0) → pv_6_reduceLess_119 (fun u => ovp (t + 1) (pv_6_rewritten_20 Q (t + 1) u)) v := by
      intro hy
      unfold pv_6_reduceLess_119
      rw [if_pos hy, ← e0] at hpl
      exact red_fin_z hM hS n0 hpl hP ht
    unfold pv_6_reduceLess_88
    refine ⟨fun z => e119 (Or.inl (iab.mpr z)), fun z => ?_⟩
    have nab : ¬ oc v a = oc v b := fun q => z (iab.mp q)
    refine pc_isNatural hT nb.1 (fun r6 hr6 => ⟨fun z6 => e127 x6 x7 ?_ h6 h7, fun z6 => ?_⟩)
    · have := hr6.f z6
      rintro (q | q)
      · exact nab q
      · rw [q] at this; cases this
    have hn := hr6.t z6
    have hz := nat_zeroC hn
    refine pc_numberOf hT nb.1 ⟨fun z7 => e127 x6 x7 ?_ h6 h7, fun z7 => e119 (Or.inr (hz.mpr (Decidable.not_not.mp z7)))⟩
    rintro (q | q)
    · exact nab q
    · exact z7 (hz.mp q)
  have e55 : ∀ x6, (x6 ≠ 0 ↔ (Ob.isCallOf (oc v i) Ob.car || Ob.isCallOf (oc v i) Ob.cdr) = true) → pv_6_reduceLess_55 (fun u => ovp (t + 1) (pv_6_rewritten_20 Q (t + 1) u)) c a b i h x6 v := by
    intro x6 h6
    unfold pv_6_reduceLess_55
    refine pc_isCallK 15 hT na.1 (by decide) (by decide) (o := Ob.height) rfl (fun r4 hr4 => ⟨fun z => ?_, fun z => ?_⟩)
    · unfold pv_6_reduceLess_87
      exact e88 x6 0 h6 ⟨fun q => absurd rfl q, fun q => by rw [hr4.f z] at q; cases q⟩
    · refine pc_isCallK 15 hT nb.1 (by decide) (by decide) (o := Ob.height) rfl (fun r5 hr5 => ⟨fun z2 => ?_, fun z2 => ?_⟩)
      · unfold pv_6_reduceLess_87
        exact e88 x6 0 h6 ⟨fun q => absurd rfl q, fun q => by rw [hr5.f z2, Bool.and_false] at q; cases q⟩
      · exact e88 x6 1 h6 ⟨fun _ => by rw [hr4.t z, hr5.t z2]; rfl, fun _ => by decide⟩
  refine pc_isCallK 11 hT vi (by decide) (by decide) (o := Ob.car) rfl (fun r3 hr3 => ⟨fun z => ?_, fun z => ?_⟩)
  · unfold pv_6_reduceLess_50
    exact e55 1 ⟨fun _ => by rw [hr3.t z]; rfl, fun _ => by decide⟩
  · refine pc_isCallK 12 hT vi (by decide) (by decide) (o := Ob.cdr) rfl (fun r4 hr4 => ⟨fun z2 => ?_, fun z2 => ?_⟩)
    · exact e55 0 ⟨fun q => absurd rfl q, fun q => by rw [hr3.f (Decidable.not_not.mp z), hr4.f z2] at q; cases q⟩
    · unfold pv_6_reduceLess_50
      exact e55 1 ⟨fun _ => by rw [hr4.t z2, Bool.or_true], fun _ => by decide⟩
end
