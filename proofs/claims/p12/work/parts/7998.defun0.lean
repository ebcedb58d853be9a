-- deps: 7997
/-! the class: a definition without a measure -/
theorem rn_defun0 [DecidableEq Ob] {γ : Int} {a : Int} {fuel : Nat} {Q : Int → iST → Prop} {v : iST} {H : Sp.Hs} {B : Ob} (h : HC v H []) (va : VN v a) (h43 : v.1 43 = (fuel : Int)) (ho : Ob.lft (oc v a) = Ob.defun) (hN : NmA v (oc v a)) (hd : DfH (oc v a)) (hB : Ob.rdT (Sp.arC (H.env []) (Ob.item (oc v a) 1) (Ob.toList (Ob.item (oc v a) 2)).length) (Ob.item (oc v a) 3) = some B) (hm : (if Ob.len (oc v a) = 5 then (Ob.rdT (Sp.arC (H.env []) (Ob.item (oc v a) 1) (Ob.toList (Ob.item (oc v a) 2)).length) (Ob.item (oc v a) 4)).map some else some none) = some none) (ok : Sp.dfOk (oc v a) B none) (v45 : VN v (v.1 45)) (e45 : oc v (v.1 45) = B) (h46 : v.1 46 = -1) (hno : (H.env []).dfn (Ob.item (oc v a) 1) = none) (l40 : H.1.length < 40) (h13 : v.1 13 = 0) (hg : v.1 29 + γ ≤ 160000) (hq : ∀ ans w r, Sp.Ran H fuel (oc v a) r → RcO γ v w r → Q ans w) : pv_11_run_62 Q a 0 v := by
  have hO := addDef_ok h.2.2.2.2.1.1 hd hB ok hno
  refine rn_62 h h43 (fun y hy bg => ?_)
  obtain ⟨yn, y2, y30, y31, y32⟩ := bg
  unfold pv_11_prepare
  intro v1 e1 _
  rw [e1, yn 44 (by omega)]
  have main : ∀ v2 : Int, pv_6_begin (fun u => pv_7_left a (fun v4 u =>
  br (v4 = 17) (
    rd (u.1 45) (fun v5 => 
    pv_2_evaluated v5 1000000 (fun v6 u => 
    pv_11_showValue v6 (fun u => 
    PrQ Q a (v.1 29) u) u) u)) (
  br (v4 = 18) (
    rd (u.1 45) (fun v9 => 
    pv_6_rewritten v9 0 0 (fun v10 u => 
    pv_11_showTerm v10 (fun u => 
    PrQ Q a (v.1 29) u) u) u)) (
  br (v4 = 19) (
    rd (u.1 47) (fun v13 => 
    pv_8_mute v13 (fun u => 
    rd (u.1 45) (fun v15 => 
    rd (u.1 47) (fun v16 => 
    pv_8_addTheoremClauses v15 v16 (fun u => 
    PrQ Q a (v.1 29) u) u))) u)) (
  br (v4 = 20) (
    rd (u.1 46) (fun v19 => 
    br (v19 = (-1)) (
      PrQ Q a (v.1 29) u) (
      rd (u.1 44) (fun v20 => 
      pv_7_item a 2 (fun v21 u => 
      rd (u.1 45) (fun v22 => 
      rd (u.1 46) (fun v23 => 
      pv_8_addMeasureClauses v20 v21 v22 v23 (fun u => 
      PrQ Q a (v.1 29) u) u))) u)))) (
  br (v4 = 21) (
    rd (u.1 47) (fun v26 => 
    pv_8_mute v26 (fun u => 
    rd (u.1 45) (fun v28 => 
    rd (u.1 47) (fun v29 => 
    pv_8_addTheoremClauses v28 v29 (fun u => 
    PrQ Q a (v.1 29) u) u))) u)) (
  br (v4 = 22) (
    PrQ Q a (v.1 29) u) (
  br (v4 = 23) (
    br (v2 = (-1)) (
      PrQ Q a (v.1 29) u) (
      pv_7_left a (fun v33 u => 
      br (v33 ≠ 23) (
        ztp 0 (bdp v2 60 (sw (iA u 12 v2 0) (fun u => 
        PrQ Q a (v.1 29) u)))) (
        ztp 1 (bdp v2 60 (sw (iA u 12 v2 1) (fun u => 
        PrQ Q a (v.1 29) u))))) u)) (
  br (v4 = 24) (
    br (v2 = (-1)) (
      PrQ Q a (v.1 29) u) (
      pv_7_left a (fun v35 u => 
      br (v35 ≠ 23) (
        ztp 0 (bdp v2 60 (sw (iA u 12 v2 0) (fun u => 
        PrQ Q a (v.1 29) u)))) (
        ztp 1 (bdp v2 60 (sw (iA u 12 v2 1) (fun u => 
        PrQ Q a (v.1 29) u))))) u)) (
  br (v4 = 25) (
    pv_0_takeBack (fun u => 
    PrQ Q a (v.1 29) u) u) (
  PrQ Q a (v.1 29) u)))))))))) u) y := fun v2 => by
    refine rn_6 hy (fun z hz zn z25 z2 z26 => ?_)
    have zy : ∀ k, ¬ (25 ≤ k ∧ k ≤ 32) → z.1 k = v.1 k := fun k hk => by rw [zn k (by omega) (by omega), yn k (by omega)]
    have z29 : z.1 29 = v.1 29 := by rw [zn 29 (by decide) (by decide), yn 29 (by omega)]
    have vz : VN z a := ⟨va.1, by rw [z29]; exact va.2⟩
    have z22 : z.2 = v.2 := z2.trans y2
    have oz : ∀ x, oc z x = oc v x := fun x => oc_same (by rw [z22]) x
    refine pc_left hz.1 vz (fun f vf ef => ?_)
    have k20 := katC hz.1 20 (o := Ob.defun) (by decide) (by decide) rfl vf.1 vf.2
    rw [ef, oz] at k20
    have f20 : f = 20 := k20.mpr ho
    refine ⟨fun c => by omega, fun _ => ⟨fun c => by omega, fun _ => ⟨fun c => by omega, fun _ => ⟨fun _ => ?_, fun c => absurd f20 c⟩⟩⟩⟩
    intro v19 e19 _
    refine ⟨fun _ => ?_, fun c => absurd (by rw [e19, zy 46 (by omega)]; exact h46) c⟩
    refine rn_none hz (by rw [zy 13 (by omega)]; exact h13) (by rw [zn 32 (by decide) (by decide)]; exact y32) (fun t ht tn t15 t2 => ?_)
    have tv : ∀ k, ¬ (15 ≤ k ∧ k ≤ 32) → t.1 k = v.1 k := fun k hk => by rw [tn k (by omega) (by omega), zy k (by omega)]
    have t29 : t.1 29 = v.1 29 := by rw [tn 29 (by decide) (by decide), z29]
    have t22 : t.2 = v.2 := t2.trans z22
    have ot : ∀ x, oc t x = oc v x := fun x => oc_same (by rw [t22]) x
    refine rn_111 ht.1 ⟨va.1, by rw [t29]; exact va.2⟩ (by rw [ot, ho]; exact Ob.sym_ne (by decide)) ?_
    refine rn_140 ht (fun s hs sn s48 s2 => ?_)
    have sv : ∀ k, ¬ (15 ≤ k ∧ k ≤ 32) → k ≠ 48 → k ≠ 49 → s.1 k = v.1 k := fun k hk a b => by rw [sn k a b, tv k hk]
    have s29 : s.1 29 = v.1 29 := by rw [sn 29 (by decide) (by decide), t29]
    have os : ∀ x, oc s x = oc v x := fun x => oc_same (by rw [s2, t22]) x
    have vns : ∀ x, VN v x → VN s x := fun x q => ⟨q.1, by rw [s29]; exact q.2⟩
    have s44 : s.1 44 = v.1 44 := sv 44 (by omega) (by decide) (by decide)
    have s45 : s.1 45 = v.1 45 := sv 45 (by omega) (by decide) (by decide)
    have s46 : s.1 46 = -1 := by rw [sv 46 (by omega) (by decide) (by decide)]; exact h46
    have tl := toList_len' hd.2.2.1
    have hk29 : 44 ≤ v.1 29 := by have := h.2.2.2.2.2.2.1.1; omega
    refine cc_def (D := (Ob.item (oc v a) 1, Ob.toList (Ob.item (oc v a) 2), B, none)) hs (vns a va) (by rw [os]; exact ho) ?_ ?_ hO l40 ?_ (by rw [s29]; exact Int.le_refl _) va.2 (by rw [s44]; exact ⟨vns _ hN.1, hN.1.2⟩) (by rw [s45]; exact ⟨vns _ v45, v45.2⟩) (by rw [s46]; exact ⟨by omega, fun z => absurd rfl z⟩) (by rw [s44, os, hN.2.1]; exact hN.2.2) (by rw [os]; exact hd.2.2.1) (by rw [os]; have := hd.2.2.2.1; omega) (by rw [s44, s45, s46, os, os, os, hN.2.1, e45]; rfl) (fun w hw w50 wn' wr _ _ => hq 0 w (Sp.addDef H (Ob.item (oc v a) 1, Ob.toList (Ob.item (oc v a) 2), B, none), 0, 0, false) (Ran_defun ho ((RanD_4 hd hB hm).2.2 ok ?_ ?_)) ⟨⟨[], hw⟩, ?_, ?_, ?_, ⟨?_, ?_, ?_, by rw [wn'.2 29 (by decide) (by decide), s29]; exact hg⟩, ?_, fun q => by cases q⟩)
    · rw [sn 32 (by decide) (by decide), tn 32 (by decide) (by decide), zn 32 (by decide) (by decide)]; exact y32
    · rw [sn 15 (by decide) (by decide)]; exact t15
    · rw [sv 3 (by omega) (by decide) (by decide)]; exact h.2.2.2.2.2.2.1.1.2.1
    · intro z
      rcases z with z | z
      · rw [hno] at z; cases z
      · omega
    · rfl
    · show w.1 48 = 0
      rw [wn'.2 48 (by decide) (by decide), s48, tn 31 (by decide) (by decide), zn 31 (by decide) (by decide)]
      exact y31
    · show w.1 15 = 0
      rw [wn'.2 15 (by decide) (by decide), sn 15 (by decide) (by decide)]
      exact t15
    · have : w.1 50 = 0 := w50.mpr (by rw [sv 13 (by omega) (by decide) (by decide), h13]; exact Int.le_refl _)
      rw [this]
      exact bq0 rfl
    · rw [wn'.2 42 (by decide) (by decide), sv 42 (by omega) (by decide) (by decide)]
    · rw [wn'.2 43 (by decide) (by decide), sv 43 (by omega) (by decide) (by decide)]
    · rw [wn'.1]; exact Int.le_refl _
    · rw [wr 45 (by decide), s2, t22]
  exact pc_theoremOf hy.1 hy.2.2.1 ⟨hN.1.1, by rw [yn 29 (by omega)]; exact hN.1.2⟩ (fun _ => main (-1)) (fun r k _ _ _ _ => main (r : Int))
