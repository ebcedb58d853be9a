-- deps: 560
/-! the reference: run -/
theorem lenO_wB [DecidableEq Ob] {u : iST} (hT : TI u) : ∀ (n : Nat) (x : Int), x.toNat < n → 0 ≤ x → x < u.1 8 → (ob u x).len ≤ wB u x
  | 0, x, h, _, _ => by omega
  | n + 1, x, hn, x0, x1 => by
    have hp := w_pos hT x0 x1
    by_cases c : (ob u x).isPr = true
    · obtain ⟨a0, a1, b0, b1, _, _, e⟩ := ob_lft hT x0 x1 c
      have ih := lenO_wB hT n (u.2.1 1 x) (by omega) b0 (by omega)
      have pl := w_pos hT a0 (by omega)
      have eb := wB_pair hT x0 x1 a0
      rw [e, Ob.len_pr]
      split <;> omega
    · have : (ob u x).len ≤ 0 := by
        cases e : ob u x with
        | op p q => rw [e] at c; exact absurd rfl c
        | var z => rw [Ob.len_var]; split <;> omega
      omega
theorem lenA_wB [DecidableEq Ob] {u : iST} (hT : TI u) : ∀ (n : Nat) (x : Int), x.toNat < n → 0 ≤ x → x < u.1 8 → wB u x ≤ 1000 → Ob.lenA (ob u x)
  | 0, x, h, _, _, _ => by omega
  | n + 1, x, hn, x0, x1, hw => by
    by_cases c : (ob u x).isPr = true
    · obtain ⟨a0, a1, b0, b1, _, _, e⟩ := ob_lft hT x0 x1 c
      have pl := w_pos hT a0 (by omega)
      have pr := w_pos hT b0 (by omega)
      have eb := wB_pair hT x0 x1 a0
      have hl := lenO_wB hT _ x (Nat.lt_succ_self _) x0 x1
      rw [e] at hl ⊢
      exact ⟨by show Ob.len (Ob.pr _ _) ≤ 1000; omega, lenA_wB hT n _ (by omega) a0 (by omega) (by omega), lenA_wB hT n _ (by omega) b0 (by omega) (by omega)⟩
    · cases e : ob u x with
      | op p q => rw [e] at c; exact absurd rfl c
      | var z => trivial
theorem lenA_wA [DecidableEq Ob] {u : iST} (hT : TI u) {x : Int} (x0 : 0 ≤ x) (x1 : x < u.1 8) (hw : wA u x ≤ 1000) : Ob.lenA (ob u x) := lenA_wB hT _ x (Nat.lt_succ_self _) x0 x1 (by have := w_pos hT x0 x1; omega)
/-- all that was taken lies below the objects -/
theorem HX.low [DecidableEq Ob] {u : iST} {H : Sp.Hs} {m : List Ob} (h : HX u H m) : MkAt u (u.1 8) (u.1 54).toNat := by
  obtain ⟨e35, e42, etk, elen⟩ := h.nums
  obtain ⟨h1, h2, ⟨hD, h57, hW, hTk⟩, h4, h5, h6, h7, h8⟩ := h
  unfold MkAt
  rw [etk, e35, e42]
  refine ⟨fun d d0 d1 => ?_, fun k k0 k1 => ?_⟩
  · obtain ⟨a1, a2, a3, a4⟩ := hD.2.2 d d0 d1
    exact ⟨a1.2.1, fun i i0 i1 => (a2.2.2 i i0 i1).2, a3.2.1, fun z => (a4 z).2.1⟩
  · obtain ⟨a1, a2, a3⟩ := hTk.2.2.1 k k0 k1
    refine ⟨a1.2, a2.2, fun z => ?_⟩
    obtain ⟨b1, b2, b3, b4, b5, b6⟩ := a3 z
    exact ⟨b1.2.1, b3.2.1, fun i i0 i1 => (b6 i i0 i1).1.2.1⟩
def f7Al (k : Nat) : Bool := decide (k = 53)
theorem p_allRulesIn [DecidableEq Ob] {Q : iST → Prop} {u : iST} (hq : ∀ v, v.1 = u.1 → v.2.2 = u.2.2 → (∀ k, k ≠ 53 → v.2.1 k = u.2.1 k) → (∀ i, 0 ≤ i → i < 60 → v.2.1 53 i = 0) → Q v) : pw_allRulesIn Q u := by
  unfold pw_allRulesIn
  refine pw_allRulesIn_2_i (fun x v => 0 ≤ x ∧ v.1 = u.1 ∧ v.2.2 = u.2.2 ∧ (∀ k, k ≠ 53 → v.2.1 k = u.2.1 k) ∧ ∀ i, 0 ≤ i → i < x → v.2.1 53 i = 0) ?_ ⟨Int.le_refl _, rfl, rfl, fun _ _ => rfl, fun i i0 i1 => by omega⟩
  rintro x v ⟨x0, e1, e2, er, e53⟩
  unfold pw_allRulesIn_2b
  refine ⟨fun h => hq v e1 e2 er (fun i i0 i1 => e53 i i0 (by omega)), fun h => ?_⟩
  intro _ _ _ w ew _
  refine ⟨by omega, by rw [ew]; exact e1, by rw [ew]; exact e2, fun k hk => by rw [ew]; exact (if_neg hk).trans (er k hk), fun i i0 i1 => ?_⟩
  rw [ew]
  show (if i = x then 0 else v.2.1 53 i) = 0
  by_cases q : i = x
  · rw [if_pos q]
  · rw [if_neg q]; exact e53 i i0 (by omega)
/-- a house is kept by what leaves its fields -/
theorem HX.keepN [DecidableEq Ob] {n : Nat → Bool} {u v : iST} {H : Sp.Hs} {m : List Ob} (h : HX u H m) (g : GZ n u v) (hn : ∀ k, 35 ≤ k → k ≤ 57 → n k = false) : HX v H m := by
  obtain ⟨h1, h2, h3, h4, h5, h6, h7, h8⟩ := h
  have q : ∀ k, 35 ≤ k → k ≤ 57 → v.1 k = u.1 k ∧ v.2.1 k = u.2.1 k := fun k a b => g.2.2.2.2 k (hn k a b)
  obtain ⟨k1, k2⟩ := h8.keep g.le (q 54 (by decide) (by decide)).1 (fun k a b => (q k a (by omega)).2)
  exact ⟨g.1, g.2.1, h3.keep h1 g hn, h4.mono h1 g (q 42 (by decide) (by decide)).1 (q 44 (by decide) (by decide)).2, h5, by rw [(q 54 (by decide) (by decide)).1]; exact h6, by rw [k2]; exact h7, k1⟩
/-- what a run leaves -/
def RnO [DecidableEq Ob] (u v : iST) (r : Sp.Res) : Prop := v.1 64 = 0 ∧ (v.1 59 = u.1 59 ∧ v.2.1 12 = u.2.1 12) ∧ v.1 60 = r.2.1 ∧ v.1 63 = (r.2.2.1 : Int) ∧ bq (v.1 62) r.2.2.2 ∧ ∃ m, HX v r.1 m
def f7Ru (k : Nat) : Bool := decide (60 ≤ k ∧ k ≤ 63) || decide (k = 16) || decide (k = 132) || decide (k = 117)
/-- what comes of a text -/
def Sp.RanT0 [DecidableEq Ob] (H : Sp.Hs) (fuel : Nat) (t : List Int) (r : Sp.Res) : Prop := match Sp.read t with | none => r = Sp.nothing H | some o => Sp.Ran H fuel o r
theorem p_run [DecidableEq Ob] {Q : Int → iST → Prop} {u : iST} {H : Sp.Hs} {m : List Ob} {K : Int} {fuel : Nat} (hI : HI u K) (hK : K ≤ 51200) (hX : HX u H m) (h64 : u.1 64 = 0) (h59 : u.1 59 = (fuel : Int)) (hq : ∀ ans v r, Sp.RanT0 H fuel (tx u 0) r → RnO u v r → Q ans v) : pw_run Q u := by
  obtain ⟨i1, i2, i3, i4, i5, i6, i7, i8, i9, i10, i11, i12, i13, i14, i15, i16⟩ := hI
  have hT := hX.1
  have hU := hX.2.1
  unfold pw_run
  intro y1 e1 y2 e2 _ y3 e3 y4 e4 y5 e5 x8 ex8 _ y6 e6 y7 e7
  have yn : ∀ k, f7Ru k = false → y7.1 k = u.1 k := fun k hk => by
    unfold f7Ru at hk
    simp only [Bool.or_eq_false_iff, decide_eq_false_iff_not] at hk
    rw [e7, e6, e5, e4, e3, e2, e1]
    exact (if_neg (by omega)).trans ((if_neg (by omega)).trans ((if_neg (by omega)).trans ((if_neg (by omega)).trans ((if_neg (by omega)).trans ((if_neg (by omega)).trans (if_neg (by omega)))))))
  have y72 : y7.2 = u.2 := by rw [e7, e6, e5, e4, e3, e2, e1]; rfl
  have a60 : y7.1 60 = 0 := by rw [e7, e6, e5, e4, e3, e2, e1]; rfl
  have a61 : y7.1 61 = 0 := by rw [e7, e6, e5, e4, e3, e2]; rfl
  have a62 : y7.1 62 = 0 := by rw [e7, e6, e5, e4, e3]; rfl
  have a63 : y7.1 63 = 0 := by rw [e7, e6, e5, e4]; rfl
  have a132 : y7.1 132 = u.1 8 := by
    have : x8 = u.1 8 := by rw [ex8, e5, e4, e3, e2, e1]; rfl
    rw [e7, e6, this]; rfl
  clear e1 e2 e3 e4 e5 e6 e7 ex8
  refine p_allRulesIn (fun v v1 v22 vr v53 => ?_)
  have g7 : GZ f7Ru u y7 := GZ_eq (GZ.rf hT hU) (fun k hk => ⟨yn k (by unfold f7Ru; simp only [Bool.or_eq_false_iff, decide_eq_false_iff_not]; omega), by rw [y72]⟩) (by rw [y72]) (fun k hk => ⟨yn k hk, by rw [y72]⟩)
  have hX7 := hX.keepN g7 (fun k a b => by unfold f7Ru; simp only [Bool.or_eq_false_iff, decide_eq_false_iff_not]; omega)
  have gv : GZ f7Al y7 v := GZ_eq (GZ.rf g7.1 g7.2.1) (fun k hk => ⟨by rw [v1], vr k (by omega)⟩) v22 (fun k hk => ⟨by rw [v1], vr k (of_decide_eq_false hk)⟩)
  have t42 : u.1 42 ≤ 60 := i2.2.1.2
  have hXv : HX v H [] := hX7.hint (gv.mono (fun k hk => by
    unfold f7N at hk
    simp only [Bool.or_eq_false_iff, decide_eq_false_iff_not] at hk
    exact decide_eq_false hk.1.2)) (fun r r0 r1 => by
    rw [v1, yn 42 (by decide)] at r1
    rw [v53 r r0 (by omega)]
    exact ⟨fun z => absurd rfl z, fun z => by cases z⟩)
  have vn : ∀ k, f7Ru k = false → v.1 k = u.1 k := fun k hk => by rw [v1]; exact yn k hk
  have v8 : v.1 8 = u.1 8 := vn 8 (by decide)
  have bgv : BgOk v := by
    refine ⟨?_, ?_, fun i i0 i1 => ?_, ?_⟩
    · rw [v1, a132]; exact hT.1
    · rw [v8, v1, a132]; exact Int.le_refl _
    · rw [v1, a132, ← v8]
      exact (hXv.2.2.2.2.2.2.2 i i0 i1).2.1
    · have := hXv.low
      rw [v8] at this
      rw [show v.1 132 = u.1 8 by rw [v1]; exact a132]
      exact this
  have etx : tx v 0 = tx u 0 := tx_same (vn 14 (by decide)) (by rw [vr 13 (by decide), y72]) 0
  have rds : w_reads (fun r w => (bz r ∧ TI w ∧ Fx (fun k => fR k || decide (k = 14)) v w ∧ Ext v w ∧ Szs v w ∧ (r ≠ 0 → 0 ≤ w.1 33 ∧ w.1 33 < w.1 8 ∧ wA w (w.1 33) ≤ 1000))) v := by
    have v14 := vn 14 (by decide)
    have v6 := vn 6 (by decide)
    have v11 := vn 11 (by decide)
    refine g_reads hXv.1 (by omega) (by omega) (by rw [vr 13 (by decide), y72]; exact i8) (by omega) (by omega) (by omega) (fun r w b1 b2 b3 b4 b5 b6 b7 b8 b9 b10 => ⟨b1, b2, b3, b4, b5, fun z => ⟨(b10 z).1, (b10 z).2.1, (b10 z).2.2.1⟩⟩)
  have both := cj_w_reads (Q1 := _) (Q2 := fun r w => GZ f7Rt v w ∧ w.1 14 = 0 ∧ ((r = 0 ∧ Sp.read (tx v 0) = none) ∨ (r ≠ 0 ∧ 0 ≤ w.1 33 ∧ w.1 33 < w.1 8 ∧ Sp.read (tx v 0) = some (ob w (w.1 33))))) (Q3 := fun r w => (r ≠ 0 → wA w (w.1 33) ≤ 1000) ∧ GZ f7Rt v w ∧ w.1 14 = 0 ∧ ((r = 0 ∧ Sp.read (tx v 0) = none) ∨ (r ≠ 0 ∧ 0 ≤ w.1 33 ∧ w.1 33 < w.1 8 ∧ Sp.read (tx v 0) = some (ob w (w.1 33))))) (fun r w a b => ⟨fun z => (a.2.2.2.2.2 z).2.2, b⟩) rds (p_reads hXv.1 hXv.2.1 (fun r w a b c => ⟨a, b, c⟩))
  refine wp_w_reads (fun r w h => ?_) both
  obtain ⟨hA, gw, w14, hor⟩ := h
  rw [etx] at hor
  have midR : ∀ k, 35 ≤ k → k ≤ 57 → f7Rt k = false := fun k a b => by
    unfold f7Rt f7Rd
    simp only [Bool.or_eq_false_iff, decide_eq_false_iff_not]
    omega
  have hXw := hXv.keepN gw midR
  have wn : ∀ k, f7Rt k = false → w.1 k = v.1 k ∧ w.2.1 k = v.2.1 k := gw.2.2.2.2
  have w132 : w.1 132 = u.1 8 := by rw [(wn 132 (by decide)).1, v1]; exact a132
  have bgw : BgOk w := by
    obtain ⟨b1, b2, b3, b4⟩ := bgv
    have e54 := (wn 54 (by decide)).1
    have es : srt w = srt v := by unfold srt; rw [e54, (wn 55 (by decide)).2]
    have e132 := (wn 132 (by decide)).1
    have hl := gw.le
    exact ⟨by omega, by omega, fun i i0 i1 => by rw [(wn 56 (by decide)).2, e132]; exact b3 i i0 (by omega), by rw [e132, e54]; exact b4.keep es (fun k a b => (wn k (midR k a (by omega))).2)⟩
  have w64 : w.1 64 = 0 := by rw [(wn 64 (by decide)).1, vn 64 (by decide)]; exact h64
  have w59 : w.1 59 = u.1 59 := by rw [(wn 59 (by decide)).1, vn 59 (by decide)]
  have w12 : w.2.1 12 = u.2.1 12 := by rw [(wn 12 (by decide)).2, vr 12 (by decide), y72]
  have w60 : w.1 60 = 0 := by rw [(wn 60 (by decide)).1, v1]; exact a60
  have w61 : w.1 61 = 0 := by rw [(wn 61 (by decide)).1, v1]; exact a61
  have w62 : w.1 62 = 0 := by rw [(wn 62 (by decide)).1, v1]; exact a62
  have w63 : w.1 63 = 0 := by rw [(wn 63 (by decide)).1, v1]; exact a63
  have w71 : w.1 71 = 0 := by rw [(wn 71 (by decide)).1, vn 71 (by decide)]; exact i4
  refine ⟨fun hr => ?_, fun hr => ?_⟩
  · obtain ⟨o0, o1, eo⟩ := (hor.resolve_left (fun q => hr q.1)).2
    intro bf ebf _ o eo' _
    rw [eo']
    refine p_command (H := H) (fuel := fuel) ⟨hXw, bgw, ⟨w71, w64, w61, w60, by rw [w59]; exact h59, w62, w63⟩, o0, o1⟩ (by omega) (lenA_wA hXw.1 o0 o1 (hA hr)) (fun ans z r hran hO => ?_)
    obtain ⟨z64, z59, z60, z63, z62, m', hXz, hbg⟩ := hO
    have hR : Sp.RanT0 H fuel (tx u 0) r := by unfold Sp.RanT0; rw [eo]; exact hran
    have z57 : z.1 57 = -1 := hXz.2.2.1.2.1
    intro t et
    have gt : GZ (fun k => decide (k = 57)) z t := by rw [et]; exact GZ_eq (GZ.rf hXz.1 hXz.2.1) (fun k hk => ⟨if_neg (by omega), rfl⟩) rfl (Fx_I (by decide))
    have et' : t = z := by
      rw [et]
      show ((fun j => if j = 57 then (-1 : Int) else z.1 j), z.2) = z
      have : (fun j => if j = 57 then (-1 : Int) else z.1 j) = z.1 := funext (fun j => by
        by_cases q : j = 57
        · rw [if_pos q, q]; exact z57.symm
        · rw [if_neg q])
      rw [this]
    rw [et']
    -- what is left when nothing was taken
    have fin : ∀ q : iST, q.2 = z.2 → (∀ k, k ≠ 63 → q.1 k = z.1 k) → q.1 63 = (r.2.2.1 : Int) → pw_run_94 Q bf ans q := by
      intro q q2 qn q63
      have gq : GZ (fun k => decide (k = 63)) z q := GZ_eq (GZ.rf hXz.1 hXz.2.1) (fun k hk => ⟨qn k (by omega), by rw [q2]⟩) (by rw [q2]) (fun k hk => ⟨qn k (of_decide_eq_false hk), by rw [q2]⟩)
      have hXq := hXz.keepN gq (fun k a b => decide_eq_false (by omega))
      unfold pw_run_94
      intro x ex _
      rw [ex, qn 54 (by decide)]
      refine ⟨fun hlt => hq ans q r hR ⟨by rw [qn 64 (by decide)]; exact z64, ⟨by rw [qn 59 (by decide), z59.1]; exact w59, by rw [q2, z59.2]; exact w12⟩, by rw [qn 60 (by decide)]; exact z60, q63, by rw [qn 62 (by decide)]; exact z62, m', hXq⟩, fun hge => ?_⟩
      obtain ⟨b1, b2, b3, b4⟩ := hbg (by omega)
      have es : srt q = srt z := by unfold srt; rw [qn 54 (by decide), q2]
      intro n en _
      rw [en, qn 132 (by decide)]
      refine p_forgetH hXq b1 (by rw [qn 8 (by decide)]; exact b2) (fun i i0 i1 => by rw [q2]; exact b3 i i0 (by rw [← qn 54 (by decide)]; exact i1)) (by rw [qn 54 (by decide)]; exact b4.keep es (fun k _ _ => by rw [q2])) (fun y hXy y8 yE yr yn2 => ?_)
      have yq : ∀ k, 12 ≤ k → k ≠ 63 → y.1 k = z.1 k := fun k hk h63 => by rw [yn2 k (by omega) (by omega) (by omega), qn k h63]
      exact hq ans y r hR ⟨by rw [yq 64 (by decide) (by decide)]; exact z64, ⟨by rw [yq 59 (by decide) (by decide), z59.1]; exact w59, by rw [yr 12 (by decide), q2, z59.2]; exact w12⟩, by rw [yq 60 (by decide) (by decide)]; exact z60, by rw [yn2 63 (by decide) (by decide) (by decide)]; exact q63, by rw [yq 62 (by decide) (by decide)]; exact z62, m', hXy⟩
    refine ⟨fun h5 => fin z rfl (fun _ _ => rfl) (by rw [if_pos (Or.inl h5)] at z63; exact z63), fun h5 => ⟨fun h6 => fin z rfl (fun _ _ => rfl) (by rw [if_pos (Or.inr h6)] at z63; exact z63), fun h6 => ?_⟩⟩
    rw [if_neg (by rintro (q | q); exact h5 q; exact h6 q)] at z63
    intro q eq
    exact fin q (by rw [eq]; rfl) (fun k hk => by rw [eq]; exact if_neg hk) (by rw [eq, z63]; rfl)
  · have hr := Decidable.not_not.mp hr
    have hn := (hor.resolve_right (fun q => q.1 hr)).2
    have hR : Sp.RanT0 H fuel (tx u 0) (Sp.nothing H) := by unfold Sp.RanT0; rw [hn]
    intro x ex _
    rw [ex]
    obtain ⟨b1, b2, b3, b4⟩ := bgw
    refine p_forgetH hXw b1 b2 b3 b4 (fun y hXy y8 yE yr yn2 => ?_)
    exact hq 1 y _ hR ⟨by rw [yn2 64 (by decide) (by decide) (by decide)]; exact w64, ⟨by rw [yn2 59 (by decide) (by decide) (by decide)]; exact w59, by rw [yr 12 (by decide)]; exact w12⟩, by rw [yn2 60 (by decide) (by decide) (by decide)]; exact w60, by rw [yn2 63 (by decide) (by decide) (by decide)]; exact w63, by rw [yn2 62 (by decide) (by decide) (by decide), w62]; exact bq0 rfl, [], hXy⟩
