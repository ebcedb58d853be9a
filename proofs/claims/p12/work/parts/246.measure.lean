/-! measureRows -/
theorem sumT_mono {u : iST} {r : Int → Int} : ∀ {n m : Nat}, n ≤ m → (∀ j : Nat, j < m → 0 ≤ sz u (r j)) → sumT u r n ≤ sumT u r m := by
  intro n m
  induction m with
  | zero => intro h _; have : n = 0 := by omega
            subst this; exact Int.le_refl _
  | succ m ih =>
    intro h hj
    by_cases e : n = m + 1
    · subst e; exact Int.le_refl _
    · have h1 := ih (by omega) (fun j hj' => hj j (by omega))
      have h2 := hj m (by omega)
      show sumT u r n ≤ sumT u r m + sz u (r m)
      omega
/-- what stays while rows are laid: the paths, the list of variables, the measure -/
def MrI (u v : iST) (f l m : Int) (N : Nat) (d : Int) : Prop := Ly u v d 0 ∧ PathsOk v f N ∧ v.1 126 = u.1 126 ∧ v.2.1 123 = u.2.1 123 ∧ v.1 60 = u.1 60
theorem MrI.ext {u v w : iST} {f l m d d' : Int} {N : Nat} (h : MrI u v f l m N d) (g : Ly u w d' 0) (hE : ExtT v w) (e6 : w.1 126 = v.1 126) (e3 : w.2.1 123 = v.2.1 123) (e4 : w.2.1 124 = v.2.1 124) (e5 : w.2.1 125 = v.2.1 125) (e60 : w.1 60 = v.1 60) : MrI u w f l m N d' := ⟨g, h.2.1.ext h.1.1.1.1 hE e6 e3 e4 e5, e6.trans h.2.2.1, e3.trans h.2.2.2.1, e60.trans h.2.2.2.2⟩
theorem MrI.gp {u v w : iST} {f l m d c : Int} {N : Nat} (hu : TI u) (h : MrI u v f l m N d) (g : GP v w c) : MrI u w f l m N (d + c) := h.ext (h.1.gp hu g) g.2.1 (fx_s g.2.2.1 126 rfl) (fx_a g.2.2.1 123 rfl) (fx_a g.2.2.1 124 rfl) (fx_a g.2.2.1 125 rfl) (fx_s g.2.2.1 60 rfl)
theorem MrI.put {u v w : iST} {f l m d : Int} {N : Nat} (hu : TI u) (h : MrI u v f l m N d) (hF : Fx fD v w) (hL : w.2.2 = v.2.2) : MrI u w f l m N d ∧ ExtT v w := by
  have hE : ExtT v w := ExtT.same (fun k hk => hF k (by simp [fD]; omega)) hL (SameF.of hF rfl rfl rfl rfl rfl)
  exact ⟨h.ext (h.1.put hu hF hL) hE (fx_s hF 126 rfl) (fx_a hF 123 rfl) (fx_a hF 124 rfl) (fx_a hF 125 rfl) (fx_s hF 60 rfl), hE⟩
def fZ2 (k : Nat) : Bool := (decide (72 ≤ k) && decide (k ≤ 78)) || decide (k = 130) || decide (k = 131) || decide (k = 140)
theorem fZ2_Z : ∀ k, fZ k = false → fZ2 k = false := fun k hk => by simp [fZ] at hk; simp [fZ2]; omega
theorem fFd_Z2 : ∀ k, fZ2 k = false → fFd k = false := fun k hk => by simp [fZ2] at hk; simp [fFd]; omega
theorem MrI.fz {u v w : iST} {f l m d : Int} {N : Nat} (hu : TI u) (h : MrI u v f l m N d) (hF : Fx fZ2 v w) (hL : w.2.2 = v.2.2) : MrI u w f l m N d ∧ ExtT v w := by
  obtain ⟨a, b⟩ := h.1.fz hu (hF.mono fZ2_Z) hL
  exact ⟨h.ext a b (fx_s hF 126 rfl) (fx_a hF 123 rfl) (fx_a hF 124 rfl) (fx_a hF 125 rfl) (fx_s hF 60 rfl), b⟩
theorem MrI.mono {u v : iST} {f l m d d' : Int} {N : Nat} (h : MrI u v f l m N d) (hd : d ≤ d') : MrI u v f l m N d' := ⟨h.1.mono hd (Int.le_refl _), h.2⟩
/-- the calls found in an end -/
def FoundOk (v : iST) (N : Nat) : Prop := 0 ≤ v.1 131 ∧ ∀ j, 0 ≤ j → j < v.1 131 → 0 ≤ v.2.1 130 j ∧ v.2.1 130 j < v.1 8 ∧ 0 ≤ v.2.1 0 (v.2.1 130 j) ∧ IsL v (v.2.1 1 (v.2.1 130 j)) N ∧ (∀ i, i < N → TJ v (el v (v.2.1 1 (v.2.1 130 j)) i)) ∧ sumS v (v.2.1 1 (v.2.1 130 j)) N ≤ 119 ∧ WJ v (v.2.1 130 j) ∧ sz v (v.2.1 130 j) = 1 + sumS v (v.2.1 1 (v.2.1 130 j)) N
theorem FoundOk.ext {v w : iST} {N : Nat} (hT : TI v) (hE : ExtT v w) (h1 : w.1 131 = v.1 131) (h2 : w.2.1 130 = v.2.1 130) (h : FoundOk v N) : FoundOk w N := by
  obtain ⟨a, b⟩ := h
  unfold FoundOk
  rw [h1, h2]
  refine ⟨a, fun j j0 j1 => ?_⟩
  obtain ⟨c0, c1, c2, c3, c4, c5, c6, c7⟩ := b j j0 j1
  have e := hE.1.2.1 _ c0 c1
  have := hE.1.1.1
  rw [e.1, e.2.1]
  exact ⟨c0, by omega, c2, c3.ext hT hE.1, fun i hi => by rw [el_ext hE.1 c3 i hi]; exact (c4 i hi).ext hT hE, by rw [sumS_xt hE c3 (AllE_of fun i hi => (c4 i hi).1)]; exact c5, c6.ext hT hE, by rw [sumS_xt hE c3 (AllE_of fun i hi => (c4 i hi).1), hE.szw c6.1]; exact c7⟩
theorem g_findOk {v : iST} {f p : Int} {N : Nat} {Q : iST → Prop} (hT : TI v) (hf2 : f ≠ 2) (hp : EndOk v f N p) (hq : ∀ w, Fx fFd v w → w.2.2 = v.2.2 → w.1 131 ≤ sz v p → FoundOk w N → (AllT v (Arg1 v f) p → sumF v (w.2.1 130) (w.1 131).toNat ≤ sz v p) → Q w) : w_find p f Q v := by
  have h120 := hp.1.2
  refine g_find (P := fun x => WJ v x ∧ AllT v (CallOk v f N) x) hT (fun x hx hc n hl i hi => ⟨WJ.hered hT x hx.1 hc n hl i hi, AllT.hered hT _ x hx.2 hc n hl i hi⟩) hp.1.1 ⟨hp.1, hp.2⟩ (by omega) fun w h1 h2 h3 h4 _ h5 => hq w h1 h2 h3 ⟨h4.1, fun j j0 j1 => ?_⟩ (fun z => h5 z hf2)
  obtain ⟨a, b, c, d⟩ := h4.2 j j0 j1
  have ht : ∀ k, k ≤ 11 → w.1 k = v.1 k ∧ w.2.1 k = v.2.1 k := fun k hk => h1 k (fFd_t k hk)
  have hE : ExtT v w := ExtT.same ht h2 (SameF.of h1 rfl rfl rfl rfl rfl)
  have r := b.r
  obtain ⟨aw, a⟩ := a
  obtain ⟨e1, e2⟩ := a.step.1 ⟨c, d⟩
  have s119 : sumS v (v.2.1 1 (w.2.1 130 j)) N ≤ 119 ∧ sz v (w.2.1 130 j) = 1 + sumS v (v.2.1 1 (w.2.1 130 j)) N := by
    obtain ⟨m, m6, ml, ma, ms⟩ := aw.1.call ⟨c, by rw [d]; exact hf2⟩
    have := IsL_uniq hT ml e1
    subst this
    have h2 := aw.2
    rw [ms] at h2 ⊢
    unfold capS at h2 ⊢
    split at h2
    · omega
    · next hh => rw [if_neg hh]; omega
  rw [(ht 0 (by decide)).2, (ht 1 (by decide)).2, (ht 8 (by decide)).1]
  exact ⟨r.1, r.2, c, e1.ext hT hE.1, fun i hi => by rw [el_ext hE.1 e1 i hi]; exact (e2 i hi).ext hT hE, by rw [sumS_xt hE e1 (AllE_of fun i hi => (e2 i hi).1)]; exact s119.1, aw.ext hT hE, by rw [sumS_xt hE e1 (AllE_of fun i hi => (e2 i hi).1), hE.szw aw.1]; exact s119.2⟩
theorem g_measureRows {f l m : Int} {N : Nat} {Q : iST → Prop} {u : iST} (hW : WI u) (hf2 : f ≠ 2) (hp : PathsOk u f N) (h117 : u.1 117 = 0) (hl : IsL u l N) (l0 : 0 ≤ l) (l1 : l < u.1 8) (hN : N ≤ 6) (hm : TJ u m) (hS : sumT u (u.2.1 123) (u.1 126).toNat ≤ 120) (h8 : u.1 8 + 38400 ≤ 452000) (hq : ∀ v, Ly u v 38400 0 → v.1 117 ≤ 120 → v.1 60 = u.1 60 → Q v) : w_measureRows f l m Q u := by
  have hT := hW.1.1
  have um := hT.2.1
  have h40 := hp.2.1
  have endj : ∀ j : Nat, (j : Int) < u.1 126 → 0 ≤ sz u (u.2.1 123 j) := fun j hj => by
    have := ((hp.2.2 j (by omega) hj).1.1.1).szr hT
    omega
  have Smono : ∀ (a b : Nat), a ≤ b → (b : Int) ≤ u.1 126 → sumT u (u.2.1 123) a ≤ sumT u (u.2.1 123) b := fun a b h1 h2 => sumT_mono h1 (fun j hj => endj j (by omega))
  have S0 : ∀ a : Nat, (a : Int) ≤ u.1 126 → 0 ≤ sumT u (u.2.1 123) a := fun a ha => Smono 0 a (by omega) ha
  have SU : ∀ a : Nat, (a : Int) ≤ u.1 126 → sumT u (u.2.1 123) a ≤ 120 := fun a ha => by
    have := Smono a (u.1 126).toNat (by omega) (by have := hp.1; omega)
    omega
  unfold w_measureRows
  refine s_lengthOf hT l0 l1 (fun hno => absurd hl (hno N)) fun n _ hn => ?_
  have := IsL_uniq hT hn hl
  subst this
  unfold w_measureRows_10
  refine lf5 (B := fun R x1 x2 x3 x4 x5 u => w_measureRows_10b R Q x1 x2 x3 x4 x5 u) (fun x1 x2 x3 x4 x5 v => f = x1 ∧ l = x2 ∧ m = x3 ∧ (n : Int) = x4 ∧ ∃ p : Nat, x5 = p ∧ MrI u v f l m n (320 * sumT u (u.2.1 123) p) ∧ (p : Int) ≤ u.1 126 ∧ v.1 117 ≤ sumT u (u.2.1 123) p) (fun _ _ _ _ x5 _ => (u.1 126 - x5).toNat) ?_ ⟨rfl, rfl, rfl, rfl, 0, rfl, ⟨⟨hW, (SP.rf hW).mono (by show (0 : Int) ≤ 320 * 0; omega) (Int.le_refl _), by omega, fun r r0 r1 => by omega⟩, hp, rfl, rfl, rfl⟩, by have := hp.1; omega, by show u.1 117 ≤ 0; omega⟩
  · intro x1 x2 x3 x4 x5 v hI R ih
    obtain ⟨q1, q2, q3, q4, p, rfl, q5, q6, q7⟩ := hI
    subst q1
    subst q2
    subst q3
    subst q4
    have vW := q5.1.1
    have vT := vW.1.1
    have vm := vT.2.1
    have e126 := q5.2.2.1
    unfold w_measureRows_10b
    refine rd_i fun _ => br_i (fun _ => hq v (q5.1.mono (by have := SU p q6; omega) (Int.le_refl _)) (by have := SU p q6; omega) q5.2.2.2.2) fun hlt => bd_i (by omega) (by have := hp.2.1; omega) (rd_i fun _ => ?_)
    have hpp := q5.2.1.2.2 p (by omega) (by omega)
    refine g_findOk vT hf2 hpp.1 fun w w1 w2 w3 w4 _ => ?_
    have esz : sz v (v.2.1 123 p) = sz u (u.2.1 123 p) := by
      rw [q5.2.2.2.1]
      exact q5.1.2.1.2.1.szw (hp.2.2 p (by omega) (by omega)).1.1.1
    have snext : sumT u (u.2.1 123) (p + 1) = sumT u (u.2.1 123) p + sz u (u.2.1 123 p) := rfl
    have sU := SU (p + 1) (by omega)
    have s00 := S0 p (by omega)
    rw [esz] at w3
    obtain ⟨wI, wE⟩ := q5.fz hT (w1.mono fFd_Z2) w2
    unfold w_measureRows_34
    refine lf6 (B := fun R34 x1 x2 x3 x4 x5 x6 u => w_measureRows_34b R R34 Q x1 x2 x3 x4 x5 x6 u) (fun y1 y2 y3 y4 y5 y6 z => f = y1 ∧ l = y2 ∧ m = y3 ∧ (n : Int) = y4 ∧ (p : Int) = y5 ∧ 0 ≤ y6 ∧ y6 ≤ w.1 131 ∧ MrI u z f l m n (320 * (sumT u (u.2.1 123) p + y6)) ∧ z.1 117 ≤ sumT u (u.2.1 123) p + y6 ∧ FoundOk z n ∧ z.1 131 = w.1 131) (fun _ _ _ _ _ y6 _ => (w.1 131 - y6).toNat) ?_ ⟨rfl, rfl, rfl, rfl, rfl, Int.le_refl _, w4.1, wI.mono (by omega), by rw [fx_s w1 117 rfl]; omega, w4, rfl⟩
    intro y1 y2 y3 y4 y5 y6 z hI2 R34 ih2
    obtain ⟨r1, r2, r3, r4, r5, r6, r7, r8, r9, r10, r11⟩ := hI2
    subst r1
    subst r2
    subst r3
    subst r4
    subst r5
    have zT := r8.1.1.1.1
    have zm := zT.2.1
    have nx : ∀ z' : iST, MrI u z' f l m n (320 * (sumT u (u.2.1 123) p + y6)) → z'.1 117 ≤ sumT u (u.2.1 123) p + y6 → ov ((p : Int) + 1) (R f l m n ((p : Int) + 1) z') := fun z' h1 h2 => ov_i (by omega) (by omega) (ih _ _ _ _ _ _ ⟨rfl, rfl, rfl, rfl, p + 1, by omega, h1.mono (by omega), by omega, by omega⟩ (by omega))
    unfold w_measureRows_34b
    refine rd_i fun _ => br_i (fun _ => nx z r8 r9) fun hlt2 => rd_i fun _ => br_i (fun _ => nx z r8 r9) fun _ => sw_i ?_
    obtain ⟨hd1, hE1⟩ := r8.put hT (Fx_I (k := 122) rfl : Fx fD z (iI z 122 0)) rfl
    have F1 : FoundOk (iI z 122 0) n := r10.ext zT hE1 rfl rfl
    have hrul := r8.2.1.2.2 p (by omega) (by rw [r8.2.2.1]; omega)
    unfold w_measureRows_58
    refine lf7 (B := fun R58 x1 x2 x3 x4 x5 x6 x7 u => w_measureRows_58b R R34 R58 Q x1 x2 x3 x4 x5 x6 x7 u) (fun c1 c2 c3 c4 c5 c6 c7 a => f = c1 ∧ l = c2 ∧ m = c3 ∧ (n : Int) = c4 ∧ (p : Int) = c5 ∧ y6 = c6 ∧ 0 ≤ c7 ∧ c7 ≤ z.2.1 125 p ∧ MrI u a f l m n (320 * (sumT u (u.2.1 123) p + y6) + 2 * c7) ∧ a.1 117 = z.1 117 ∧ FoundOk a n ∧ a.1 131 = w.1 131 ∧ a.1 122 ≤ c7 ∧ a.2.1 125 = z.2.1 125 ∧ DR a) (fun _ _ _ _ _ _ c7 _ => (z.2.1 125 p - c7).toNat) ?_ ⟨rfl, rfl, rfl, rfl, rfl, rfl, Int.le_refl _, hrul.2.1, hd1.mono (by omega), rfl, F1, r11, Int.le_refl _, rfl, DR.none z⟩
    intro c1 c2 c3 c4 c5 c6 c7 a hI3 R58 ih3
    obtain ⟨s1, s2, s3, s4, s5, s6, s7, s8, s9, s10, s11, s12, s13, s14, s15⟩ := hI3
    subst s1
    subst s2
    subst s3
    subst s4
    subst s5
    subst s6
    have aW := s9.1.1
    have aT := aW.1.1
    have a8 : a.1 8 ≤ u.1 8 + (320 * (sumT u (u.2.1 123) p + y6) + 2 * c7) := by
      have := s9.1.2.1.2.2.2.2.2.2.2.1
      have e60 := s9.2.2.2.2
      omega
    have r39 := hrul.2.2.1
    unfold w_measureRows_58b
    refine bd_i (by omega) (by omega) (rd_i fun _ => ?_)
    rw [s14]
    refine br_i (fun hle => sw_i ?_) (fun hlt3 => ov_i (by omega) (by omega) (ov_i (by omega) (by omega) (bd_i (by omega) (by omega) (rd_i fun _ => ?_))))
    · -- the terms of the call
      obtain ⟨gI, gE⟩ := s9.fz hT (Fx_I (k := 74) rfl : Fx fZ2 a (iI a 74 n)) rfl
      have gF : FoundOk (iI a 74 n) n := s11.ext aT gE rfl rfl
      have g131 : (iI a 74 n).1 131 = w.1 131 := s12
      have g117 : (iI a 74 n).1 117 = z.1 117 := s10
      have g122 : (iI a 74 n).1 122 ≤ c7 := s13
      have g74 : (iI a 74 n).1 74 = n := rfl
      have g8 : (iI a 74 n).1 8 = a.1 8 := rfl
      have gD : DR (iI a 74 n) := s15.fz aT gE (Fx_I (k := 74) rfl)
      generalize iI a 74 n = g at *
      unfold w_measureRows_106
      refine lf7 (B := fun R106 x1 x2 x3 x4 x5 x6 x7 u => w_measureRows_106b R R34 R106 Q x1 x2 x3 x4 x5 x6 x7 u) (fun d1 d2 d3 d4 d5 d6 d7 b => f = d1 ∧ l = d2 ∧ m = d3 ∧ (n : Int) = d4 ∧ (p : Int) = d5 ∧ y6 = d6 ∧ 0 ≤ d7 ∧ d7 ≤ n ∧ MrI u b f l m n (320 * (sumT u (u.2.1 123) p + y6) + 2 * c7) ∧ b.1 117 = z.1 117 ∧ FoundOk b n ∧ b.1 131 = w.1 131 ∧ b.1 122 ≤ c7 ∧ b.1 74 = n ∧ b.1 8 = a.1 8 ∧ (∀ i, 0 ≤ i → i < d7 → IsT b (b.2.1 73 i)) ∧ DR b) (fun _ _ _ _ _ _ d7 _ => (n - d7).toNat) ?_ ⟨rfl, rfl, rfl, rfl, rfl, rfl, Int.le_refl _, by omega, gI, g117, gF, g131, g122, g74, g8, fun i i0 i1 => by omega, gD⟩
      intro d1 d2 d3 d4 d5 d6 d7 b hI4 R106 ih4
      obtain ⟨t1, t2, t3, t4, t5, t6, t7, t8, t9, t10, t11, t12, t13, t14, t15, t16, t17⟩ := hI4
      subst t1
      subst t2
      subst t3
      subst t4
      subst t5
      subst t6
      have bW := t9.1.1
      have bG := bW.1
      have bT := bG.1
      have bE : ExtT u b := t9.1.2.1.2.1
      unfold w_measureRows_106b
      refine br_i (fun hle2 => ?_) (fun hlt4 => ?_)
      · have hmb : TJ b m := hm.ext hT bE
        have msz : sz b m = sz u m := bE.szx hm.1
        have hm2 := hm.2
        have hsub : SubOk b := ⟨by omega, by omega, fun i i0 i1 => t16 i i0 (by omega)⟩
        refine g_inst bG hmb.1 hmb.2 hsub (by omega) fun t y y1 y2 y3 _ _ => ?_
        have yI := t9.gp hT y1
        have y8 := y1.2.2.2.2.2.1
        refine g_made2 yI.1.1.1 y2 (hmb.1.ext bT y1.2.1) (by decide) (by decide) (by omega) fun t' e hv _ _ => ?_
        obtain ⟨e1, e2, e3, _, _, _, _⟩ := hv
        have eI := yI.gp hT e1
        have e122 : e.1 122 ≤ c7 := by rw [fx_s e1.2.2.1 122 rfl, fx_s y1.2.2.1 122 rfl]; exact t13
        have e117 : e.1 117 = z.1 117 := by rw [fx_s e1.2.2.1 117 rfl, fx_s y1.2.2.1 117 rfl]; exact t10
        have eF : FoundOk e n := (t11.ext bT y1.2.1 (fx_s y1.2.2.1 131 rfl) (fx_a y1.2.2.1 130 rfl)).ext y1.1 e1.2.1 (fx_s e1.2.2.1 131 rfl) (fx_a e1.2.2.1 130 rfl)
        have e131 : e.1 131 = w.1 131 := by rw [fx_s e1.2.2.1 131 rfl, fx_s y1.2.2.1 131 rfl]; exact t12
        refine g_put e1.1 ((t17.gp bT y1).gp y1.1 e1) (by omega) e2 e3 fun k k1 k2 k3 k4 => ?_
        obtain ⟨kI, kE⟩ := eI.put hT k1 k2
        have k117 : k.1 117 = z.1 117 := by rw [fx_s k1 117 rfl]; exact e117
        have z117 := r8.1.2.2.1
        refine g_row kI.1.1.1.1 k3 (by omega) (by omega) (by omega) kI.1.2.2.2 (Int.le_refl _) (by decide) fun rr h j1 j2 j3 j4 _ => ov_i (by omega) (by omega) ?_
        have hLy := kI.1.row hT j1 j2 j3 j4
        have hEk : ExtT k h := ExtT.same (fun q hq => j1 q (by simp [fW]; omega)) j2 (SameF.of j1 rfl rfl rfl rfl rfl)
        have hI' : MrI u h f l m n _ := kI.ext hLy hEk (fx_s j1 126 rfl) (fx_a j1 123 rfl) (fx_a j1 124 rfl) (fx_a j1 125 rfl) (fx_s j1 60 rfl)
        refine ih2 _ _ _ _ _ _ _ ⟨rfl, rfl, rfl, rfl, rfl, by omega, by omega, hI'.mono (by omega), by omega, ?_, ?_⟩ (by omega)
        · exact (eF.ext e1.1 kE (fx_s k1 131 rfl) (fx_a k1 130 rfl)).ext kI.1.1.1.1 hEk (fx_s j1 131 rfl) (fx_a j1 130 rfl)
        · rw [fx_s j1 131 rfl, fx_s k1 131 rfl]; exact e131
      · have hlb : IsL b l n := hl.ext hT bE.1
        have lb : l < b.1 8 := by have := bE.1.1.1; omega
        refine s_nth bT l0 lb t7 (by omega) (bd_i t7 (by omega) (sw_i (bd_i r6 (by omega) (rd_i fun _ => ov_i (by omega) (by omega) ?_))))
        generalize hv1 : iA b 72 d7 (el b l d7.toNat) = b1
        have F1 : Fx fZ2 b b1 := by rw [← hv1]; exact Fx_A (k := 72) rfl
        have L1 : b1.2.2 = b.2.2 := by rw [← hv1]; rfl
        have N1 : b1.1 = b.1 := by rw [← hv1]; rfl
        have A1 : ∀ g, g ≠ 72 → b1.2.1 g = b.2.1 g := fun g hg => by rw [← hv1]; exact iA_other hg
        obtain ⟨I1, E1⟩ := t9.fz hT F1 L1
        have Fo1 : FoundOk b1 n := t11.ext bT E1 (by rw [N1]) (A1 130 (by decide))
        obtain ⟨x0, x1, x2, x3, x4, _, _, _⟩ := Fo1.2 y6 r6 (by rw [N1]; omega)
        generalize hx : b1.2.1 130 y6 = x at *
        refine s_term I1.1.1.1.1 x0 x1 (by omega) (by omega) ?_
        have eel : el b1 x (d7 + 1).toNat = el b1 (b1.2.1 1 x) d7.toNat := by
          rw [show (d7 + 1).toNat = d7.toNat + 1 from by omega, el_succ]
        rw [eel]
        have htj := x4 d7.toNat (by omega)
        generalize hy : el b1 (b1.2.1 1 x) d7.toNat = y at *
        refine bd_i t7 (by omega) (sw_i (ov_i (by omega) (by omega) ?_))
        generalize hv2 : iA b1 73 d7 y = b2
        have F2 : Fx fZ2 b1 b2 := by rw [← hv2]; exact Fx_A (k := 73) rfl
        have L2 : b2.2.2 = b1.2.2 := by rw [← hv2]; rfl
        have N2 : b2.1 = b1.1 := by rw [← hv2]; rfl
        have A2 : ∀ g, g ≠ 73 → b2.2.1 g = b1.2.1 g := fun g hg => by rw [← hv2]; exact iA_other hg
        have B2 : ∀ j, b2.2.1 73 j = if j = d7 then y else b1.2.1 73 j := fun j => by rw [← hv2]; exact iA_same
        obtain ⟨I2, E2⟩ := I1.fz hT F2 L2
        have Fo2 : FoundOk b2 n := Fo1.ext I1.1.1.1.1 E2 (by rw [N2]) (A2 130 (by decide))
        refine ih4 _ _ _ _ _ _ _ _ ⟨rfl, rfl, rfl, rfl, rfl, rfl, by omega, by omega, I2, by rw [N2, N1]; exact t10, Fo2, by rw [N2, N1]; exact t12, by rw [N2, N1]; exact t13, by rw [N2, N1]; exact t14, by rw [N2, N1]; exact t15, fun i i0 i1 => ?_, ?_⟩ (by omega)
        · rw [B2]
          split
          · exact htj.1.ext I1.1.1.1.1 E2
          · rw [A1 73 (by decide)]
            exact (t16 i i0 (by omega)).ext bT (E1.tr bT E2)
        · exact (t17.fz bT E1 (F1.mono fZ2_Z)).fz I1.1.1.1.1 E2 (F2.mono fZ2_Z)
    · have hru := s9.2.1.2.2 p (by omega) (by rw [s9.2.2.1]; omega)
      have htj := hru.2.2.2.1 c7 s7 (by rw [s14]; omega)
      refine g_notOf aW.1 htj.1 (fun _ => htj.2) (by omega) fun t y y1 y2 y3 _ _ _ => ?_
      have yI := s9.gp hT y1
      have y122 : y.1 122 ≤ c7 := by rw [fx_s y1.2.2.1 122 rfl]; exact s13
      refine g_put y1.1 (s15.gp aT y1) (by omega) y2 y3 fun k k1 k2 k3 k4 => ov_i (by omega) (by omega) ?_
      obtain ⟨kI, kE⟩ := yI.put hT k1 k2
      refine ih3 _ _ _ _ _ _ _ _ ⟨rfl, rfl, rfl, rfl, rfl, rfl, by omega, by omega, kI.mono (by omega), ?_, ?_, ?_, by omega, ?_, k3⟩ (by omega)
      · rw [fx_s k1 117 rfl, fx_s y1.2.2.1 117 rfl]; exact s10
      · exact (s11.ext aT y1.2.1 (fx_s y1.2.2.1 131 rfl) (fx_a y1.2.2.1 130 rfl)).ext y1.1 kE (fx_s k1 131 rfl) (fx_a k1 130 rfl)
      · rw [fx_s k1 131 rfl, fx_s y1.2.2.1 131 rfl]; exact s12
      · rw [fx_a k1 125 rfl, fx_a y1.2.2.1 125 rfl]; exact s14
