/-! what a row costs: at most four objects a size, as long as it is not too big -/
def ExN (v : iST) (x : Int) : Prop := ∃ t, 0 ≤ t ∧ t < v.1 8 ∧ v.2.1 0 t = 15 ∧ v.2.1 0 (v.2.1 1 t) = x ∧ v.2.1 1 (v.2.1 1 t) = 0 ∧ 0 ≤ x
noncomputable def nx (v : iST) (x : Int) : Int := @ite Int (ExN v x) (Classical.propDecidable _) (4 * sz v x + 4) (2 * sz v x + 2)
noncomputable def NX (v : iST) : Nat → Int
  | 0 => 0
  | n + 1 => NX v n + nx v (v.2.1 121 (n : Int))
theorem nx_y {v : iST} {x : Int} (h : ExN v x) : nx v x = 4 * sz v x + 4 := by unfold nx; rw [if_pos h]
theorem nx_n {v : iST} {x : Int} (h : ¬ ExN v x) : nx v x = 2 * sz v x + 2 := by unfold nx; rw [if_neg h]
theorem nx_r {v : iST} (x : Int) (h : 0 ≤ sz v x) : 2 * sz v x + 2 ≤ nx v x ∧ nx v x ≤ 4 * sz v x + 4 := by
  by_cases e : ExN v x
  · rw [nx_y e]; omega
  · rw [nx_n e]; omega
theorem ExN.ext {u v : iST} (hT : TI u) (hE : Ext u v) {x : Int} (h : ExN u x) : ExN v x := by
  obtain ⟨t, t0, t1, t2, t3, t4, t5⟩ := h
  have p := hT.pair t0 t1 (by omega)
  have e := hE.2.1 t t0 t1
  have e2 := hE.2.1 _ p.2.1 (show u.2.1 1 t < u.1 8 by omega)
  have h8 := hE.1.1
  exact ⟨t, t0, by omega, by rw [e.1]; exact t2, by rw [e.2.1, e2.1]; exact t3, by rw [e.2.1, e2.2.1]; exact t4, t5⟩
theorem TI.uniq {u : iST} (hT : TI u) {j k : Int} (j0 : 0 ≤ j) (j1 : j < u.1 8) (k0 : 0 ≤ k) (k1 : k < u.1 8) (h : 0 ≤ u.2.1 0 j) (hl : u.2.1 0 k = u.2.1 0 j) (hr : u.2.1 1 k = u.2.1 1 j) : k = j := by
  have q := hT.2.2.2.2.2.2.2.2.2
  rcases Int.lt_trichotomy j k with z | z | z
  · exact absurd hr (q j k j0 z k1 h hl)
  · exact z.symm
  · exact absurd hr.symm (q k j k0 z j1 (by omega) hl.symm)
/-- a negation that is new: there was none before -/
theorem ExN.old {u v : iST} (hu : TI u) (hV : TI v) (hE : Ext u v) {t x : Int} (t0 : 0 ≤ t) (t1 : t < v.1 8) (h1 : v.2.1 0 t = 15) (h2 : v.2.1 0 (v.2.1 1 t) = x) (h3 : v.2.1 1 (v.2.1 1 t) = 0) (h : ExN u x) : t < u.1 8 := by
  obtain ⟨s, s0, s1, s2, s3, s4, s5⟩ := h
  have p := hu.pair s0 s1 (by omega)
  have e := hE.2.1 s s0 s1
  have e2 := hE.2.1 _ p.2.1 (show u.2.1 1 s < u.1 8 by omega)
  have h8 := hE.1.1
  have pt := hV.pair t0 t1 (by omega)
  have c : v.2.1 1 t = u.2.1 1 s := hV.uniq (j := u.2.1 1 s) (k := v.2.1 1 t) p.2.1 (by omega) pt.2.1 (by omega) (by rw [e2.1, s3]; exact s5) (by rw [h2, e2.1, s3]) (by rw [h3, e2.2.1, s4])
  have d : t = s := hV.uniq (j := s) (k := t) s0 (by omega) t0 t1 (by rw [e.1]; omega) (by rw [h1, e.1, s2]) (by rw [c, e.2.1])
  omega
theorem nx_ext {u v : iST} (hT : TI u) (hE : ExtT u v) {x : Int} (hx : IsT u x) : nx u x ≤ nx v x := by
  have hs := hx.szr hT
  have es := hE.szx hx
  by_cases e : ExN u x
  · rw [nx_y e, nx_y (e.ext hT hE.1), es]; omega
  · rw [nx_n e]
    have := (nx_r (v := v) x (by omega)).1
    omega
theorem NX_ext {u v : iST} (hT : TI u) (hE : ExtT u v) : ∀ (n : Nat), (∀ i : Nat, i < n → IsT u (u.2.1 121 i) ∧ v.2.1 121 i = u.2.1 121 i) → NX u n ≤ NX v n
  | 0, _ => Int.le_refl _
  | n + 1, h => by
    have h1 := NX_ext hT hE n (fun i hi => h i (by omega))
    obtain ⟨a, b⟩ := h n (by omega)
    have h2 := nx_ext hT hE a
    show NX u n + nx u (u.2.1 121 (n : Int)) ≤ NX v n + nx v (v.2.1 121 (n : Int))
    rw [b]
    omega
/-- one of them has grown by at least k -/
theorem NX_grow {u v : iST} (hT : TI u) (hE : ExtT u v) {k : Int} : ∀ (n : Nat), (∀ i : Nat, i < n → IsT u (u.2.1 121 i) ∧ v.2.1 121 i = u.2.1 121 i) → (∃ i : Nat, i < n ∧ nx u (u.2.1 121 i) + k ≤ nx v (u.2.1 121 i)) → NX u n + k ≤ NX v n
  | 0, _, ⟨i, hi, _⟩ => by omega
  | n + 1, h, ⟨i, hi, hk⟩ => by
    obtain ⟨a, b⟩ := h n (by omega)
    have h2 := nx_ext hT hE a
    show NX u n + nx u (u.2.1 121 (n : Int)) + k ≤ NX v n + nx v (v.2.1 121 (n : Int))
    rw [b]
    by_cases e : i = n
    · subst e
      have h1 := NX_ext hT hE i (fun j hj => h j (by omega))
      omega
    · have h1 := NX_grow hT hE n (fun j hj => h j (by omega)) ⟨i, by omega, hk⟩
      omega
theorem NX_le {u : iST} (hT : TI u) : ∀ (n : Nat), (∀ i : Nat, i < n → IsT u (u.2.1 121 i)) → 0 ≤ NX u n ∧ NX u n ≤ 4 * sumT u (u.2.1 121) n + 4 * n
  | 0, _ => ⟨Int.le_refl _, by show (0 : Int) ≤ 4 * 0 + 4 * ((0 : Nat) : Int); omega⟩
  | n + 1, h => by
    have h1 := NX_le hT n (fun i hi => h i (by omega))
    have hs := (h n (by omega)).szr hT
    have h2 := nx_r (v := u) (u.2.1 121 (n : Int)) (by omega)
    constructor
    · show 0 ≤ NX u n + nx u (u.2.1 121 (n : Int))
      omega
    · show NX u n + nx u (u.2.1 121 (n : Int)) ≤ 4 * (sumT u (u.2.1 121) n + sz u (u.2.1 121 (n : Int))) + 4 * ((n + 1 : Nat) : Int)
      omega
theorem g_putS {x : Int} {Q : iST → Prop} {u : iST} (hd : DR u) (h : u.1 122 < 1200) (hq0 : ∀ i : Nat, (i : Int) < u.1 122 → u.2.1 121 i = x → Q u) (hq : Q (iI (iA u 121 (u.1 122) x) 122 (u.1 122 + 1))) : w_put x Q u := by
  unfold w_put w_put_2
  refine lf2 (B := fun R x1 x2 u => w_put_2b R Q x1 x2 u) (fun x1 x2 v => v = u ∧ x1 = x ∧ 0 ≤ x2) (fun _ x2 _ => (1200 - x2).toNat) ?_ ⟨rfl, rfl, Int.le_refl _⟩
  intro x1 x2 v hI R ih
  obtain ⟨rfl, rfl, p1⟩ := hI
  have d0 := hd.1
  unfold w_put_2b
  exact rd_i fun _ => br_i (fun _ => rd_i fun _ => bd_i d0 h (sw_i (rd_i fun _ => ov_i (show -2147483648 ≤ v.1 122 + 1 by omega) (show v.1 122 + 1 < 2147483648 by omega) (sw_i hq)))) fun hc => bd_i p1 (by omega) (rd_i fun _ => br_i (fun _ => ov_i (by omega) (by omega) (ih _ _ _ ⟨rfl, rfl, by omega⟩ (by omega))) fun he => hq0 x2.toNat (by omega) (by rw [show (x2.toNat : Int) = x2 from by omega]; omega))
theorem g_notOfS {o : Int} {Q : Int → iST → Prop} {u : iST} (hG : GI u) (ho : IsT u o) (hs : Sm u o) (h8 : u.1 8 + 2 ≤ 452000) (hqA : u.2.1 0 o = 15 → IsT u (u.2.1 0 (u.2.1 1 o)) → Sm u (u.2.1 0 (u.2.1 1 o)) → u.2.1 1 (u.2.1 1 o) = 0 → sz u o ≤ sz u (u.2.1 0 (u.2.1 1 o)) + 1 → Q (u.2.1 0 (u.2.1 1 o)) u) (hqB : sz u o = 1 → ∀ t, IsT u t → Sm u t → Q t u) (hqC : ∀ t v, MP u 15 1 (sz u o) t v → el v (v.2.1 1 t) 0 = o → Q t v) : w_notOf o Q u := by
  have hT := hG.1
  have h44 := hT.1
  have hm := hT.2.1
  have hr := ho.r
  have hsz := ho.szr hT
  have sym : ∀ k, 0 ≤ k → k < 44 → IsT u k ∧ Sm u k := fun k k0 k1 => by
    have h9 := hT.2.2.2.2.2.2.2.2.1 k k0 k1
    exact ⟨IsT.mk ⟨k0, by omega, Or.inl (by omega)⟩, fun _ => by unfold sz; rw [if_neg (by omega)]; decide⟩
  unfold w_notOf
  refine s_isCallOf hr.1 (by omega) fun r _ hr2 => br_i (fun hz => br_i (fun hne => ?_) (fun he => ?_)) (fun hz => ?_)
  · refine s_isConstant hT hr.1 hr.2 fun r3 _ hr3 => br_i (fun hnc => ?_) (fun hcc => ?_)
    · exact g_made1 hG ho (by decide) (by decide) (by omega) fun t v hv he => hqC t v hv he
    · have s0 := sym 0 (by decide) (by decide)
      exact hqB (sz_cst hT (hr3.mp hcc)) 0 s0.1 s0.2
  · have s1 := sym 1 (by decide) (by decide)
    exact hqB (sz_cst hT (Or.inr (Or.inl (by omega)))) 1 s1.1 s1.2
  · obtain ⟨q1, q2⟩ := hr2.mp hz
    obtain ⟨b1, b2, b3⟩ := ho.base (n := 1) (by omega) (by omega) (Or.inr (Or.inr ⟨by omega, rfl⟩))
    have p1 := hT.pair hr.1 hr.2 q1
    have ht := b2.1
    have htr := ht.szr hT
    have esum : sumS u (u.2.1 1 o) 1 = sz u (u.2.1 0 (u.2.1 1 o)) := by show sz u (u.2.1 0 (u.2.1 1 o)) + 0 = _; omega
    have hle : sz u (u.2.1 0 (u.2.1 1 o)) ≤ sz u o ∧ sz u o ≤ sz u (u.2.1 0 (u.2.1 1 o)) + 1 := by
      rw [b3, esum]; unfold capS; split <;> omega
    refine bd_i hr.1 (by omega) (rd_i fun _ => bd_i p1.2.1 (by omega) (rd_i fun _ => hqA q2 ht (fun z => ?_) b1.2.2.2 hle.2))
    have := hs z
    omega
/-- objects counted against the draft -/
def DNi (b : Int) (v : iST) (E : Int) : Prop := v.1 61 = 0 → v.1 8 ≤ b + E + NX v (v.1 122).toNat
theorem DR.dr {v : iST} (h : DR v) : ∀ i : Nat, i < (v.1 122).toNat → IsT v (v.2.1 121 i) := fun i hi => (h.2 i (by omega) (by omega)).1
theorem DNi.keep {b E c : Int} {v w : iST} (hT : TI v) (hE : ExtT v w) (hd : DR v) (h2 : w.1 122 = v.1 122) (h1 : w.2.1 121 = v.2.1 121) (h6 : w.1 61 = 0 → v.1 61 = 0) (h8 : w.1 8 ≤ v.1 8 + c) (h : DNi b v E) : DNi b w (E + c) := by
  intro z
  have a := h (h6 z)
  have n := NX_ext hT hE (v.1 122).toNat (fun i hi => ⟨hd.dr i hi, by rw [h1]⟩)
  rw [h2]
  omega
theorem DNi.mono {b E E' : Int} {v : iST} (h : DNi b v E) (he : E ≤ E') : DNi b v E' := fun z => by have := h z; omega
/-- the negation of an instance is put: what it costs -/
theorem g_putNot {x b E : Int} {Q : iST → Prop} {a : iST} (hG : GI a) (hx : TJ a x) (hsub : SubOk a) (hd : DR a) (h122 : a.1 122 < 1200) (h8 : a.1 8 + 242 ≤ 452000) (hN : DNi b a E) (hq : ∀ w y, GP a w 241 → Fx fD w y → y.2.2 = w.2.2 → DR y → y.1 122 ≤ a.1 122 + 1 → DNi b y (E + 1) → Q y) : w_instance x (fun v28 u => w_notOf v28 (fun v29 u => w_put v29 (fun u => Q u) u) u) a := by
  have aT := hG.1
  have xs := hx.1.szr aT
  have xs2 := hx.2
  refine g_inst hG hx.1 hx.2 hsub (by omega) fun t y hy ht hts hsz hold => ?_
  have yG := hy.gi hG
  have yT := hy.1
  have yE := hy.2.1
  have y8 := hy.2.2.2.2.2.1
  have ya := yE.1.1.1
  have dy := hd.gp aT hy
  have yF := hy.2.2.1
  have y122 : y.1 122 = a.1 122 := fx_s yF 122 rfl
  have y121 : y.2.1 121 = a.2.1 121 := fx_a yF 121 rfl
  have tsz := ht.szr yT
  have tr := ht.r
  -- what put leaves
  have fin : ∀ (t' : Int) (z : iST), GP a z 241 → DR z → z.1 122 = a.1 122 → z.2.1 121 = a.2.1 121 → IsT z t' → Sm z t' → (z.1 61 = 0 → (∃ i : Nat, (i : Int) < a.1 122 ∧ a.2.1 121 i = t') → z.1 8 + NX a (a.1 122).toNat ≤ a.1 8 + 1 + NX z (a.1 122).toNat) → (z.1 61 = 0 → z.1 8 + NX a (a.1 122).toNat ≤ a.1 8 + 1 + NX z (a.1 122).toNat + nx z t') → w_put t' (fun u => Q u) z := by
    intro t' z hz dz e122 e121 ht' hs' c1 c2
    refine g_putS dz (by omega) (fun i hi he => ?_) ?_
    · refine hq z z hz (Fx.rf _ _) rfl dz (by omega) (fun q => ?_)
      have h1 := c1 q ⟨i, by omega, by rw [← e121]; exact he⟩
      have h2 := hN (hz.w0 q)
      rw [e122]
      omega
    · have hF : Fx fD z (iI (iA z 121 (z.1 122) t') 122 (z.1 122 + 1)) := (Fx_A (k := 121) rfl).tr (Fx_I (k := 122) rfl)
      have hE : ExtT z (iI (iA z 121 (z.1 122) t') 122 (z.1 122 + 1)) := ExtT.same (fun k hk => hF k (by simp [fD]; omega)) rfl (SameF.of hF rfl rfl rfl rfl rfl)
      have e : ∀ i, (iI (iA z 121 (z.1 122) t') 122 (z.1 122 + 1)).2.1 121 i = if i = z.1 122 then t' else z.2.1 121 i := fun i => iA_same
      have z1220 := dz.1
      refine hq z _ hz hF rfl ⟨show 0 ≤ z.1 122 + 1 by omega, fun i i0 i1 => ?_⟩ (show z.1 122 + 1 ≤ a.1 122 + 1 by omega) (fun q => ?_)
      · have i1 : i < z.1 122 + 1 := i1
        rw [e]
        by_cases ei : i = z.1 122
        · rw [if_pos ei]; exact ⟨ht'.ext hz.1 hE, hs'.of ht' hE rfl⟩
        · rw [if_neg ei]
          have hi := dz.2 i i0 (by omega)
          exact ⟨hi.1.ext hz.1 hE, hi.2.of hi.1 hE rfl⟩
      · have q : z.1 61 = 0 := q
        have h1 := c2 q
        have h2 := hN (hz.w0 q)
        have h3 := NX_ext hz.1 hE (z.1 122).toNat (fun i hi => ⟨dz.dr i hi, by rw [e, if_neg (by omega)]⟩)
        have h4 := nx_ext hz.1 hE ht'
        show z.1 8 ≤ b + (E + 1) + NX _ (z.1 122 + 1).toNat
        rw [show (z.1 122 + 1).toNat = (z.1 122).toNat + 1 from by omega]
        show z.1 8 ≤ b + (E + 1) + (NX _ (z.1 122).toNat + nx _ ((iI (iA z 121 (z.1 122) t') 122 (z.1 122 + 1)).2.1 121 ((z.1 122).toNat : Int)))
        rw [e, if_pos (by omega)]
        rw [e122] at h3 ⊢
        rw [e122] at h4
        omega
  have nyA : NX a (a.1 122).toNat ≤ NX y (a.1 122).toNat := NX_ext aT yE _ (fun i hi => ⟨hd.dr i hi, by rw [y121]⟩)
  have drA : ∀ i : Nat, (i : Int) < a.1 122 → a.2.1 121 i < a.1 8 := fun i hi => ((hd.2 i (by omega) hi).1.r).2
  refine g_notOfS yG ht hts (by omega) (fun h15 hx1 hx2 hnil hsz1 => ?_) (fun h1 t' ht' hs' => ?_) (fun t' z hz he => ?_)
  · -- it was a negation
    have x1s := hx1.szr yT
    refine fin _ y (hy.mono (by omega)) dy y122 y121 hx1 hx2 (fun q hin => ?_) (fun q => ?_)
    · by_cases ho : t < a.1 8
      · have := hold ho; omega
      · have hno : ¬ ExN a (y.2.1 0 (y.2.1 1 t)) := fun z => ho (ExN.old aT yT yE.1 tr.1 tr.2 h15 rfl hnil z)
        have hyes : ExN y (y.2.1 0 (y.2.1 1 t)) := ⟨t, tr.1, tr.2, h15, rfl, hnil, hx1.r.1⟩
        obtain ⟨i, i1, i2⟩ := hin
        have hi := (hd.2 i (by omega) i1).1
        have es := yE.szx hi
        have g := NX_grow (k := 2 * sz y (y.2.1 0 (y.2.1 1 t)) + 2) aT yE (a.1 122).toNat (fun i hi => ⟨hd.dr i hi, by rw [y121]⟩) ⟨i, by omega, by rw [i2] at es ⊢; rw [nx_n hno, nx_y hyes]; omega⟩
        omega
    · by_cases ho : t < a.1 8
      · have := hold ho
        have := (nx_r (v := y) (y.2.1 0 (y.2.1 1 t)) (by omega)).1
        omega
      · have := (nx_r (v := y) (y.2.1 0 (y.2.1 1 t)) (by omega)).1
        omega
  · -- a constant
    have t's := ht'.szr yT
    have := (nx_r (v := y) t' (by omega)).1
    exact fin t' y (hy.mono (by omega)) dy y122 y121 ht' hs' (fun _ _ => by omega) (fun _ => by omega)
  · obtain ⟨m1, m2, m3, m4, m5, m6, m7⟩ := hz
    have zT := m1.1
    have zE := m1.2.1
    have z8 := m1.2.2.2.2.2.1
    have zF := m1.2.2.1
    have tz := m2.r
    have zaE := yE.tr aT zE
    have z122 : z.1 122 = a.1 122 := by rw [fx_s zF 122 rfl]; exact y122
    have z121 : z.2.1 121 = a.2.1 121 := by rw [fx_a zF 121 rfl]; exact y121
    have nzA : NX a (a.1 122).toNat ≤ NX z (a.1 122).toNat := NX_ext aT zaE _ (fun i hi => ⟨hd.dr i hi, by rw [z121]⟩)
    have hza : GP a z 241 := (hy.tr aT m1).mono (by show 2 * sz a x - 1 + (((1 : Nat) : Int) + 1) ≤ 241; omega)
    have z8' : z.1 8 ≤ y.1 8 + 2 := z8
    have szt' : z.1 61 = 0 → sz z t' = 1 + sz y t := fun q => by
      have := m3 q
      rw [m5] at this ⊢
      unfold capS at this ⊢
      split at this <;> omega
    have tlt : t < t' := by
      have p := zT.pair tz.1 tz.2 (by omega)
      have e0 : z.2.1 0 (z.2.1 1 t') = t := he
      have l7 := m7
      have p2 := zT.pair l7.1 l7.2.1 l7.2.2.1
      omega
    refine fin t' z hza (dy.gp yT m1) z122 z121 m2 m3 (fun q hin => ?_) (fun q => ?_)
    · -- it was there before: nothing was made
      obtain ⟨i, i1, i2⟩ := hin
      have := drA i i1
      have h1 := hold (by omega)
      have h2 := m6 (by omega)
      omega
    · have h1 := szt' q
      have h2 := (nx_r (v := z) t' (by have := m2.szr zT; omega)).1
      by_cases ho : t < a.1 8
      · have := hold ho; omega
      · omega
