/-! the reader -/
theorem fx_s {n : Nat → Bool} {u v : iST} (h : Fx n u v) (k : Nat) (hk : n k = false) : v.1 k = u.1 k := (h k hk).1
theorem fx_a {n : Nat → Bool} {u v : iST} (h : Fx n u v) (k : Nat) (hk : n k = false) : v.2.1 k = u.2.1 k := (h k hk).2
theorem g_list2 {l r : Int} {Q : Int → iST → Prop} {u : iST} (hT : TI u) (hn : u.1 8 < 451999) (l0 : 0 ≤ l) (l1 : l < u.1 8) (r0 : 0 ≤ r) (r1 : r < u.1 8)
    (hq : ∀ k v, Grow u v 2 0 → 0 ≤ k → k < v.1 8 → v.2.1 0 k = l → 0 ≤ v.2.1 1 k → v.2.1 0 (v.2.1 1 k) = r → v.2.1 1 (v.2.1 1 k) = 0 → (∀ j, 0 ≤ j → j < u.1 8 → u.2.1 0 j = l → 0 ≤ u.2.1 1 j → u.2.1 1 j < u.1 8 → u.2.1 0 (u.2.1 1 j) = r → u.2.1 1 (u.2.1 1 j) = 0 → v = u ∧ k = j) → Q k v) : w_list2 l r Q u := by
  have h8 := hT.1
  unfold w_list2 w_list1
  refine g_pair hT (by omega) r0 r1 (by omega) (by omega) fun k v hg k0 k1 h0 h1 hm => ?_
  have e1 := hg.2.1.1.1
  have e2 := hg.2.2.2.2.1
  refine g_pair hg.1 (by omega) l0 (by omega) k0 k1 fun k2 v2 hg2 k20 k21 h20 h21 hm2 => ?_
  have ex := hg2.2.1.2.1 k k0 k1
  refine hq k2 v2 ((hg.tr hg2 (by omega)).mono (by omega) (by omega)) k20 k21 h20 (by omega) (by rw [h21, ex.1]; exact h0) (by rw [h21, ex.2.1]; exact h1) ?_
  intro j j0 j1 q0 q1 q2 q3 q4
  obtain ⟨e3, e4⟩ := hm _ q1 q2 q3 q4
  subst e3
  exact hm2 j j0 j1 q0 e4.symm
def fR (k : Nat) : Bool := decide (k ≤ 11) || decide (k = 17) || decide (k = 18) || (decide (23 ≤ k) && decide (k ≤ 34))
def RI (u : iST) : Prop := TI u ∧ (0 ≤ u.1 23 ∧ u.1 23 ≤ u.1 14 ∧ u.1 14 ≤ 3000) ∧ (0 ≤ u.1 30 ∧ u.1 30 ≤ 40) ∧ (0 ≤ u.1 32 ∧ u.1 32 ≤ 1000) ∧ (∀ j, 0 ≤ j → j < u.1 32 → 0 ≤ u.2.1 31 j ∧ u.2.1 31 j < u.1 8) ∧ (∀ i, 0 ≤ i → i < u.1 30 → 0 ≤ u.2.1 27 i ∧ u.2.1 27 i ≤ u.1 32 ∧ (u.2.1 28 i = 2 → 0 ≤ u.2.1 29 i ∧ u.2.1 29 i < u.1 8)) ∧ (∀ i j, 0 ≤ i → i ≤ j → j < u.1 30 → u.2.1 27 i ≤ u.2.1 27 j) ∧ (u.1 34 ≠ 0 → 0 ≤ u.1 33 ∧ u.1 33 < u.1 8) ∧ ∀ i, 0 ≤ u.2.1 13 i ∧ u.2.1 13 i ≤ 255
theorem RI_grow {u v : iST} (h : RI u) (hT : TI v) (h8 : u.1 8 ≤ v.1 8) (hF : ∀ k, 12 ≤ k → k ≠ 17 → k ≠ 18 → v.1 k = u.1 k ∧ v.2.1 k = u.2.1 k) : RI v := by
  obtain ⟨_, r2, r3, r4, r5, r6, r7, r8, r9⟩ := h
  have s := fun k h1 h2 h3 => (hF k h1 h2 h3).1
  have a := fun k h1 h2 h3 => (hF k h1 h2 h3).2
  unfold RI
  rw [s 23 (by decide) (by decide) (by decide), s 14 (by decide) (by decide) (by decide), s 30 (by decide) (by decide) (by decide), s 32 (by decide) (by decide) (by decide), s 33 (by decide) (by decide) (by decide), s 34 (by decide) (by decide) (by decide), a 31 (by decide) (by decide) (by decide), a 27 (by decide) (by decide) (by decide), a 28 (by decide) (by decide) (by decide), a 29 (by decide) (by decide) (by decide), a 13 (by decide) (by decide) (by decide)]
  refine ⟨hT, r2, r3, r4, fun j j0 j1 => ?_, fun i i0 i1 => ?_, r7, fun z => ?_, r9⟩
  · have := r5 j j0 j1; omega
  · obtain ⟨q1, q2, q3⟩ := r6 i i0 i1
    exact ⟨q1, q2, fun z => by have := q3 z; omega⟩
  · have := r8 z; omega
/-! the words that were read -/
def sumI (v : iST) : Nat → Int
  | 0 => 0
  | n + 1 => sumI v n + wA v (v.2.1 31 (n : Int))
def lst (v : iST) (i : Int) : Int := if v.2.1 28 i = 2 then wB v (v.2.1 29 i) else 0
def sumO (v : iST) : Nat → Int
  | 0 => 0
  | n + 1 => sumO v n + 1 + lst v (n : Int)
def wh (v : iST) : Int := if v.1 34 ≠ 0 then wA v (v.1 33) else 0
def Psi (v : iST) : Int := sumI v (v.1 32).toNat + sumO v (v.1 30).toNat + wh v
theorem sumI_eq {u v : iST} (hT : TI u) (hV : TI v) (hE : Ext u v) : ∀ (n : Nat), (∀ j : Nat, j < n → v.2.1 31 j = u.2.1 31 j ∧ 0 ≤ u.2.1 31 j ∧ u.2.1 31 j < u.1 8) → sumI v n = sumI u n
  | 0, _ => rfl
  | n + 1, h => by
    obtain ⟨a, b, c⟩ := h n (by omega)
    show sumI v n + wA v (v.2.1 31 (n : Int)) = sumI u n + wA u (u.2.1 31 (n : Int))
    rw [sumI_eq hT hV hE n (fun j hj => h j (by omega)), a, (w_ext hT hV hE b c).1]
theorem lst_eq {u v : iST} (hT : TI u) (hV : TI v) (hE : Ext u v) {i : Int} (e8 : v.2.1 28 i = u.2.1 28 i) (e9 : v.2.1 29 i = u.2.1 29 i) (h : u.2.1 28 i = 2 → 0 ≤ u.2.1 29 i ∧ u.2.1 29 i < u.1 8) : lst v i = lst u i := by
  unfold lst
  rw [e8, e9]
  split
  · next z => rw [(w_ext hT hV hE (h z).1 (h z).2).2]
  · rfl
theorem sumO_eq {u v : iST} (hT : TI u) (hV : TI v) (hE : Ext u v) : ∀ (n : Nat), (∀ j : Nat, j < n → v.2.1 28 j = u.2.1 28 j ∧ v.2.1 29 j = u.2.1 29 j ∧ (u.2.1 28 j = 2 → 0 ≤ u.2.1 29 j ∧ u.2.1 29 j < u.1 8)) → sumO v n = sumO u n
  | 0, _ => rfl
  | n + 1, h => by
    obtain ⟨a, b, c⟩ := h n (by omega)
    show sumO v n + 1 + lst v (n : Int) = sumO u n + 1 + lst u (n : Int)
    rw [sumO_eq hT hV hE n (fun j hj => h j (by omega)), lst_eq hT hV hE a b c]
theorem Psi_same {u v : iST} (h : RI u) (hV : TI v) (hE : Ext u v) (h31 : v.2.1 31 = u.2.1 31) (h28 : v.2.1 28 = u.2.1 28) (h29 : v.2.1 29 = u.2.1 29) (h32 : v.1 32 = u.1 32) (h30 : v.1 30 = u.1 30) (h33 : v.1 33 = u.1 33) (h34 : v.1 34 = u.1 34) : Psi v = Psi u := by
  obtain ⟨r1, r2, r3, r4, r5, r6, r7, r8, r9⟩ := h
  unfold Psi wh
  rw [h32, h30, h33, h34, sumI_eq r1 hV hE _ (fun j hj => ⟨by rw [h31], r5 j (by omega) (by omega)⟩), sumO_eq r1 hV hE _ (fun j hj => ⟨by rw [h28], by rw [h29], (r6 j (by omega) (by omega)).2.2⟩)]
  split
  · next z => rw [(w_ext r1 hV hE (r8 z).1 (r8 z).2).1]
  · rfl
theorem Psi_grow {u v : iST} (h : RI u) (hV : TI v) (hE : Ext u v) (hF : ∀ k, 12 ≤ k → k ≠ 17 → k ≠ 18 → v.1 k = u.1 k ∧ v.2.1 k = u.2.1 k) : Psi v = Psi u := Psi_same h hV hE (hF 31 (by decide) (by decide) (by decide)).2 (hF 28 (by decide) (by decide) (by decide)).2 (hF 29 (by decide) (by decide) (by decide)).2 (hF 32 (by decide) (by decide) (by decide)).1 (hF 30 (by decide) (by decide) (by decide)).1 (hF 33 (by decide) (by decide) (by decide)).1 (hF 34 (by decide) (by decide) (by decide)).1
theorem wh_r {u : iST} (h : RI u) : 0 ≤ wh u := by
  unfold wh
  split
  · next z => have := (w_pos h.1 (h.2.2.2.2.2.2.2.1 z).1 (h.2.2.2.2.2.2.2.1 z).2).1; omega
  · exact Int.le_refl _
/-- the innermost opening goes -/
theorem Psi_pop {u : iST} (h : RI u) (h0 : 0 < u.1 30) : Psi (iI u 30 (u.1 30 - 1)) + 1 + lst u (u.1 30 - 1) = Psi u := by
  obtain ⟨r1, r2, r3, r4, r5, r6, r7, r8, r9⟩ := h
  have hV : TI (iI u 30 (u.1 30 - 1)) := r1
  have hE : Ext u (iI u 30 (u.1 30 - 1)) := Ext.rf u
  obtain ⟨n, hn⟩ : ∃ n : Nat, u.1 30 = n + 1 := ⟨(u.1 30 - 1).toNat, by omega⟩
  have e1 : sumI (iI u 30 (u.1 30 - 1)) (u.1 32).toNat = sumI u (u.1 32).toNat := sumI_eq r1 hV hE _ (fun j hj => ⟨rfl, r5 j (by omega) (by omega)⟩)
  have e2 : sumO (iI u 30 (u.1 30 - 1)) n = sumO u n := sumO_eq r1 hV hE _ (fun j hj => ⟨rfl, rfl, (r6 j (by omega) (by omega)).2.2⟩)
  have e3 : wh (iI u 30 (u.1 30 - 1)) = wh u := by
    unfold wh
    show (if u.1 34 ≠ 0 then wA (iI u 30 (u.1 30 - 1)) (u.1 33) else 0) = _
    split
    · next z => rw [(w_ext r1 hV hE (r8 z).1 (r8 z).2).1]
    · rfl
  have e4 : sumO u (u.1 30).toNat = sumO u n + 1 + lst u (n : Int) := by rw [show (u.1 30).toNat = n + 1 from by omega]; rfl
  have e5 : Psi (iI u 30 (u.1 30 - 1)) = sumI u (u.1 32).toNat + sumO u n + wh u := by
    show sumI (iI u 30 (u.1 30 - 1)) (u.1 32).toNat + sumO (iI u 30 (u.1 30 - 1)) (u.1 30 - 1).toNat + wh (iI u 30 (u.1 30 - 1)) = _
    rw [show (u.1 30 - 1).toNat = n from by omega, e1, e2, e3]
  have e6 : Psi u = sumI u (u.1 32).toNat + sumO u (u.1 30).toNat + wh u := rfl
  rw [e5, e6, e4, show u.1 30 - 1 = (n : Int) from by omega]
  omega
theorem fT_12 {u v : iST} (h : Fx fT u v) : ∀ k, 12 ≤ k → k ≠ 17 → k ≠ 18 → v.1 k = u.1 k ∧ v.2.1 k = u.2.1 k := fun k hk _ _ => h k (by simp [fT]; omega)
theorem fT_R {u v : iST} (h : Fx fT u v) : Fx fR u v := h.mono (fun k hk => by simp [fR] at hk; simp [fT]; omega)
def Phi (u : iST) : Int := u.1 8 + u.1 32 + 3 * u.1 30
/-- what a piece of reading leaves -/
def RPost (u v : iST) (p i n : Int) : Prop := RI v ∧ Fx fR u v ∧ Ext u v ∧ Szs u v ∧ Phi v ≤ Phi u + p ∧ v.1 32 ≤ u.1 32 + i ∧ v.1 6 ≤ u.1 6 + n ∧ v.1 11 ≤ u.1 11 + n
theorem s_isDigit {x : Int} {Q : Int → iST → Prop} {u : iST} (h : ∀ r, bz r → (r ≠ 0 → 48 ≤ x ∧ x ≤ 57) → Q r u) : w_isDigit x Q u := by
  unfold w_isDigit
  exact br_i (fun _ => zt_0 (h 0 (Or.inl rfl) (by omega))) (fun _ => br_i (fun _ => zt_0 (h 0 (Or.inl rfl) (by omega))) (fun _ => zt_1 (h 1 (Or.inr rfl) (by omega))))
theorem s_isAtom {x : Int} {Q : Int → iST → Prop} {u : iST} (h : ∀ r, bz r → Q r u) : w_isAtom x Q u := by
  have h0 : zt 0 (Q 0 u) := zt_0 (h 0 (Or.inl rfl))
  have h1 : zt 1 (Q 1 u) := zt_1 (h 1 (Or.inr rfl))
  have k : w_isAtom_12 Q x u := by
    unfold w_isAtom_12
    exact s_isDigit fun r _ _ => br_i (fun _ => h1) fun _ => br_i (fun _ => h1) fun _ => br_i (fun _ => h1) fun _ => br_i (fun _ => h1) fun _ => br_i (fun _ => h1) fun _ => br_i (fun _ => h1) fun _ => br_i (fun _ => h1) fun _ => br_i (fun _ => h1) fun _ => br_i (fun _ => h1) fun _ => br_i (fun _ => h1) fun _ => br_i (fun _ => h0) fun _ => h1
  unfold w_isAtom
  exact br_i (fun _ => k) fun _ => br_i (fun _ => h1) fun _ => k
theorem s_skip {Q : iST → Prop} {u : iST} (h0 : 0 ≤ u.1 23) (h1 : u.1 23 ≤ u.1 14) (h2 : u.1 14 ≤ 3000) (h : ∀ x, u.1 23 ≤ x → x ≤ u.1 14 → Q (iI u 23 x)) (hu : Q u) : w_skip Q u := by
  unfold w_skip w_skip_2
  have fin : ∀ v : iST, (v = u ∨ ∃ x, u.1 23 ≤ x ∧ x ≤ u.1 14 ∧ v = iI u 23 x) → Q v := by
    intro v hv
    rcases hv with rfl | ⟨x, x0, x1, rfl⟩
    · exact hu
    · exact h x x0 x1
  have at_ : ∀ v : iST, (v = u ∨ ∃ x, u.1 23 ≤ x ∧ x ≤ u.1 14 ∧ v = iI u 23 x) → u.1 23 ≤ v.1 23 ∧ v.1 23 ≤ u.1 14 ∧ v.1 14 = u.1 14 := by
    intro v hv
    rcases hv with rfl | ⟨x, x0, x1, rfl⟩
    · omega
    · exact ⟨x0, x1, rfl⟩
  have on : ∀ v : iST, (v = u ∨ ∃ x, u.1 23 ≤ x ∧ x ≤ u.1 14 ∧ v = iI u 23 x) → v.1 23 < v.1 14 → (iI v 23 (v.1 23 + 1) = u ∨ ∃ x, u.1 23 ≤ x ∧ x ≤ u.1 14 ∧ iI v 23 (v.1 23 + 1) = iI u 23 x) := by
    intro v hv hl
    have hat := at_ v hv
    refine Or.inr ⟨v.1 23 + 1, by omega, by omega, ?_⟩
    rcases hv with rfl | ⟨x, x0, x1, rfl⟩
    · rfl
    · refine Prod.ext (funext fun j => ?_) rfl
      show (if j = 23 then _ else if j = 23 then _ else u.1 j) = if j = 23 then _ else u.1 j
      split <;> rfl
  refine lf1 (B := fun R x1 u => w_skip_2b R Q x1 u) (fun x1 v => (x1 = 0 ∨ x1 = 1) ∧ (v = u ∨ ∃ x, u.1 23 ≤ x ∧ x ≤ u.1 14 ∧ v = iI u 23 x)) (fun x1 v => (2 * (v.1 14 - v.1 23) + x1).toNat) ?_ ⟨Or.inr rfl, Or.inl rfl⟩
  intro x1 v hI R ih
  obtain ⟨hx, hv⟩ := hI
  have hat := at_ v hv
  unfold w_skip_2b
  refine br_i (fun _ => fin v hv) fun hc => rd_i fun _ => rd_i fun _ => br_i (fun _ => fin v hv) fun hd => rd_i fun _ => bd_i (by omega) (by omega) (rd_i fun _ => br_i (fun he => ?_) (fun he => ?_))
  · have k97 : w_skip_97 R Q x1 v := by
      unfold w_skip_97
      refine rd_i fun _ => ov_i (by omega) (by omega) (sw_i ?_)
      refine ih _ _ ⟨hx, on v hv (by omega)⟩ (show (2 * (v.1 14 - (v.1 23 + 1)) + x1).toNat < _ by omega)
    refine rd_i fun _ => bd_i (by omega) (by omega) (rd_i fun _ => br_i (fun _ => k97) fun _ => rd_i fun _ => bd_i (by omega) (by omega) (rd_i fun _ => br_i (fun _ => ?_) fun _ => k97))
    exact ih _ _ ⟨Or.inl rfl, hv⟩ (by omega)
  · unfold w_skip_31
    have hlt : v.1 23 < v.1 14 := by omega
    refine lf1 (B := fun R2 x1 u => w_skip_31b R R2 Q x1 u) (fun y w => y = x1 ∧ (w = u ∨ ∃ x, u.1 23 ≤ x ∧ x ≤ u.1 14 ∧ w = iI u 23 x) ∧ (w.1 23 = v.1 23 ∧ w.2.1 13 (v.1 23) = 59 ∨ v.1 23 < w.1 23)) (fun _ w => (w.1 14 - w.1 23).toNat) ?_ ⟨rfl, hv, Or.inl ⟨rfl, by omega⟩⟩
    intro y w hI R2 ih2
    obtain ⟨rfl, hw, hlt2⟩ := hI
    have hat2 := at_ w hw
    unfold w_skip_31b
    refine rd_i fun _ => rd_i fun _ => br_i (fun hf => ?_) fun hf => rd_i fun _ => bd_i (by omega) (by omega) (rd_i fun _ => br_i (fun hg => ?_) fun hg => rd_i fun _ => ov_i (by omega) (by omega) (sw_i ?_))
    · exact ih _ _ ⟨hx, hw⟩ (by omega)
    · rcases hlt2 with ⟨e1, e2⟩ | hlt2
      · rw [← e1] at e2; omega
      · exact ih _ _ ⟨hx, hw⟩ (by omega)
    · exact ih2 _ _ ⟨rfl, on w hw (by omega), Or.inr (show v.1 23 < w.1 23 + 1 by omega)⟩ (show (w.1 14 - (w.1 23 + 1)).toNat < _ by omega)
theorem s_bad {a b : Int} {Q : iST → Prop} {u : iST} (h : u.1 24 ≠ 0 → Q u) (h2 : Q (iI (iI u 24 a) 25 b)) : w_bad a b Q u := by
  unfold w_bad
  exact rd_i fun _ => br_i (fun _ => sw_i (sw_i h2)) (fun hc => h hc)
theorem RI_bad {u : iST} {a b : Int} (h : RI u) : RI (iI (iI u 24 a) 25 b) := h
theorem g_bad {a b : Int} {Q : iST → Prop} {u : iST} (h : RI u) (hq : ∀ v, RI v → Fx fR u v → Ext u v → Szs u v → Phi v = Phi u → v.1 32 = u.1 32 → v.1 6 = u.1 6 → v.1 11 = u.1 11 → v.1 23 = u.1 23 → v.1 14 = u.1 14 → Psi v = Psi u → v.1 24 ≠ 0 → Q v) (ha : a ≠ 0) : w_bad a b Q u :=
  s_bad (fun z => hq u h (Fx.rf _ _) (Ext.rf _) (Szs.rf _) rfl rfl rfl rfl rfl rfl rfl z) (hq _ (RI_bad h) ((Fx_I (k := 24) rfl).tr (Fx_I (k := 25) rfl)) (Ext.rf u) (Szs.rf u) rfl rfl rfl rfl rfl rfl (Psi_same (v := iI (iI u 24 a) 25 b) h h.1 (Ext.rf u) rfl rfl rfl rfl rfl rfl rfl) ha)
theorem s_mayBegin {Q : Int → iST → Prop} {u : iST} (h : RI u) (hq : ∀ r, bz r → Q r u) : w_mayBegin Q u := by
  have h3 := h.2.2.1
  unfold w_mayBegin
  refine rd_i fun _ => br_i (fun hc => rd_i fun _ => ov_i (by omega) (by omega) (bd_i (by omega) (by omega) (rd_i fun _ => br_i (fun _ => zt_1 (hq 1 (Or.inr rfl))) fun _ => rd_i fun _ => ov_i (by omega) (by omega) (bd_i (by omega) (by omega) (rd_i fun _ => br_i (fun _ => zt_0 (hq 0 (Or.inl rfl))) fun _ => zt_1 (hq 1 (Or.inr rfl))))))) fun hc => rz_i fun _ => br_i (fun _ => zt_0 (hq 0 (Or.inl rfl))) fun _ => zt_1 (hq 1 (Or.inr rfl))
theorem s_isInList {Q : Int → iST → Prop} {u : iST} (h : RI u) (hq : ∀ r, bz r → (r ≠ 0 → 0 < u.1 30) → Q r u) : w_isInList Q u := by
  have h3 := h.2.2.1
  unfold w_isInList
  refine rd_i fun _ => br_i (fun hc => zt_0 (hq 0 (Or.inl rfl) (by omega))) fun hc => rd_i fun _ => ov_i (by omega) (by omega) (bd_i (by omega) (by omega) (rd_i fun _ => br_i (fun _ => zt_0 (hq 0 (Or.inl rfl) (by omega))) fun _ => zt_1 (hq 1 (Or.inr rfl) (by omega))))
theorem g_begin {x : Int} {Q : iST → Prop} {u : iST} (h : RI u) (hl : u.1 30 < 40) (hq : ∀ v, RI v → Fx fR u v → Ext u v → Szs u v → Phi v = Phi u + 3 → v.1 32 = u.1 32 → v.1 6 = u.1 6 → v.1 11 = u.1 11 → v.1 23 = u.1 23 → v.1 14 = u.1 14 → Psi v = Psi u + 1 → Q v) : w_begin x Q u := by
  have hRI := h
  obtain ⟨r1, r2, r3, r4, r5, r6, r7, r8, r9⟩ := h
  unfold w_begin
  refine rd_i fun _ => bd_i (by omega) hl (sw_i (rd_i fun _ => rd_i fun _ => bd_i (show 0 ≤ u.1 30 by omega) hl (sw_i (rd_i fun _ => bd_i (show 0 ≤ u.1 30 by omega) hl (sw_i (rd_i fun _ => ov_i (show -2147483648 ≤ u.1 30 + 1 by omega) (show u.1 30 + 1 < 2147483648 by omega) (sw_i ?_)))))))
  refine hq _ ⟨r1, r2, ⟨show 0 ≤ u.1 30 + 1 by omega, show u.1 30 + 1 ≤ 40 by omega⟩, r4, r5, fun i i0 i1 => ?_, fun i j i0 ij j1 => ?_, r8, r9⟩ ?_ (Ext.rf u) (Szs.rf u) (by show u.1 8 + u.1 32 + 3 * (u.1 30 + 1) = u.1 8 + u.1 32 + 3 * u.1 30 + 3; omega) rfl rfl rfl rfl rfl ?_
  · have i1 : i < u.1 30 + 1 := i1
    show 0 ≤ (if i = u.1 30 then u.1 32 else u.2.1 27 i) ∧ (if i = u.1 30 then u.1 32 else u.2.1 27 i) ≤ u.1 32 ∧ ((if i = u.1 30 then 0 else u.2.1 28 i) = 2 → 0 ≤ u.2.1 29 i ∧ u.2.1 29 i < u.1 8)
    by_cases e : i = u.1 30
    · rw [if_pos e, if_pos e]; exact ⟨by omega, by omega, fun z => absurd z (by decide)⟩
    · rw [if_neg e, if_neg e]; exact r6 i i0 (by omega)
  · have j1 : j < u.1 30 + 1 := j1
    show (if i = u.1 30 then u.1 32 else u.2.1 27 i) ≤ (if j = u.1 30 then u.1 32 else u.2.1 27 j)
    by_cases e : j = u.1 30
    · rw [if_pos e]
      by_cases e2 : i = u.1 30
      · rw [if_pos e2]; omega
      · rw [if_neg e2]; exact (r6 i i0 (by omega)).2.1
    · rw [if_neg e, if_neg (by omega)]; exact r7 i j i0 ij (by omega)
  · exact (((Fx_A (k := 26) rfl).tr (Fx_A (k := 27) rfl)).tr (Fx_A (k := 28) rfl)).tr (Fx_I (k := 30) rfl)
  · show Psi (iI (iA (iA (iA u 26 (u.1 30) x) 27 (u.1 30) (u.1 32)) 28 (u.1 30) 0) 30 (u.1 30 + 1)) = _
    generalize hv : iI (iA (iA (iA u 26 (u.1 30) x) 27 (u.1 30) (u.1 32)) 28 (u.1 30) 0) 30 (u.1 30 + 1) = v
    have v28 : ∀ j, v.2.1 28 j = if j = u.1 30 then 0 else u.2.1 28 j := fun j => by rw [← hv]; rfl
    have v29 : v.2.1 29 = u.2.1 29 := by rw [← hv]; rfl
    have v31 : v.2.1 31 = u.2.1 31 := by rw [← hv]; rfl
    have v30 : v.1 30 = u.1 30 + 1 := by rw [← hv]; rfl
    have v32 : v.1 32 = u.1 32 := by rw [← hv]; rfl
    have v33 : v.1 33 = u.1 33 := by rw [← hv]; rfl
    have v34 : v.1 34 = u.1 34 := by rw [← hv]; rfl
    have hV : TI v := by rw [← hv]; exact r1
    have hE : Ext u v := by rw [← hv]; exact Ext.rf u
    clear hv
    have e1 : sumI v (u.1 32).toNat = sumI u (u.1 32).toNat := sumI_eq r1 hV hE _ (fun j hj => ⟨by rw [v31], r5 j (by omega) (by omega)⟩)
    have e2 : sumO v (u.1 30).toNat = sumO u (u.1 30).toNat := sumO_eq r1 hV hE _ (fun j hj => ⟨by rw [v28, if_neg (by omega)], by rw [v29], (r6 j (by omega) (by omega)).2.2⟩)
    have e3 : wh v = wh u := by
      unfold wh
      rw [v33, v34]
      split
      · next z => rw [(w_ext r1 hV hE (r8 z).1 (r8 z).2).1]
      · rfl
    have e4 : lst v ((u.1 30).toNat : Int) = 0 := by
      have z0 : v.2.1 28 ((u.1 30).toNat : Int) = 0 := by rw [v28, if_pos (by omega)]
      unfold lst
      rw [z0]
      exact if_neg (by decide)
    have e5 : Psi u = sumI u (u.1 32).toNat + sumO u (u.1 30).toNat + wh u := rfl
    unfold Psi
    rw [v32, v30, show (u.1 30 + 1).toNat = (u.1 30).toNat + 1 from by omega]
    show sumI v (u.1 32).toNat + (sumO v (u.1 30).toNat + 1 + lst v ((u.1 30).toNat : Int)) + wh v = _
    rw [e1, e2, e3, e4]
    omega
