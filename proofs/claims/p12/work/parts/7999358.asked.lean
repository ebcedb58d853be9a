/-! the class: what is asked of a command -/
def LnN (u : iST) : Nat → Int → Prop
  | 0, x => x = 0
  | n + 1, x => pr u x ∧ LnN u n (eR u x)
theorem LnN.uq {u : iST} (hT : RT u) : ∀ {n m : Nat} {x : Int}, LnN u n x → LnN u m x → n = m
  | 0, 0, _, _, _ => rfl
  | 0, _ + 1, x, h, g => by have h : x = 0 := h; have := (hT.2.1 x g.1).2.2; omega
  | _ + 1, 0, x, h, g => by have g : x = 0 := g; have := (hT.2.1 x h.1).2.2; omega
  | n + 1, m + 1, _, h, g => by have := LnN.uq hT h.2 g.2; omega
theorem LnN.ext {u v : iST} (hT : RT u) (h : Ce u v) : ∀ {n : Nat} {x : Int}, x < u.1 29 → LnN u n x → LnN v n x
  | 0, x, _, hx => hx
  | n + 1, x, x1, hx => ⟨h.prx hx.1, by rw [(h.el x1).2]; exact LnN.ext hT h (eR_r hT x).2.1 hx.2⟩
theorem j_lenN {u : iST} {x : Int} {Q : Int → iST → Prop} (hT : RT u) (hn : (∀ n, ¬ LnN u n x) → Q (-1) u) (hq : ∀ n : Nat, (n : Int) ≤ 160000 → LnN u n x → Q n u) : v_7_lengthOf x Q u := by
  have hm := hT.1.2
  have h44 := hT.1.1
  unfold v_7_lengthOf v_7_lengthOf_4
  refine lf2 (B := fun R x2 x3 u => v_7_lengthOf_4b R Q x2 x3 u) (fun x2 x3 v => u = v ∧ ∃ i : Nat, x2 = i ∧ (0 < i → x3 + i < u.1 29 ∧ 0 ≤ x3) ∧ (∀ n, LnN u n x3 → LnN u (n + i) x) ∧ ∀ n, LnN u n x → ∃ m, n = m + i ∧ LnN u m x3) (fun _ x3 _ => x3.toNat) ?_ ⟨rfl, 0, rfl, fun z => by omega, fun n h => h, fun n h => ⟨n, rfl, h⟩⟩
  intro x2 x3 v hI R ih
  obtain ⟨rfl, i, rfl, h4, h5, h6⟩ := hI
  have fin : ¬ pr u x3 → v_7_lengthOf_44 Q i x3 u := fun hp => by
    unfold v_7_lengthOf_44
    refine br_i (fun hz => hn (fun n hl => ?_)) fun hz => hq i ?_ ?_
    · obtain ⟨m, _, hm2⟩ := h6 n hl
      cases m with
      | zero => exact hz hm2
      | succ m => exact hp hm2.1
    · rcases Nat.eq_zero_or_pos i with z | z
      · omega
      · have := h4 z; omega
    · have q : LnN u 0 x3 := Classical.not_not.mp hz
      have := h5 0 q
      rw [Nat.zero_add] at this
      exact this
  unfold v_7_lengthOf_4b
  refine br_i (fun h => fin (fun z => by have := z.1; omega)) fun h0 => rd_i fun _ => br_i (fun h => fin (fun z => by have := z.2.1; omega)) fun h1 => bd_i (by omega) (by omega) (rl_i fun _ => br_i (fun h => fin (fun z => by have := z.2.2; omega)) fun h2 => bd_i (by omega) (by omega) (rl_i fun _ => rd_i fun _ => rd_i fun _ => ?_))
  have hp : pr u x3 := ⟨by omega, by omega, by omega⟩
  have e : eR u x3 = cR (u.2.2 x3) := if_pos hp
  have q := eR_r hT x3
  have q3 := q.2.2 hp
  have hi : (i : Int) ≤ 160000 := by
    rcases Nat.eq_zero_or_pos i with z | z
    · omega
    · have := h4 z; omega
  refine ov_i (by omega) (by omega) (ih _ _ _ ⟨rfl, i + 1, by omega, fun _ => ?_, fun n hn2 => ?_, fun n hl => ?_⟩ ?_)
  · show cR (u.2.2 x3) + ((i + 1 : Nat) : Int) < u.1 29 ∧ 0 ≤ cR (u.2.2 x3)
    rw [← e]
    rcases Nat.eq_zero_or_pos i with z | z
    · omega
    · have := h4 z; omega
  · have e2 : LnN u n (eR u x3) := by rw [e]; exact hn2
    have := h5 (n + 1) ⟨hp, e2⟩
    rw [show n + 1 + i = n + (i + 1) from by omega] at this
    exact this
  · obtain ⟨m, hm1, hm2⟩ := h6 n hl
    cases m with
    | zero =>
      have z : x3 = 0 := hm2
      have := (hT.2.1 x3 hp).2.2
      omega
    | succ m => exact ⟨m, by omega, by rw [show wand (wl2i (u.2.2 x3)) 2147483647 = eR u x3 from e.symm]; exact hm2.2⟩
  · show (cR (u.2.2 x3)).toNat < _
    rw [← e]; omega
/-- an item, exactly -/
def itF (u : iST) : Nat → Int → Int
  | 0, x => eL u x
  | k + 1, x => itF u k (eR u x)
theorem itF.ext {u v : iST} (hT : RT u) (h : Ce u v) : ∀ {k : Nat} {x : Int}, x < u.1 29 → itF v k x = itF u k x
  | 0, x, x1 => (h.el x1).1
  | k + 1, x, x1 => by
    show itF v k (eR v x) = itF u k (eR u x)
    rw [(h.el x1).2]
    exact itF.ext hT h (eR_r hT x).2.1
theorem itF_r {u : iST} (hT : RT u) {m : Int} (hm : 0 < m) : ∀ {k : Nat} {x : Int}, x < m → 0 ≤ itF u k x ∧ itF u k x < u.1 29 ∧ itF u k x < m
  | 0, x, hx => by
    have q := eL_r hT x
    refine ⟨q.1, q.2.1, ?_⟩
    show eL u x < m
    by_cases p : pr u x
    · have := q.2.2 p; omega
    · unfold eL; rw [if_neg p]; exact hm
  | k + 1, x, hx => by
    have q := eR_r hT x
    refine itF_r hT hm (k := k) (x := eR u x) ?_
    by_cases p : pr u x
    · have := q.2.2 p; omega
    · unfold eR; rw [if_neg p]; exact hm
theorem j_itemF {u : iST} {x : Int} {k : Nat} {Q : Int → iST → Prop} (hT : RT u) (k1 : k < 1000) (hq : Q (itF u k x) u) : v_7_item x k Q u := by
  have hm := hT.1.2
  have h44 := hT.1.1
  have e0 : ∀ y, ¬ pr u y → eL u y = 0 ∧ eR u y = 0 := fun y hy => by unfold eL eR; rw [if_neg hy, if_neg hy]; exact ⟨rfl, rfl⟩
  unfold v_7_item v_7_item_5
  refine lf3 (B := fun R x2 x3 x4 u => v_7_item_5b R Q x2 x3 x4 u) (fun x2 x3 x4 v => (k : Int) = x2 ∧ u = v ∧ ∃ i j : Nat, x4 = i ∧ i + j = k ∧ itF u j x3 = itF u k x) (fun _ _ x4 _ => (k - x4).toNat) ?_ ⟨rfl, rfl, 0, k, rfl, by omega, rfl⟩
  intro x2 x3 x4 v hI R ih
  obtain ⟨rfl, rfl, i, j, rfl, hij, hf⟩ := hI
  unfold v_7_item_5b
  refine br_i (fun hle => ?_) fun hlt => ?_
  · have hj : j = 0 := by omega
    subst hj
    have z : ¬ pr u x3 → Q 0 u := fun hp => by
      have : itF u 0 x3 = 0 := (e0 x3 hp).1
      rw [← hf, this] at hq
      exact hq
    refine br_i (fun h => z (fun q => by have := q.1; omega)) fun h0 => rd_i fun _ => br_i (fun h => z (fun q => by have := q.2.1; omega)) fun h1 => bd_i (by omega) (by omega) (rl_i fun _ => br_i (fun h => z (fun q => by have := q.2.2; omega)) fun h2 => bd_i (by omega) (by omega) (rl_i fun _ => rl_i fun _ => rd_i fun _ => rd_i fun _ => ?_))
    have hp : pr u x3 := ⟨by omega, by omega, by omega⟩
    have e : itF u 0 x3 = cL (u.2.2 x3) := if_pos hp
    rw [← hf, e] at hq
    exact hq
  · obtain ⟨j, rfl⟩ : ∃ j', j = j' + 1 := ⟨j - 1, by omega⟩
    have nx : ∀ y, y = eR u x3 → ov ((i : Int) + 1) (R k y ((i : Int) + 1) u) := fun y hy => ov_i (by omega) (by omega) (ih _ _ _ _ ⟨rfl, rfl, i + 1, j, by omega, by omega, by rw [hy]; exact hf⟩ (by omega))
    have z : ¬ pr u x3 → ov ((i : Int) + 1) (R k 0 ((i : Int) + 1) u) := fun hp => nx 0 (e0 x3 hp).2.symm
    refine br_i (fun h => z (fun q => by have := q.1; omega)) fun h0 => rd_i fun _ => br_i (fun h => z (fun q => by have := q.2.1; omega)) fun h1 => bd_i (by omega) (by omega) (rl_i fun _ => br_i (fun h => z (fun q => by have := q.2.2; omega)) fun h2 => bd_i (by omega) (by omega) (rl_i fun _ => rd_i fun _ => rd_i fun _ => nx _ ?_))
    have hp : pr u x3 := ⟨by omega, by omega, by omega⟩
    have e : eR u x3 = cR (u.2.2 x3) := if_pos hp
    exact e.symm
