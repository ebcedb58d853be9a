-- deps: 470 4308
/-! the reference, partial: telling -/
def f7L (k : Nat) : Bool := decide (k = 15) || decide (k = 16) || decide (k = 21) || decide (k = 22)
def f7T (k : Nat) : Bool := f7L k || decide (k = 19) || decide (k = 20)
theorem f7L_T [DecidableEq Ob] : ∀ k, f7T k = false → f7L k = false := by
  intro k h
  unfold f7T at h
  rw [Bool.or_eq_false_iff, Bool.or_eq_false_iff] at h
  exact h.1.1
/-- letters told, and how many fit -/
def l7N (u : iST) : Int := if u.1 64 = 0 then u.1 16 else u.1 22
def l7C (u : iST) : Nat := if u.1 64 = 0 then 2000 else 200
def l7R (u : iST) : Int → Int := if u.1 64 = 0 then u.2.1 15 else u.2.1 21
def Lt [DecidableEq Ob] (u : iST) : List Int := (List.range (l7N u).toNat).map (fun i : Nat => l7R u (i : Int))
def LtOk [DecidableEq Ob] (u : iST) : Prop := 0 ≤ l7N u ∧ l7N u ≤ (l7C u : Int)
theorem Lt_len [DecidableEq Ob] (u : iST) : (Lt u).length = (l7N u).toNat := by unfold Lt; simp
/-- l was told -/
def Tl [DecidableEq Ob] (n : Nat → Bool) (u v : iST) (l : List Int) : Prop := GZ n u v ∧ v.1 64 = u.1 64 ∧ LtOk v ∧ Lt v = (Lt u ++ l).take (l7C u)
theorem l7C_eq [DecidableEq Ob] {u v : iST} (h : v.1 64 = u.1 64) : l7C v = l7C u := by unfold l7C; rw [h]
theorem Tl.tr [DecidableEq Ob] {n : Nat → Bool} {u v w : iST} {l m : List Int} (h : Tl n u v l) (g : Tl n v w m) : Tl n u w (l ++ m) := by
  refine ⟨h.1.tr g.1, g.2.1.trans h.2.1, g.2.2.1, ?_⟩
  rw [g.2.2.2, h.2.2.2, l7C_eq h.2.1, take_app, List.append_assoc]
theorem Tl.rf [DecidableEq Ob] {n : Nat → Bool} {u : iST} (hT : TI u) (hU : TU u) (h : LtOk u) : Tl n u u [] := by
  refine ⟨GZ.rf hT hU, rfl, h, ?_⟩
  rw [List.append_nil, List.take_of_length_le]
  rw [Lt_len]
  have := h.2
  omega
theorem Tl.mono [DecidableEq Ob] {n m : Nat → Bool} {u v : iST} {l : List Int} (h : Tl n u v l) (hn : ∀ k, m k = false → n k = false) : Tl m u v l := ⟨h.1.mono hn, h.2⟩
theorem p_tellLetter [DecidableEq Ob] {c : Int} {Q : iST → Prop} {u : iST} (hT : TI u) (hU : TU u) (hL : LtOk u) (hq : ∀ v, Tl f7L u v [c] → Q v) : pw_tellLetter c Q u := by
  have full : l7N u = (l7C u : Int) → Q u := by
    intro e
    refine hq u ⟨GZ.rf hT hU, rfl, hL, ?_⟩
    have hl : (Lt u).length = l7C u := by rw [Lt_len]; omega
    rw [List.take_append_of_le_length (by omega), List.take_of_length_le (by omega)]
  have more : ∀ v, GZ f7L u v → v.1 64 = u.1 64 → l7N v = l7N u + 1 → l7N u < (l7C u : Int) → (∀ i, l7R v i = if i = l7N u then c else l7R u i) → Q v := by
    intro v gv h64 hn hlt hr
    have h0 := hL.1
    refine hq v ⟨gv, h64, ⟨by omega, by rw [l7C_eq h64]; omega⟩, ?_⟩
    have hl : (Lt u ++ [c]).length ≤ l7C u := by simp [Lt_len]; omega
    rw [List.take_of_length_le hl]
    unfold Lt
    rw [hn, show (l7N u + 1).toNat = (l7N u).toNat + 1 by omega, List.range_succ, List.map_append]
    refine congr (congrArg _ (List.map_congr_left (fun i hi => ?_))) ?_
    · have := List.mem_range.mp hi
      rw [hr, if_neg (by omega)]
    · show [l7R v ((l7N u).toNat : Int)] = [c]
      rw [hr, if_pos (by omega)]
  unfold pw_tellLetter
  intro x ex _
  subst ex
  refine ⟨fun h64 => ?_, fun h64 => ?_⟩
  · have eN : l7N u = u.1 16 := if_pos h64
    have eC : l7C u = 2000 := if_pos h64
    have eR : l7R u = u.2.1 15 := if_pos h64
    intro x ex _
    subst ex
    refine ⟨fun hc => full ?_, fun hc => ?_⟩
    · have := hL.2
      rw [eN, eC] at this ⊢
      omega
    · intro x ex _ _ _ w1 ew1 y ey _ _ w2 ew2
      subst ex
      have gw : GZ f7L u w2 := by
        rw [ew2, ew1]
        exact GZ_eq (GZ.rf hT hU) (fun k hk => ⟨if_neg (by omega), if_neg (by omega)⟩) rfl ((Fx_A (by decide)).tr (Fx_I (by decide)))
      have w64 : w2.1 64 = u.1 64 := by rw [ew2, ew1]; rfl
      have w0 : w2.1 64 = 0 := w64.trans h64
      refine more w2 gw w64 ?_ (by rw [eN, eC]; omega) (fun i => ?_)
      · rw [show l7N w2 = w2.1 16 from if_pos w0, eN, ew2, ey, ew1]; rfl
      · rw [show l7R w2 = w2.2.1 15 from if_pos w0, eR, eN, ew2, ew1]; rfl
  · have eN : l7N u = u.1 22 := if_neg h64
    have eC : l7C u = 200 := if_neg h64
    have eR : l7R u = u.2.1 21 := if_neg h64
    intro x ex _
    subst ex
    refine ⟨fun hc => full ?_, fun hc => ?_⟩
    · have := hL.2
      rw [eN, eC] at this ⊢
      omega
    · intro x ex _ _ _ w1 ew1 y ey _ _ w2 ew2
      subst ex
      have gw : GZ f7L u w2 := by
        rw [ew2, ew1]
        exact GZ_eq (GZ.rf hT hU) (fun k hk => ⟨if_neg (by omega), if_neg (by omega)⟩) rfl ((Fx_A (by decide)).tr (Fx_I (by decide)))
      have w64 : w2.1 64 = u.1 64 := by rw [ew2, ew1]; rfl
      have w0 : ¬ w2.1 64 = 0 := by rw [w64]; exact h64
      refine more w2 gw w64 ?_ (by rw [eN, eC]; omega) (fun i => ?_)
      · rw [show l7N w2 = w2.1 22 from if_neg w0, eN, ew2, ey, ew1]; rfl
      · rw [show l7R w2 = w2.2.1 21 from if_neg w0, eR, eN, ew2, ew1]; rfl
theorem p_isFull [DecidableEq Ob] {Q : Int → iST → Prop} {u : iST} (hq : ∀ r, (r = 0 ↔ l7N u ≠ (l7C u : Int)) → Q r u) : pw_isFull Q u := by
  unfold pw_isFull
  intro x ex _
  subst ex
  refine ⟨fun h64 => ?_, fun h64 => ?_⟩
  · have eN : l7N u = u.1 16 := if_pos h64
    have eC : l7C u = 2000 := if_pos h64
    intro x ex _
    subst ex
    exact ⟨fun hc _ => hq 0 ⟨fun _ => by rw [eN, eC]; omega, fun _ => rfl⟩, fun hc _ => hq 1 ⟨fun z => by omega, fun z => by rw [eN, eC] at z; omega⟩⟩
  · have eN : l7N u = u.1 22 := if_neg h64
    have eC : l7C u = 200 := if_neg h64
    intro x ex _
    subst ex
    exact ⟨fun hc _ => hq 0 ⟨fun _ => by rw [eN, eC]; omega, fun _ => rfl⟩, fun hc _ => hq 1 ⟨fun z => by omega, fun z => by rw [eN, eC] at z; omega⟩⟩
theorem p_tellAtom [DecidableEq Ob] {a : Int} {Q : iST → Prop} {u : iST} (hT : TI u) (hU : TU u) (hL : LtOk u) (a0 : 0 ≤ a) (a1 : a < u.1 8) (hp : (ob u a).isPr = false) (hq : ∀ v, Tl f7L u v (Ob.atomT (ob u a)) → Q v) : pw_tellAtom a Q u := by
  unfold pw_tellAtom
  refine p_isSymbol hT a0 a1 (fun r hr => ⟨fun hc => ?_, fun hc => ?_⟩)
  · have hns := hr.f hc
    have kd : u.2.1 0 a = -1 := by
      rcases hT.cases a0 a1 with z | z | z
      · exact z
      · rw [(ob_isSym hT a0 a1).mpr z] at hns; cases hns
      · rw [(ob_isPr hT a0 a1).mpr z] at hp; cases hp
    have hv := hT.nat a0 a1 kd
    obtain ⟨N, hN⟩ : ∃ N : Nat, u.2.2 (u.2.1 1 a) = (N : Int) := ⟨(u.2.2 (u.2.1 1 a)).toNat, by omega⟩
    have eA : Ob.atomT (ob u a) = Ob.dg 20 N := by rw [ob_nat kd, atomT_nat (by omega), hN]; rfl
    rw [eA] at hq
    refine pw_tellAtom_54_i (fun x1 x2 v => v = u ∧ x1 = a ∧ ∃ j : Nat, x2 = ((10 ^ j : Nat) : Int) ∧ (j = 0 ∨ 10 ^ j ≤ N)) ?_ ⟨rfl, rfl, 0, by simp, Or.inl rfl⟩
    intro x1 x2 v hI
    obtain ⟨e1, e2, j, ej, hj⟩ := hI
    rw [e1, e2, ej]
    have pj : 1 ≤ 10 ^ j := Nat.one_le_pow _ _ (by decide)
    have edv : Int.tdiv (N : Int) ((10 ^ j : Nat) : Int) = ((N / 10 ^ j : Nat) : Int) := (Int.ofNat_tdiv N (10 ^ j)).symm
    unfold pw_tellAtom_54b pw_value
    intro _ _ x ex _ _ _ y ey _
    subst ex
    rw [hN] at ey
    rw [ey, edv]
    refine ⟨by omega, fun hd => ?_, fun hd _ => ⟨rfl, rfl, j + 1, by rw [Nat.pow_succ, Nat.mul_comm]; simp, Or.inr ?_⟩⟩
    · have hlt : N < 10 ^ (j + 1) := by
        rw [Nat.pow_succ]
        have : N / 10 ^ j < 10 := by omega
        have := (Nat.div_lt_iff_lt_mul (by omega : 0 < 10 ^ j)).mp this
        omega
      have hj20 : j < 20 := by
        rcases Nat.lt_or_ge j 20 with z | z
        · exact z
        · have h1 : 10 ^ 20 ≤ 10 ^ j := Nat.pow_le_pow_right (by decide) z
          have h2 : 10 ^ j ≤ N := hj.resolve_left (by omega)
          have : (10 : Nat) ^ 20 = 100000000000000000000 := by decide
          omega
      rw [dg_dU j 20 N hj20 hlt hj] at hq
      refine pw_tellAtom_77_i (fun x1 x2 w => x1 = a ∧ ∃ pr, Tl f7L u w pr ∧ ((x2 = 0 ∧ pr = dU N j) ∨ ∃ i : Nat, x2 = ((10 ^ i : Nat) : Int) ∧ pr ++ dU N i = dU N j)) ?_ ⟨rfl, [], Tl.rf hT hU hL, Or.inr ⟨j, rfl, rfl⟩⟩
      intro x1 x2 w hI
      obtain ⟨f1, pr, ht, hx⟩ := hI
      rw [f1]
      unfold pw_tellAtom_77b
      refine ⟨fun hz => ?_, fun hz => ?_⟩
      · rcases hx with ⟨_, h2⟩ | ⟨i, h1, h2⟩
        · rw [h2] at ht; exact hq w ht
        · have := Nat.one_le_pow i 10 (by decide)
          omega
      · obtain ⟨i, hi, hpr⟩ := hx.resolve_left (fun z => hz (by omega))
        have pi : 1 ≤ 10 ^ i := Nat.one_le_pow _ _ (by decide)
        have er : w.2.1 1 a = u.2.1 1 a := (ht.1.2.2.1.2.1 a a0 a1).2.1
        have el : w.2.2 (u.2.1 1 a) = (N : Int) := (ht.1.2.2.1.2.2.1 _ hv.1 hv.2.1).trans hN
        unfold pw_value
        intro _ _ x ex _ _ _ y ey _
        rw [er] at ex
        rw [ex, el] at ey
        have edi : Int.tdiv y x2 = ((N / 10 ^ i : Nat) : Int) := by rw [ey, hi]; exact (Int.ofNat_tdiv N (10 ^ i)).symm
        have emo : Int.tmod (Int.tdiv y x2) 10 = ((N / 10 ^ i % 10 : Nat) : Int) := by rw [edi]; exact (Int.ofNat_tmod (N / 10 ^ i) 10).symm
        have hlt10 : N / 10 ^ i % 10 < 10 := Nat.mod_lt _ (by decide)
        refine ⟨by omega, by decide, ?_⟩
        intro c ec _ _
        rw [emo, wl2i_eq ⟨by omega, by omega⟩] at ec
        rw [ec]
        refine p_tellLetter ht.1.1 ht.1.2.1 ht.2.2.1 (fun z hz => ⟨by decide, f1 ▸ rfl, pr ++ [48 + ((N / 10 ^ i % 10 : Nat) : Int)], ht.tr hz, ?_⟩)
        cases i with
        | zero =>
          refine Or.inl ⟨by rw [hi]; rfl, ?_⟩
          rw [← hpr]; rfl
        | succ i =>
          refine Or.inr ⟨i, ?_, ?_⟩
          · rw [hi, show ((10 ^ (i + 1) : Nat) : Int) = ((10 ^ i * 10 : Nat) : Int) by rw [Nat.pow_succ], show Int.tdiv ((10 ^ i * 10 : Nat) : Int) 10 = ((10 ^ i * 10 / 10 : Nat) : Int) from (Int.ofNat_tdiv (10 ^ i * 10) 10).symm, Nat.mul_div_cancel _ (by decide)]
          · rw [← hpr, List.append_assoc]; rfl
    · have : 10 ≤ N / 10 ^ j := by omega
      have := (Nat.le_div_iff_mul_le (by omega : 0 < 10 ^ j)).mp this
      rw [Nat.pow_succ]
      omega
  · have hs := hr.t hc
    have kd := (ob_isSym hT a0 a1).mp hs
    have hv := hT.sym a0 a1 kd
    have eA : Ob.atomT (ob u a) = lts u (u.2.1 1 a) := by rw [ob_sym kd, atomT_sym (hU.2.2.2.2 a a0 a1 kd)]
    rw [eA] at hq
    have ltk : ∀ n : Nat, (n : Int) < u.2.1 10 (u.2.1 1 a) → (lts u (u.2.1 1 a)).take (n + 1) = (lts u (u.2.1 1 a)).take n ++ [u.2.1 9 (12 * u.2.1 1 a + (n : Int))] := by
      intro n hn
      have hl : n < (lts u (u.2.1 1 a)).length := by unfold lts; simp; omega
      rw [List.take_add_one, List.getElem?_eq_getElem hl]
      congr 1
      simp [lts]
    refine pw_tellAtom_10_i (fun x1 x2 v => x1 = a ∧ ∃ n : Nat, x2 = (n : Int) ∧ (n : Int) ≤ u.2.1 10 (u.2.1 1 a) ∧ Tl f7L u v ((lts u (u.2.1 1 a)).take n)) ?_ ⟨rfl, 0, rfl, by omega, by rw [List.take_zero]; exact Tl.rf hT hU hL⟩
    intro x1 x2 v hI
    obtain ⟨e1, n, en, hn, ht⟩ := hI
    rw [e1, en]
    have r1 : v.2.1 1 a = u.2.1 1 a := (ht.1.2.2.1.2.1 a a0 a1).2.1
    have r10 : v.2.1 10 (u.2.1 1 a) = u.2.1 10 (u.2.1 1 a) := ht.1.2.2.1.2.2.2.1 _ hv.1 hv.2.1
    unfold pw_tellAtom_10b
    intro _ _ x ex _ _ _ y ey _
    rw [r1] at ex
    rw [ex, r10] at ey
    rw [ey]
    refine ⟨fun hc => hq v ?_, fun hc => ?_⟩
    · have hl : (lts u (u.2.1 1 a)).length ≤ n := by unfold lts; simp; omega
      rw [List.take_of_length_le hl] at ht
      exact ht
    · intro _ _ z ez _ _ _ _ _ c ec _
      rw [r1] at ez
      rw [ez, ht.1.2.2.1.2.2.2.2 _ (by omega) (by omega)] at ec
      rw [ec]
      refine p_tellLetter ht.1.1 ht.1.2.1 ht.2.2.1 (fun w hw _ => ⟨e1 ▸ rfl, n + 1, by omega, by omega, ?_⟩)
      rw [ltk n (by omega)]
      exact ht.tr hw
