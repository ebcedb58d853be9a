-- deps: 7998992
/-! bytes of what waits -/
theorem and255 [DecidableEq Ob] (b : BitVec 32) (k : Nat) (hk : k + 8 ≤ 32) : (b >>> k) &&& 255#32 = (b.sshiftRight k) &&& 255#32 := by
  apply BitVec.eq_of_getLsbD_eq
  intro i hi
  rw [BitVec.getLsbD_and, BitVec.getLsbD_and, BitVec.getLsbD_ushiftRight, BitVec.getLsbD_sshiftRight]
  by_cases h8 : i < 8
  · rw [if_pos (by omega), decide_eq_false (show ¬ 32 ≤ i by omega)]
    rfl
  · have q : ∀ i : Fin 32, 8 ≤ i.val → (255#32).getLsbD i.val = false := by decide
    have := q ⟨i, hi⟩ (by show 8 ≤ i; omega)
    have this : (255#32).getLsbD i = false := this
    rw [this, Bool.and_false, Bool.and_false]
theorem and255_r [DecidableEq Ob] (b : BitVec 32) : 0 ≤ (b &&& 255#32).toInt ∧ (b &&& 255#32).toInt < 256 := by
  have h1 : (b &&& 255#32).toNat ≤ 255 := by
    rw [BitVec.toNat_and]
    exact Nat.and_le_right
  rw [BitVec.toInt_eq_toNat_cond, if_pos (by omega)]
  omega
theorem wi2c_256 [DecidableEq Ob] : ∀ n : Nat, n < 256 → wi2c (n : Int) = (n : Int) := by decide +kernel
theorem sh_eq [DecidableEq Ob] {s : Int} (hs : s = 0 ∨ s = 8 ∨ s = 16 ∨ s = 24) (y : Int32) : ((y.toUInt32 >>> ((jI s).toUInt32 &&& Int32.toUInt32 31)).toInt32 &&& jI 255) = ((y >>> (jI s &&& 31)) &&& jI 255) := by
  rcases hs with h | h | h | h <;> rw [h]
  · exact congrArg (fun b : BitVec 32 => (⟨⟨b⟩⟩ : Int32)) (and255 y.toBitVec 0 (by decide))
  · exact congrArg (fun b : BitVec 32 => (⟨⟨b⟩⟩ : Int32)) (and255 y.toBitVec 8 (by decide))
  · exact congrArg (fun b : BitVec 32 => (⟨⟨b⟩⟩ : Int32)) (and255 y.toBitVec 16 (by decide))
  · exact congrArg (fun b : BitVec 32 => (⟨⟨b⟩⟩ : Int32)) (and255 y.toBitVec 24 (by decide))
theorem byte_c [DecidableEq Ob] {s : Int} (x : Int) (hs : s = 0 ∨ s = 8 ∨ s = 16 ∨ s = 24) : wi2c (wand (wushr x s) 255) = Sp.byte x s ∧ 0 ≤ Sp.byte x s ∧ Sp.byte x s < 256 := by
  have e : wand (wushr x s) 255 = Sp.byte x s := by
    unfold Sp.byte wand wushr wshr
    rw [show ∀ z : Int32, jI z.toInt = z from fun z => Int32.ofInt_toInt z, show ∀ z : Int32, jI z.toInt = z from fun z => Int32.ofInt_toInt z, sh_eq hs]
  have r : 0 ≤ Sp.byte x s ∧ Sp.byte x s < 256 := by
    unfold Sp.byte wand
    exact and255_r _
  refine ⟨?_, r⟩
  rw [e]
  have := wi2c_256 (Sp.byte x s).toNat (by omega)
  rw [show (((Sp.byte x s).toNat : Nat) : Int) = Sp.byte x s by omega] at this
  exact this
def wt5 [DecidableEq Ob] (u : iST) : List Int := [u.2.1 45 0, u.2.1 45 1, u.2.1 45 2, u.2.1 45 3, u.2.1 45 4]
def btC [DecidableEq Ob] (u : iST) (i : Int) : Int := Sp.byte (u.2.1 45 (Int.tdiv i 4)) (24 - (Int.tmod i 4) * 8)
theorem sh_at [DecidableEq Ob] {i : Int} (h : 0 ≤ i) : 24 - (Int.tmod i 4) * 8 = 0 ∨ 24 - (Int.tmod i 4) * 8 = 8 ∨ 24 - (Int.tmod i 4) * 8 = 16 ∨ 24 - (Int.tmod i 4) * 8 = 24 := by
  rw [Int.tmod_eq_emod_of_nonneg h]
  omega
theorem feedW_at [DecidableEq Ob] (u : iST) {i : Nat} (h : i < 20) : Sp.byte ((wt5 u).getD (i / 4) 0) (24 - 8 * ((i % 4 : Nat) : Int)) = btC u (i : Int) := by
  unfold btC
  have e1 : 24 - 8 * ((i % 4 : Nat) : Int) = 24 - (Int.tmod (i : Int) 4) * 8 := by
    rw [Int.tmod_eq_emod_of_nonneg (by omega)]
    omega
  have e2 : Int.tdiv (i : Int) 4 = ((i / 4 : Nat) : Int) := by
    rw [Int.tdiv_eq_ediv_of_nonneg (by omega)]
    omega
  rw [e1, e2]
  have hd : i / 4 = 0 ∨ i / 4 = 1 ∨ i / 4 = 2 ∨ i / 4 = 3 ∨ i / 4 = 4 := by omega
  rcases hd with hd | hd | hd | hd | hd <;> rw [hd] <;> rfl
theorem feedW_take [DecidableEq Ob] (u : iST) {n : Nat} (h : n ≤ 20) : (Sp.feedW (wt5 u)).take n = (List.range n).map (fun i : Nat => btC u (i : Int)) := by
  unfold Sp.feedW
  rw [← List.map_take, List.take_range, Nat.min_eq_left h]
  exact List.map_congr_left (fun i hi => feedW_at u (by have := List.mem_range.mp hi; omega))
theorem feedW_0 [DecidableEq Ob] : Sp.feedW [0, 0, 0, 0, 0] = List.replicate 20 0 := rfl
/-- 30 if something waits -/
def wzC [DecidableEq Ob] (u : iST) : Int := if wt5 u = [0, 0, 0, 0, 0] then 0 else 30
theorem wzC_r [DecidableEq Ob] (u : iST) : 0 ≤ wzC u ∧ wzC u ≤ 30 := by unfold wzC; split <;> decide
theorem nzT_app [DecidableEq Ob] (a b : List Int) : nzT (a ++ b) = nzT a + nzT b := by
  unfold nzT
  rw [List.filter_append, List.length_append]
  omega
theorem nzT_len [DecidableEq Ob] (a : List Int) : nzT a ≤ (a.length : Int) := by
  unfold nzT
  have := List.length_filter_le (fun c : Int => decide (c ≠ 0)) a
  omega
theorem nzT_0 [DecidableEq Ob] : ∀ n : Nat, nzT (List.replicate n 0) = 0
  | 0 => rfl
  | n + 1 => by
    rw [List.replicate_succ]
    have := nzT_0 n
    unfold nzT at this ⊢
    rw [List.filter_cons, if_neg (by decide)]
    exact this
/-- the class between calls; n: what is kept or may come -/
def CfS [DecidableEq Ob] (u : iST) (S : Sp.St) (n : Int) : Prop := (∃ m, HC u S.1 m) ∧ FlOk S.1 ∧ (S.2.1 ≤ 1000 ∧ u.1 43 = (S.2.1 : Int)) ∧ ((0 ≤ u.1 42 ∧ u.1 42 ≤ 3000) ∧ ChC u (u.1 42) ∧ txN u 0 (u.1 42).toNat = S.2.2.1) ∧ Sp.feedW (wt5 u) = S.2.2.2.1 ∧ u.1 48 = S.2.2.2.2.1 ∧ bq (u.1 50) S.2.2.2.2.2.2 ∧ u.1 3 + 3 * nzT S.2.2.1 + wzC u ≤ n
theorem HC.io [DecidableEq Ob] {u v : iST} {H : Sp.Hs} {m : List Ob} (h : HC u H m) (hc : v.2.2 = u.2.2) (hn : ∀ k, k ≠ 42 → k ≠ 43 → v.1 k = u.1 k) (hr : ∀ k, k ≠ 44 → k ≠ 45 → v.2.1 k = u.2.1 k) : HC v H m := by
  obtain ⟨a, b⟩ := CT_same (v := v) h.1 (hn 29 (by decide) (by decide)) (fun k _ _ => hr k (by omega) (by omega)) hc
  have g : CG (fun k => decide (k = 42 ∨ k = 43)) (fun k => decide (k = 44 ∨ k = 45)) u v := ⟨a, b, fun k hk => hn k (fun z => of_decide_eq_false hk (Or.inl z)) (fun z => of_decide_eq_false hk (Or.inr z)), fun k hk => hr k (fun z => of_decide_eq_false hk (Or.inl z)) (fun z => of_decide_eq_false hk (Or.inr z))⟩
  exact h.keep g (fun k hk => hn k (by omega) (by omega)) (fun k hk => hr k (by omega) (by omega))
theorem txN_same [DecidableEq Ob] {u v : iST} (h : v.2.1 44 = u.2.1 44) (a : Int) (n : Nat) : txN v a n = txN u a n := by unfold txN; rw [h]
theorem pc_feedS [DecidableEq Ob] {a b c d e : Int} {Q : iST → Prop} {u : iST} {S : Sp.St} {n : Int} (hS : CfS u S n) (hq : ∀ v, CfS v (S.1, S.2.1, S.2.2.1, Sp.feedW [a, b, c, d, e], S.2.2.2.2) (n + 30) → KpG u v → v.1 29 = u.1 29 → Q v) : pv_11_feed a b c d e Q u := by
  obtain ⟨⟨m, h1⟩, h2, h3, ⟨h4, h4b, h4c⟩, h5, h6, h7, h8⟩ := hS
  unfold pv_11_feed
  intro _ _ v1 e1 _ _ v2 e2 _ _ v3 e3 _ _ v4 e4 _ _ v5 e5
  have n1 : v5.1 = u.1 := by rw [e5, e4, e3, e2, e1]; rfl
  have n2 : v5.2.2 = u.2.2 := by rw [e5, e4, e3, e2, e1]; rfl
  have n3 : ∀ k, k ≠ 45 → v5.2.1 k = u.2.1 k := fun k hk => by
    rw [e5, e4, e3, e2, e1]
    exact (if_neg hk).trans ((if_neg hk).trans ((if_neg hk).trans ((if_neg hk).trans (if_neg hk))))
  have n4 : wt5 v5 = [a, b, c, d, e] := by rw [e5, e4, e3, e2, e1]; rfl
  have z := wzC_r v5
  have z0 := wzC_r u
  refine hq v5 ⟨⟨m, h1.io n2 (fun k _ _ => by rw [n1]) (fun k _ hk => n3 k hk)⟩, h2, ⟨h3.1, by rw [n1]; exact h3.2⟩, ⟨by rw [n1]; exact h4, ?_, ?_⟩, by rw [n4], by rw [n1]; exact h6, by rw [n1]; exact h7, ?_⟩ ⟨⟨by rw [n1], by rw [n1], by rw [n1], by rw [n1]⟩, fun k hk => n3 k (by omega), ⟨by rw [n1]; exact Int.le_refl _, fun k _ _ => by rw [n2]⟩, by rw [n1], by rw [n1], by rw [n1]⟩ (by rw [n1])
  · intro i i0 i1
    rw [n1] at i1
    rw [n3 44 (by decide)]
    exact h4b i i0 i1
  · rw [txN_same (n3 44 (by decide)), n1]
    exact h4c
  · show v5.1 3 + 3 * nzT S.2.2.1 + wzC v5 ≤ n + 30
    rw [n1]
    omega
theorem pc_endS [DecidableEq Ob] {a : Int} {Q : Int → iST → Prop} {u : iST} {S : Sp.St} {n : Int} (hS : CfS u S n) (hq : ∀ v, CfS v (Sp.endS S a) (n + 30) → KpG u v → v.1 29 = u.1 29 → Q (Sp.endA S a) v) : pv_11_end a Q u := by
  have hS0 := hS
  obtain ⟨⟨m, h1⟩, h2, h3, ⟨h4, h4b, h4c⟩, h5, h6, h7, h8⟩ := hS
  have hl : (S.2.2.1.length : Int) = u.1 42 := by
    rw [← h4c, txN_len]
    omega
  have bad : (a < 0 ∨ 20 < a ∨ 3000 < (S.2.2.1.length : Int) + a) → Q (-1) u := fun h => by
    have := hq u (by
      unfold Sp.endS
      rw [if_pos h]
      exact ⟨⟨m, h1⟩, h2, h3, ⟨h4, h4b, h4c⟩, h5, h6, h7, by omega⟩) (KpG.rf u) rfl
    unfold Sp.endA at this
    rw [if_pos h] at this
    exact this
  unfold pv_11_end
  refine ⟨fun h => bad (Or.inl h), fun h0 => ⟨fun h => bad (Or.inr (Or.inl h)), fun h20 => ?_⟩⟩
  intro x ex _ _
  rw [ex]
  refine ⟨fun hx3 => ?_, fun hx3 => bad (Or.inr (Or.inr (by omega)))⟩
  have hno : ¬ (a < 0 ∨ 20 < a ∨ 3000 < (S.2.2.1.length : Int) + a) := by omega
  unfold Sp.endA Sp.endS at hq
  rw [if_neg hno, if_neg hno] at hq
  refine pv_11_end_26_i (fun x1 x2 v => x1 = a ∧ 0 ≤ x2 ∧ x2 ≤ a ∧ v.1 = u.1 ∧ v.2.2 = u.2.2 ∧ (∀ k, k ≠ 44 → v.2.1 k = u.2.1 k) ∧ (∀ i, i < u.1 42 → v.2.1 44 i = u.2.1 44 i) ∧ ∀ i, 0 ≤ i → i < x2 → v.2.1 44 (u.1 42 + i) = btC u i) ?_ ⟨rfl, Int.le_refl _, by omega, rfl, rfl, fun _ _ => rfl, fun _ _ => rfl, fun i i0 i1 => by omega⟩
  rintro x1 x2 v ⟨e1, a0, a1, v1, v22, vr, vl, vc⟩
  rw [e1]
  unfold pv_11_end_26b
  refine ⟨fun hle => ?_, fun hlt => ?_⟩
  · intro y ey _ _ w ew f f1 f2 q eq _
    rw [v1] at ey
    have hx : x2 = a := by omega
    rw [hx] at vc
    have wn : ∀ k, k ≠ 42 → w.1 k = u.1 k := fun k hk => by rw [ew, iIc_ne _ _ hk, v1]
    have w42 : w.1 42 = u.1 42 + a := by rw [ew, iIc_at, ey]
    have w2 : w.2 = v.2 := by rw [ew]; rfl
    have z1 : (iRw w 45 f).1 = w.1 := rfl
    have z22 : (iRw w 45 f).2.2 = u.2.2 := by show w.2.2 = _; rw [w2, v22]
    have zr : ∀ k, k ≠ 44 → k ≠ 45 → (iRw w 45 f).2.1 k = u.2.1 k := fun k k4 k5 => by
      show (if k = 45 then f else w.2.1 k) = _
      rw [if_neg k5, w2, vr k k4]
    have z44 : (iRw w 45 f).2.1 44 = v.2.1 44 := by
      show (if 44 = 45 then f else w.2.1 44) = _
      rw [if_neg (by decide), w2]
    have z5 : wt5 (iRw w 45 f) = [0, 0, 0, 0, 0] := by
      show [f 0, f 1, f 2, f 3, f 4] = _
      rw [f2 0 (by decide) (by decide), f2 1 (by decide) (by decide), f2 2 (by decide) (by decide), f2 3 (by decide) (by decide), f2 4 (by decide) (by decide)]
    have bt_r : ∀ i, 0 ≤ i → 0 ≤ btC u i ∧ btC u i < 256 := fun i hi => (byte_c _ (sh_at hi)).2
    have ft := feedW_take u (n := a.toNat) (by omega)
    rw [h5] at ft
    rw [eq, z1, w42, ← hl]
    refine hq (iRw w 45 f) ⟨⟨m, h1.io z22 (fun k k4 _ => by rw [z1, wn k k4]) zr⟩, h2, ⟨h3.1, by rw [z1, wn 43 (by decide)]; exact h3.2⟩, ⟨by rw [z1, w42]; omega, ?_, ?_⟩, by rw [z5]; exact feedW_0, by rw [z1, wn 48 (by decide)]; exact h6, by rw [z1, wn 50 (by decide)]; exact h7, ?_⟩ ⟨⟨by rw [z1, wn 13 (by decide)], by rw [z1, wn 15 (by decide)], by rw [z1, wn 26 (by decide)], by rw [z1, wn 50 (by decide)]⟩, fun k hk => zr k (by omega) (by omega), ⟨by rw [z1, wn 29 (by decide)]; exact Int.le_refl _, fun k _ _ => by rw [z22]⟩, by rw [z1, wn 0 (by decide)], by rw [z1, wn 1 (by decide)], by rw [z1, wn 25 (by decide)]⟩ (by rw [z1, wn 29 (by decide)])
    · intro i i0 i1
      rw [z1, w42] at i1
      rw [z44]
      by_cases ci : i < u.1 42
      · rw [vl i ci]; exact h4b i i0 ci
      · have := vc (i - u.1 42) (by omega) (by omega)
        rw [show u.1 42 + (i - u.1 42) = i by omega] at this
        rw [this]
        exact bt_r _ (by omega)
    · show txN (iRw w 45 f) 0 ((iRw w 45 f).1 42).toNat = S.2.2.1 ++ S.2.2.2.1.take a.toNat
      rw [z1, w42, ft, ← h4c]
      unfold txN
      rw [z44, show (u.1 42 + a).toNat = (u.1 42).toNat + a.toNat by omega, List.range_add, List.map_append, List.map_map]
      have q1 : (List.range (u.1 42).toNat).map (fun i : Nat => v.2.1 44 (0 + (i : Int))) = (List.range (u.1 42).toNat).map (fun i : Nat => u.2.1 44 (0 + (i : Int))) := List.map_congr_left (fun i hi => vl _ (by have := List.mem_range.mp hi; omega))
      rw [q1]
      refine congrArg (fun q => _ ++ q) (List.map_congr_left (fun i hi => ?_))
      have := List.mem_range.mp hi
      show v.2.1 44 (0 + (((u.1 42).toNat + i : Nat) : Int)) = btC u (i : Int)
      rw [show (0 : Int) + (((u.1 42).toNat + i : Nat) : Int) = u.1 42 + (i : Int) by omega]
      exact vc _ (by omega) (by omega)
    · show (iRw w 45 f).1 3 + 3 * nzT (S.2.2.1 ++ S.2.2.2.1.take a.toNat) + wzC (iRw w 45 f) ≤ n + 30
      rw [nzT_app, z1, wn 3 (by decide)]
      have zz : wzC (iRw w 45 f) = 0 := by unfold wzC; rw [if_pos z5]
      rw [zz]
      by_cases cz : wt5 u = [0, 0, 0, 0, 0]
      · have e0 : S.2.2.2.1 = List.replicate 20 0 := by rw [← h5, cz]; exact feedW_0
        have : nzT (S.2.2.2.1.take a.toNat) = 0 := by rw [e0, List.take_replicate]; exact nzT_0 _
        have := wzC_r u
        omega
      · have zu : wzC u = 30 := by unfold wzC; rw [if_neg cz]
        have t1 := nzT_len (S.2.2.2.1.take a.toNat)
        have t2 : ((S.2.2.2.1.take a.toNat).length : Int) ≤ 20 := by
          rw [List.length_take]
          omega
        omega
  · intro y ey _ _
    refine ⟨by decide, fun _ _ => ?_⟩
    intro g eg _
    refine ⟨by decide, fun _ _ => ?_⟩
    intro g2 eg2 _ g3 eg3 _ g4 eg4 _ _ _ _ w ew _
    rw [v1] at ey
    rw [vr 45 (by decide)] at eg
    have hb : g4 = btC u x2 := by
      rw [eg4, eg3, eg2, eg]
      exact (byte_c _ (sh_at a0)).1
    rw [ey] at ew
    refine ⟨rfl, by omega, by omega, by rw [ew]; exact v1, by rw [ew]; exact v22, fun k hk => by rw [ew]; exact (if_neg hk).trans (vr k hk), fun i hi => ?_, fun i i0 i1 => ?_⟩
    · rw [ew]
      show (if i = u.1 42 + x2 then g4 else v.2.1 44 i) = _
      rw [if_neg (by omega), vl i hi]
    · rw [ew]
      show (if u.1 42 + i = u.1 42 + x2 then g4 else v.2.1 44 (u.1 42 + i)) = _
      by_cases q : i = x2
      · rw [if_pos (by omega), hb, q]
      · rw [if_neg (by omega)]; exact vc i i0 (by omega)
theorem pc_fuelS [DecidableEq Ob] {a : Int} {Q : Int → iST → Prop} {u : iST} {S : Sp.St} {n : Int} (hS : CfS u S n) (hq : ∀ v, CfS v (Sp.fuelS S a) n → KpG u v → v.1 29 = u.1 29 → Q (Sp.fuelA S a) v) : pv_11_fuel a Q u := by
  have bad : (a < 1 ∨ 1000 < a) → Q (-1) u := fun h => by
    have := hq u (by unfold Sp.fuelS; rw [if_pos h]; exact hS) (KpG.rf u) rfl
    unfold Sp.fuelA at this
    rw [if_pos h] at this
    exact this
  unfold pv_11_fuel
  refine ⟨fun h => bad (Or.inl h), fun h0 => ⟨fun h => ?_, fun h => bad (Or.inr (by omega))⟩⟩
  intro x ex _ w ew
  have hno : ¬ (a < 1 ∨ 1000 < a) := by omega
  unfold Sp.fuelA Sp.fuelS at hq
  rw [if_neg hno, if_neg hno] at hq
  obtain ⟨⟨m, h1⟩, h2, h3, ⟨h4, h4b, h4c⟩, h5, h6, h7, h8⟩ := hS
  have wn : ∀ k, k ≠ 43 → w.1 k = u.1 k := fun k hk => by rw [ew, iIc_ne _ _ hk]
  have w2 : w.2 = u.2 := by rw [ew]; rfl
  rw [ex, h3.2]
  refine hq w ⟨⟨m, by rw [ew]; exact h1.i (by decide)⟩, h2, ⟨by show a.toNat ≤ 1000; omega, by rw [ew, iIc_at]; show a = ((a.toNat : Nat) : Int); omega⟩, ⟨by rw [wn 42 (by decide)]; exact h4, ?_, ?_⟩, ?_, by rw [wn 48 (by decide)]; exact h6, by rw [wn 50 (by decide)]; exact h7, ?_⟩ ⟨⟨wn 13 (by decide), wn 15 (by decide), wn 26 (by decide), wn 50 (by decide)⟩, fun k _ => by rw [w2], ⟨by rw [wn 29 (by decide)]; exact Int.le_refl _, fun k _ _ => by rw [w2]⟩, wn 0 (by decide), wn 1 (by decide), wn 25 (by decide)⟩ (wn 29 (by decide))
  · rw [wn 42 (by decide)]
    intro i i0 i1
    rw [w2]
    exact h4b i i0 i1
  · have et : txN w 0 (u.1 42).toNat = txN u 0 (u.1 42).toNat := txN_same (by rw [w2]) 0 _
    rw [wn 42 (by decide), et]
    exact h4c
  · show Sp.feedW (wt5 w) = _
    unfold wt5 at h5 ⊢
    rw [w2]
    exact h5
  · show w.1 3 + 3 * nzT S.2.2.1 + wzC w ≤ n
    unfold wzC wt5 at h8 ⊢
    rw [wn 3 (by decide), w2]
    exact h8
theorem pc_stepsS [DecidableEq Ob] {Q : Int → iST → Prop} {u : iST} {S : Sp.St} {n : Int} (hS : CfS u S n) (hq : Q S.2.2.2.2.1 u) : pv_11_steps Q u := by
  unfold pv_11_steps
  intro v ev _
  rw [ev, hS.2.2.2.2.2.1]
  exact hq
theorem pc_takenS [DecidableEq Ob] {a : Int} {Q : Int → iST → Prop} {u : iST} {S : Sp.St} {n : Int} (hS : CfS u S n) (hq : Q (Sp.takenC S.1 a) u) : pv_11_taken a Q u := by
  obtain ⟨⟨m, h1⟩, _⟩ := hS
  obtain ⟨k0, hk⟩ := h1.2.2.2.2.2.1
  unfold Sp.takenC at hq
  unfold pv_11_taken
  refine ⟨fun h => ?_, fun h => ?_⟩
  · rw [if_pos h] at hq
    exact hq
  · rw [if_neg h] at hq
    intro v ev _
    rw [ev]
    refine ⟨fun h2 => ?_, fun h2 => fun _ _ => fun x ex _ => ?_⟩
    · have : S.1.2.2.getD a.toNat 0 = 0 := by
        rw [List.getD_eq_getElem?_getD, hk, List.getElem?_eq_none (by unfold kdC; rw [List.length_map, List.length_range]; omega)]
        rfl
      rw [this] at hq
      exact hq
    · have : S.1.2.2.getD a.toNat 0 = u.2.1 14 a := by
        rw [List.getD_eq_getElem?_getD, hk, kdC_get (by omega)]
        show u.2.1 14 ((a.toNat : Nat) : Int) = _
        rw [show ((a.toNat : Nat) : Int) = a by omega]
      rw [ex, ← this]
      exact hq
theorem pc_runS [DecidableEq Ob] {Q : Int → iST → Prop} {u : iST} {S : Sp.St} {n : Int} (hn : n ≤ 15450) (hS : CfS u S n) (hq : ∀ ans v r, Sp.RanT0 S.1 S.2.1 S.2.2.1 r → CfS v (Sp.runS S r) n → (v.1 15 = (r.2.2.1 : Int) ∧ (r.2.2.2 = true → NgI v ∧ r.2.2.1 = 0)) → v.1 29 ≤ 144550 + n → Q ans v) : pv_11_run Q u := by
  obtain ⟨⟨m, h1⟩, h2, h3, ⟨h4, h4b, h4c⟩, h5, h6, h7, h8⟩ := hS
  have z := wzC_r u
  have hH := h1.2.2.2.2.1.1
  refine pc_run (γ := 15450 - n) h1 h3.2 h3.1 h4.1 h4.2 h4b (by omega) (by rw [h4c]; omega) (fun o B _ ho hB ha => fitR_of hH h2 h3.1 ho hB ha) (fun ans w r hr hw => ?_)
  rw [h4c] at hr hw
  obtain ⟨w1, w48, w15, w50, ⟨w42, w43, w3, w29⟩, w45, wng⟩ := hw
  have e5 : wt5 w = wt5 u := by unfold wt5; rw [w45]
  refine hq ans w r hr ⟨w1, RanT0_fl hr h2, ⟨h3.1, by rw [w43]; exact h3.2⟩, ⟨by rw [w42]; decide, ?_, by rw [w42]; rfl⟩, by rw [e5]; exact h5, w48, w50, ?_⟩ ⟨w15, wng⟩ (by omega)
  · rw [w42]
    intro i i0 i1
    omega
  · show w.1 3 + 3 * nzT [] + wzC w ≤ n
    have : nzT [] = 0 := rfl
    have : wzC w = wzC u := by unfold wzC; rw [e5]
    omega
