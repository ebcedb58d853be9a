section
variable {p : Program} {l : Launch} {e : Env} {R : Room} {s : State} {m : MethodId} {args : Array Value} {below : List Frame} {meth : Method} {c : Code} {H : Heap} {locs : List Loc} {cells slots : Nat} {Q : State → Prop}
/-- a loop that changes its locals alone -/
theorem w_loop {pc nL : Nat} {α : Type} (lst : α → List (Nat × Value)) (μ : α → Nat) (I : α → Prop) (step : ∀ (a : α) (ls : Array Slot), I a → lv_has ls nL (lst a) → (∀ (b : α) (ls' : Array Slot), I b → μ b < μ a → lv_has ls' nL (lst b) → W p l e R s m args below meth c H locs cells slots Q (F0 m pc ls' [])) → W p l e R s m args below meth c H locs cells slots Q (F0 m pc ls [])) (a : α) (ls : Array Slot) (hI : I a) (hl : lv_has ls nL (lst a)) : W p l e R s m args below meth c H locs cells slots Q (F0 m pc ls []) := by
  have key : ∀ (n : Nat) (a : α) (ls : Array Slot), μ a < n → I a → lv_has ls nL (lst a) → W p l e R s m args below meth c H locs cells slots Q (F0 m pc ls []) := by
    intro n
    induction n with
    | zero => intro a ls h; exact absurd h (Nat.not_lt_zero _)
    | succ n ih => intro a ls h hI hl; exact step a ls hI hl (fun b ls' hb hm hl' => ih b ls' (by omega) hb hl')
  exact key (μ a + 1) a ls (Nat.lt_succ_self _) hI hl
/-- a loop that changes the reference's state too -/
theorem w_loopS {D : va_G} {ca : Nat → ClassId} {A : Nat → Prop} {H0 : Heap} {h0 : Nat} {ad : Nat → Nat} {pc nL : Nat} {α : Type} (sta : α → mST) (lst : α → List (Nat × Value)) (μ : α → Nat) (I : α → Prop) (step : ∀ (a : α) (H : Heap) (locs : List Loc) (ls : Array Slot), I a → va_P D vwCl (mCl ca h0 ad (sta a)) H → va_D A (mCl ca h0 ad (sta a)) → va_S A H0 H locs → lv_has ls nL (lst a) → (∀ (b : α) (H : Heap) (locs : List Loc) (ls' : Array Slot), I b → μ b < μ a → va_P D vwCl (mCl ca h0 ad (sta b)) H → va_D A (mCl ca h0 ad (sta b)) → va_S A H0 H locs → lv_has ls' nL (lst b) → W p l e R s m args below meth c H locs cells slots Q (F0 m pc ls' [])) → W p l e R s m args below meth c H locs cells slots Q (F0 m pc ls [])) (a : α) (ls : Array Slot) (hI : I a) (hP : va_P D vwCl (mCl ca h0 ad (sta a)) H) (hD : va_D A (mCl ca h0 ad (sta a))) (hS : va_S A H0 H locs) (hl : lv_has ls nL (lst a)) : W p l e R s m args below meth c H locs cells slots Q (F0 m pc ls []) := by
  have key : ∀ (n : Nat) (a : α) (H : Heap) (locs : List Loc) (ls : Array Slot), μ a < n → I a → va_P D vwCl (mCl ca h0 ad (sta a)) H → va_D A (mCl ca h0 ad (sta a)) → va_S A H0 H locs → lv_has ls nL (lst a) → W p l e R s m args below meth c H locs cells slots Q (F0 m pc ls []) := by
    intro n
    induction n with
    | zero => intro a H locs ls h; exact absurd h (Nat.not_lt_zero _)
    | succ n ih => intro a H locs ls h hI hP hD hS hl; exact step a H locs ls hI hP hD hS hl (fun b H locs ls' hb hm hP hD hS hl' => ih b H locs ls' (by omega) hb hP hD hS hl')
  exact key (μ a + 1) a H locs ls (Nat.lt_succ_self _) hI hP hD hS hl
end

set_option maxHeartbeats 4000000 in
set_option maxRecDepth 100000 in
/-- spelled(from, n, true) -/
theorem c_m_spelled (l : Launch) (D : va_G) (ca : Nat → ClassId) (h0 sz : Nat) (ad : Nat → Nat) (u : mST) (a : Int32) (b : Int32)  (N : Nat) (hbN : b = nI N) (hN : N ≤ 12) : Met l yX12_spelled wsX12_spelled pR_0 (va_Pc [.ref (h0), .int (a), .int (b), .int (1)] (fun U => U.heap.size = sz ∧ mWd D ca (fun _ => True) h0 ad u U)) (va_Qi (fun (r : Int32) (v : mST) => v = u ∧ ∃ j : Nat, j < 8192 ∧ r = nI j) (mWd D ca (va_A (mCl ca h0 ad u) sz) h0 ad) (va_A (mCl ca h0 ad u) sz)) 0 0 (va_A (mCl ca h0 ad u) sz) := by
  refine Met.ofW (cc := cX12_spelled) (maxL := 6) (ret := (some .int)) (by decide) rfl ?_
  intro p e s m args below meth c s₁ B hml hv
  obtain ⟨rfl, hsz, hP, hK, hD0⟩ := hv
  have hx := B.exec
  have hb := B.bytes
  have hr := B.returns
  have hts := atoms_spec (ws := wsX12_spelled) B.pre
  have hown : s.vm.findClass RX12 = some m.cls := findClass_of_methodNamed B.named
  have hlocks := B.notSynchronized
  subst hsz
  have hD := hD0.self (sz := s.heap.size)
  generalize hAe : va_A (mCl ca h0 ad u) s.heap.size = A at hD ⊢
  have hA : ∀ q : Nat, s.heap.size ≤ q → A q := fun q h => by rw [← hAe]; exact Or.inr h
  have hS : va_S A s.heap s.heap [] := va_S.rf
  have L_word := hts (.fieldLink RX12 50 "ProofHouseModel" "word" "[I") (by decide +kernel)
  have L_names := hts (.fieldLink RX12 35 "ProofHouseModel" "names" "[I") (by decide +kernel)
  have hin : ∀ w ∈ wsX120, w ∈ wsX12_spelled := fun w h => List.mem_cons_of_mem _ (List.mem_append_right _ h)
  have hl := lv_entry ([.ref (h0), .int (a), .int (b), .int (1)]) (n := 6) (Nat.le_of_ble_eq_true rfl)
  rw [lg_entry_eq]
  generalize (lg_sl ([.ref (h0), .int (a), .int (b), .int (1)]) ++ List.replicate (6 - (lg_sl ([.ref (h0), .int (a), .int (b), .int (1)])).length) Slot.unset).toArray = ls at hl ⊢
  have hl : lv_has ls 6 [(0, .ref (h0)), (1, .int (a)), (2, .int (b)), (3, .int (1))] := hl
  refine lv_iconst hx hb dX12_spelled_0 (v := 5) rfl ?_
  refine lv_istore hx hb dX12_spelled_1 hl (by decide) rfl (fun ls hl => ?_)
  have hl : lv_has ls 6 [(4, .int (5)), (0, .ref (h0)), (1, .int (a)), (2, .int (b)), (3, .int (1))] := hl
  refine lv_iconst hx hb dX12_spelled_3 (v := 0) rfl ?_
  refine lv_istore hx hb dX12_spelled_4 hl (by decide) rfl (fun ls hl => ?_)
  have hl : lv_has ls 6 [(5, .int (0)), (4, .int (5)), (0, .ref (h0)), (1, .int (a)), (2, .int (b)), (3, .int (1))] := hl
  refine w_loop (nL := 6) (lst := fun q : Int32 × Nat => [(5, .int (nI q.2)), (4, .int q.1), (0, .ref h0), (1, .int a), (2, .int b), (3, .int 1)]) (μ := fun q => N - q.2) (I := fun q => q.2 ≤ N) ?_ (5, 0) ls (Nat.zero_le _) hl
  intro q ls hI hl ih
  obtain ⟨x4, j⟩ := q
  have hl : lv_has ls 6 [(5, .int (nI j)), (4, .int (x4)), (0, .ref (h0)), (1, .int (a)), (2, .int (b)), (3, .int (1))] := hl
  refine lv_iload hx hb dX12_spelled_6 (lv_at hl 0 rfl) ?_
  refine lv_iload_n hx hb dX12_spelled_8 rfl (lv_at hl 4 rfl) ?_
  refine lv_icmp_ge hx hb dX12_spelled_9 (tgt := 50) rfl (fun h1 => ?_) (fun h1 => ?_)
  · refine lv_iload hx hb dX12_spelled_50 (lv_at hl 1 rfl) ?_
    refine lv_sipush hx hb dX12_spelled_52 (v := 8191) rfl ?_
    refine lv_iand hx hb dX12_spelled_55 ?_
    exact W.iret (v := x4 &&& 8191) hx hb hr (fun t ht hW => ⟨⟨x4 &&& 8191, u, rfl, ⟨rfl, pk_andE _ 13 (by decide)⟩, by rw [ht]; exact hP, va_K.moved hW.alike hK, hD⟩, hS.F ht⟩) hS.2.2 dX12_spelled_56
  · have hj : j < N := by
      rcases Nat.lt_or_ge j N with h | h
      · exact h
      · exact absurd (by rw [hbN]; exact nI_le h (by omega)) h1
    refine lv_sipush hx hb dX12_spelled_12 (v := 131) rfl ?_
    refine lv_iload hx hb dX12_spelled_15 (lv_at hl 1 rfl) ?_
    refine lv_imul hx hb dX12_spelled_17 ?_
    refine lv_iload_n hx hb dX12_spelled_18 rfl (lv_at hl 5 rfl) ?_
    refine lv_if_eq hx hb dX12_spelled_19 (tgt := 32) rfl (fun h2 => ?_) (fun h2 => ?_)
    · exact absurd h2 (by decide)
    · refine lv_aload_n hx hb dX12_spelled_22 rfl (lv_at hl 2 rfl) ?_
      refine va_get (D := D) (ci := 12) (v := .ref (ad 17)) (C := RX12) (T := TX12) (N := 149) hx hb hts hin hown hK hP 0 mH_0 rfl 17 (by decide) L_word (fun _ h9 => h9) mF_17 dX12_spelled_23 ?_
      refine lv_iload hx hb dX12_spelled_26 (lv_at hl 0 rfl) ?_
      refine va_iald hx hb hK hP 13 12 mG_17 rfl (vp_in_nI (by omega) (by decide)) dX12_spelled_28 ?_
      refine lv_topi (fun v3 ev3 => ?_)
      have ev3 : v3 = (u.2.1 17) (nI j).toNatClampNeg := ev3
      refine lv_goto hx hb dX12_spelled_29 (tgt := 41) rfl ?_
      refine lv_iadd hx hb dX12_spelled_41 ?_
      refine lv_istore hx hb dX12_spelled_42 hl (by decide) rfl (fun ls hl => ?_)
      have hl : lv_has ls 6 [(4, .int ((131 * x4) + v3)), (5, .int (nI j)), (0, .ref (h0)), (1, .int (a)), (2, .int (b)), (3, .int (1))] := hl
      refine lv_iinc (v := nI j + 1) hx hb dX12_spelled_44 hl (k := 1) rfl rfl (by decide) rfl (fun ls hl => ?_)
      have hl : lv_has ls 6 [(5, .int (nI j + 1)), (4, .int ((131 * x4) + v3)), (0, .ref (h0)), (1, .int (a)), (2, .int (b)), (3, .int (1))] := hl
      refine lv_goto hx hb dX12_spelled_47 (tgt := 6) rfl ?_
      exact ih ((131 * x4) + v3, j + 1) ls (by show j + 1 ≤ N; omega) (by show N - (j + 1) < N - j; omega) (by rw [nI_1] at hl; exact hl)
