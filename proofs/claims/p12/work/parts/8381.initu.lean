def mU0 : mST := (fun k => if k = 25 then -1 else if k = 57 then -1 else if k = 59 then 1000 else 0, fun _ _ => 0, fun _ => 0)
theorem mU0_e : mU0 = toM stU := by
  refine Prod.ext ?_ rfl
  funext k
  show (if k = 25 then (-1 : Int32) else if k = 57 then -1 else if k = 59 then 1000 else 0) = jI (if k = 25 then -1 else if k = 57 then -1 else if k = 59 then 1000 else 0)
  split
  · rfl
  split
  · rfl
  split
  · rfl
  · rfl
def wsZ : List Cond := .code yX12_init cX12_init 2 none :: (wsM ++ wsX12_init)
theorem zI {w : Cond} (h : w ∈ wsX12_init) : w ∈ wsZ := List.mem_cons_of_mem _ (List.mem_append_right _ h)
theorem zM {w : Cond} (h : w ∈ wsM) : w ∈ wsZ := List.mem_cons_of_mem _ (List.mem_append_left _ h)
theorem gZ_said : GoodIn wsZ (wsV RX12 305 RX12 yX12_said (.code yX12_said cX12_said 10 none :: wsM)) := by
  intro w hw
  have key : w ∈ wsV RX12 305 RX12 yX12_said wsX12_said ∨ w ∈ wsM := by
    rcases List.mem_append.mp hw with h | h
    · exact Or.inl (List.mem_append_left _ h)
    · rcases List.mem_cons.mp h with rfl | h
      · exact Or.inl (List.mem_append_right _ List.mem_cons_self)
      · exact Or.inr h
  rcases key with h | h
  · obtain ⟨a, b⟩ := gX12_init_X12_said w h
    exact ⟨zI a, b⟩
  · exact ⟨zM h, good_of_word (wsM_good w h)⟩
section
variable {p : Program} {l : Launch} {e : Env} {R : Room} {s : State} {m : MethodId} {args : Array Value} {below : List Frame} {meth : Method} {c : Code} {H : Heap} {locs : List Loc} {cells slots : Nat} {Q : State → Prop}
/-- a loop that changes the reference's state too -/
theorem w_loopS {D : va_G} {ca : Nat → ClassId} {A : Nat → Prop} {H0 : Heap} {h0 : Nat} {ad : Nat → Nat} {pc nL : Nat} {α : Type} (sta : α → mST) (lst : α → List (Nat × Value)) (μ : α → Nat) (I : α → Prop) (step : ∀ (a : α) (H : Heap) (locs : List Loc) (ls : Array Slot), I a → va_P D vwCl (mCl ca h0 ad (sta a)) H → va_D A (mCl ca h0 ad (sta a)) → va_S A H0 H locs → lv_has ls nL (lst a) → (∀ (b : α) (H : Heap) (locs : List Loc) (ls' : Array Slot), I b → μ b < μ a → va_P D vwCl (mCl ca h0 ad (sta b)) H → va_D A (mCl ca h0 ad (sta b)) → va_S A H0 H locs → lv_has ls' nL (lst b) → W p l e R s m args below meth c H locs cells slots Q (F0 m pc ls' [])) → W p l e R s m args below meth c H locs cells slots Q (F0 m pc ls [])) (a : α) (ls : Array Slot) (hI : I a) (hP : va_P D vwCl (mCl ca h0 ad (sta a)) H) (hD : va_D A (mCl ca h0 ad (sta a))) (hS : va_S A H0 H locs) (hl : lv_has ls nL (lst a)) : W p l e R s m args below meth c H locs cells slots Q (F0 m pc ls []) := by
  have key : ∀ (n : Nat) (a : α) (H : Heap) (locs : List Loc) (ls : Array Slot), μ a < n → I a → va_P D vwCl (mCl ca h0 ad (sta a)) H → va_D A (mCl ca h0 ad (sta a)) → va_S A H0 H locs → lv_has ls nL (lst a) → W p l e R s m args below meth c H locs cells slots Q (F0 m pc ls []) := by
    intro n
    induction n with
    | zero => intro a H locs ls h; exact absurd h (Nat.not_lt_zero _)
    | succ n ih => intro a H locs ls h hI hP hD hS hl; exact step a H locs ls hI hP hD hS hl (fun b H locs ls' hb hm hP hD hS hl' => ih b H locs ls' (by omega) hb hP hD hS hl')
  exact key (μ a + 1) a H locs ls (Nat.lt_succ_self _) hI hP hD hS hl
/-- a call of the reference's, cells having been made -/
theorem kcZ {D : va_G} {ca : Nat → ClassId} {A : Nat → Prop} {H0 : Heap} {h0 : Nat} {ad : Nat → Nat} {u : iST} {pc nL : Nat} {cc : ByteArray} {ls : Array Slot} {rest : List Value} {y : MethodName} {cy : ByteArray} {mx : Nat} {ret : Option FieldType} {Fy Ly idx n : Nat} {As : List Value} {K : iST → Prop} (hM : kMV l y (.code y cy mx ret :: wsM) { frames := Fy, cells := 0, slots := 0, locals := Ly } As K u) (hG : GoodIn wsZ (wsV RX12 idx RX12 y (.code y cy mx ret :: wsM))) (hd : y.cls = RX12 ∧ y.cls ≠ "java/lang/invoke/MethodHandle" ∧ y.cls ≠ "java/lang/invoke/VarHandle" ∧ (parseMethodDescriptor y.desc).map (fun d => d.parameters.length) = some n) (X : CallFix p m c cc nL s args wsZ RX12) (hK : va_K D vwCl (mTy ca) s) (hw : kW D ca A h0 ad H0 H locs u) (hRf : Fy + 1 ≤ R.frames) (hRl : 8 + (mx + 11) + Ly ≤ R.locals) (hc : cells ≤ R.cells) (hs : slots ≤ R.slots) (hn : As.length = n) (hls : ls.size = nL) (hst : (rest.map fun v => v.category).sum ≤ 8) {st : List Value} (hsk : st = As.reverse ++ .ref h0 :: rest) (d : decode cc pc = .ok (.invokevirtual idx, 3))
    (kk : ∀ (v : iST) (H : Heap) (locs : List Loc), K v → kW D ca A h0 ad H0 H locs v → W p l e R s m args below meth c H locs cells slots Q (F0 m (pc + 3) ls rest)) : W p l e R s m args below meth c H locs cells slots Q (F0 m pc ls st) := by
  subst hsk
  refine va_callv (va_runV (rest := rest) X (hM D ca h0 H.size ad) (cwV n X.2.2.2.2 hG rfl rfl rfl hd ⟨hRf, hRl⟩) ⟨kblind, va_recv hK hw.1 (ci := 12) (q0 := 0) rfl mH_0, fun U hU hW => ⟨rfl, by rw [hU], ⟨by rw [hU]; exact hw.1, va_K.moved hW.alike hK, hw.2.1.weaken (fun _ _ _ _ => trivial)⟩, hw.2.2.2.1⟩⟩ rfl hn hls rfl (lv_room hst) d ⟨hc, hs⟩) hw.2.2.1 (fun q _ h => kfree hw q h) (kfree hw) (fun v t H1 locs1 ht hvm hp hB hz1 hk1 hS => ?_)
  exact kk v H1 locs1 hp (kback hw rfl ht hB hS)
end
/-- the table is empty -/
theorem init_u {w : mST} (h1 : w.1 = mU0.1) (h2 : ∀ h : Nat, h < 8192 → w.2.1 7 h = -1) (h3 : ∀ g : Nat, g ≠ 7 → w.2.1 g = mU0.2.1 g) (h4 : w.2.2 = mU0.2.2) : ∃ u : iST, toM u = w ∧ SN 0 u ∧ iR u := by
  rw [mU0_e] at h1 h3 h4
  refine ⟨(stU.1, fun k i => if k = 7 then (w.2.1 7 i.toNat).toInt else 0, stU.2.2), ?_, ?_, ?_⟩
  · obtain ⟨w1, w2, w3⟩ := w
    dsimp only at h1 h2 h3 h4
    subst h1
    subst h4
    show ((_, _, _) : mST) = _
    refine Prod.ext rfl (Prod.ext ?_ rfl)
    funext k i
    show jI (if k = 7 then (w2 7 ((i : Int)).toNat).toInt else 0) = w2 k i
    by_cases e : k = 7
    · rw [if_pos e, jI_of, Int.toNat_natCast, e]
    · rw [if_neg e, h3 k e]
      rfl
  · have n7 : ∀ k i, k ≠ 7 → ((stU.1, fun k i => if k = 7 then (w.2.1 7 i.toNat).toInt else 0, stU.2.2) : iST).2.1 k i = 0 := fun k i hk => if_neg hk
    refine ⟨⟨⟨by decide, (show (0 : Int) ≤ 0 by decide)⟩, (show (0 : Int) ≤ 452000 by decide), (show (0 : Int) ≤ 40000 by decide), (show (0 : Int) ≤ 21000 by decide), rfl, rfl, fun k k0 k1 => ?_, fun h h0 h1 => ?_, fun k k0 k1 => by omega, fun j k j0 jk k1 => ?_⟩, rfl, rfl, rfl, fun k hk => ⟨rfl, ?_⟩, fun k hk => absurd hk (Nat.not_lt_zero _)⟩
    · exfalso
      have k1 : k < 0 := k1
      omega
    · have e : ((stU.1, fun k i => if k = 7 then (w.2.1 7 i.toNat).toInt else 0, stU.2.2) : iST).2.1 7 h = -1 := by
        show (if 7 = 7 then (w.2.1 7 h.toNat).toInt else 0) = -1
        rw [if_pos rfl, h2 h.toNat (by omega)]
        rfl
      refine ⟨by rw [e]; decide, by rw [e]; exact (show (-1 : Int) < 0 by decide), Or.inl e, fun j j0 j1 => ?_⟩
      exfalso
      have j1 : j < 0 := j1
      omega
    · exfalso
      have k1 : k < 0 := k1
      omega
    · funext i
      exact n7 k i (fun e => by rw [e] at hk; revert hk; decide)
  · refine ⟨fun k => ?_, fun k i => ?_, fun i => (show inL 0 from ⟨by decide, by decide⟩), ?_, fun k hk i => ?_⟩
    · show inR (if k = _ then -1 else if k = 57 then -1 else if k = 59 then 1000 else 0)
      split
      · exact ⟨by decide, by decide⟩
      split
      · exact ⟨by decide, by decide⟩
      split
      · exact ⟨by decide, by decide⟩
      · exact ⟨by decide, by decide⟩
    · show inR (if k = 7 then (w.2.1 7 i.toNat).toInt else 0)
      split
      · exact inR_of _
      · exact ⟨by decide, by decide⟩
    · show ∀ k ∈ zS, bz (stU.1 k)
      decide
    · show bz (if k = 7 then (w.2.1 7 i.toNat).toInt else 0)
      rw [if_neg (fun e => by rw [e] at hk; revert hk; decide)]
      exact Or.inl rfl
