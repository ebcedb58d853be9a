-- deps: 489
theorem CK.nd [DecidableEq Ob] {id : Int} {u v : iST} {E : Sp.Env} (h : CK id u v) (hT : TI u) {k : Int} (n : Nd u E k) : Nd v E k ∧ ob v k = ob u k := n.mono hT h.1
theorem lits_len [DecidableEq Ob] (u : iST) (id : Int) : (lits u id).length = (u.2.1 115 id).toNat := ls_len _ _ _ _
theorem lits_get [DecidableEq Ob] {u : iST} {id : Int} {i : Nat} (h : i < (u.2.1 115 id).toNat) : (lits u id)[i]? = some (ob u (u.2.1 114 (30 * id + (i : Int)))) := ls_get _ _ _ _ h
theorem lits_split [DecidableEq Ob] {u : iST} {id : Int} {i : Nat} (h : i < (u.2.1 115 id).toNat) : lits u id = (lits u id).take i ++ ob u (u.2.1 114 (30 * id + (i : Int))) :: (lits u id).drop (i + 1) := by
  have hl : i < (lits u id).length := by rw [lits_len]; exact h
  have e := lits_get h
  rw [List.getElem?_eq_getElem hl] at e
  rw [← Option.some.inj e, ← List.drop_eq_getElem_cons hl, List.take_append_drop]
theorem p_changeTo [DecidableEq Ob] {id i v : Int} {Q : Int → iST → Prop} {u : iST} {E : Sp.Env} (hT : TI u) (hU : TU u) (hC : ClOk u E id) (i0 : 0 ≤ i) (i1 : i < u.2.1 115 id) (nv : Nd u E v)
    (h0 : ∀ w, Ob.has ((lits u id).take i.toNat) (ob u v) = true → CK id u w → ClOk w E id → lits w id = (lits u id).take i.toNat ++ (lits u id).drop (i.toNat + 1) → Q 0 w)
    (h1 : ∀ w, Ob.has ((lits u id).take i.toNat) (ob u v) = false → CK id u w → ClOk w E id → lits w id = (lits u id).take i.toNat ++ ob u v :: ((lits u id).drop (i.toNat + 1)).filter (fun y => decide (y ≠ ob u v)) → Q 1 w) : pw_changeTo id i v Q u := by
  have hC' := hC
  obtain ⟨c0, c1, c2, c3⟩ := hC
  have hmem : Ob.has ((lits u id).take i.toNat) (ob u v) = true ↔ ∃ j : Nat, (j : Int) < i ∧ u.2.1 114 (30 * id + (j : Int)) = v := by
    rw [Ob.has_iff]
    constructor
    · intro h
      obtain ⟨j, hj, e⟩ := List.mem_iff_getElem.mp h
      have hj2 : j < i.toNat := by rw [List.length_take] at hj; omega
      have e2 := lits_get (u := u) (id := id) (i := j) (by omega)
      rw [List.getElem_take] at e
      rw [List.getElem?_eq_getElem (by rw [lits_len]; omega), e] at e2
      have nd := c3 (j : Int) (by omega) (by omega)
      exact ⟨j, by omega, ((hT.inj hU nv.1 nv.2.1 nd.1 nd.2.1).mp (Option.some.inj e2)).symm⟩
    · rintro ⟨j, hj, e⟩
      have e2 := lits_get (u := u) (id := id) (i := j) (by omega)
      rw [e] at e2
      refine List.mem_of_getElem? (i := j) ?_
      rw [List.getElem?_take_of_lt (by omega)]
      exact e2
  unfold pw_changeTo
  refine pw_changeTo_3_i (fun x1 x2 x3 x4 w => w = u ∧ x1 = id ∧ x2 = i ∧ x3 = v ∧ 0 ≤ x4 ∧ ∀ j, 0 ≤ j → j < x4 → j < i → u.2.1 114 (30 * id + j) ≠ v) ?_ ⟨rfl, rfl, rfl, rfl, by omega, fun j a b => by omega⟩
  intro x1 x2 x3 x4 w hI
  obtain ⟨e1, e2, e3, e4, p0, hp⟩ := hI
  rw [e1, e2, e3, e4]
  unfold pw_changeTo_3b
  refine ⟨fun hc => ?_, fun hc => ?_⟩
  · have hno : Ob.has ((lits u id).take i.toNat) (ob u v) = false := by
      cases e : Ob.has ((lits u id).take i.toNat) (ob u v) with
      | false => rfl
      | true =>
        obtain ⟨j, hj, ej⟩ := hmem.mp e
        exact absurd ej (hp j (by omega) (by omega) hj)
    intro _ _ _ _ t et _
    have kt : CK id u t := by rw [et]; exact CK_A hT hU (by omega) (by omega)
    have t114 : ∀ a, t.2.1 114 a = if a = 30 * id + i then v else u.2.1 114 a := fun a => by
      rw [et, iA_row]
      by_cases c : a = 30 * id + i
      · rw [if_pos ⟨rfl, c⟩, if_pos c]
      · rw [if_neg (fun y => c y.2), if_neg c]
    have t115 : t.2.1 115 = u.2.1 115 := by rw [et]; rfl
    clear et
    have tC : ClOk t E id := ⟨by rw [t115]; exact c0, by rw [t115]; exact c1, by rw [kt.2.2.2.1 116 (by decide) (by decide)]; exact c2, fun j j0 j1 => by
      rw [t115] at j1
      rw [t114]
      by_cases c : 30 * id + j = 30 * id + i
      · rw [if_pos c]; exact (kt.nd hT nv).1
      · rw [if_neg c]; exact (kt.nd hT (c3 j j0 j1)).1⟩
    have tl : lits t id = (lits u id).take i.toNat ++ ob u v :: (lits u id).drop (i.toNat + 1) := by
      refine List.ext_getElem? (fun j => ?_)
      rcases Nat.lt_or_ge j (u.2.1 115 id).toNat with hj | hj
      · rw [lits_get (by rw [t115]; exact hj), t114]
        rcases Nat.lt_trichotomy j i.toNat with c | c | c
        · rw [List.getElem?_append_left (by rw [List.length_take, lits_len]; omega), List.getElem?_take_of_lt c, lits_get hj, if_neg (by omega)]
          exact congrArg some (kt.nd hT (c3 _ (by omega) (by omega))).2
        · rw [List.getElem?_append_right (by rw [List.length_take, lits_len]; omega), if_pos (by omega), List.length_take, lits_len, show j - min i.toNat (u.2.1 115 id).toNat = 0 by omega]
          exact congrArg some (kt.nd hT nv).2
        · rw [List.getElem?_append_right (by rw [List.length_take, lits_len]; omega), if_neg (by omega), List.length_take, lits_len, show j - min i.toNat (u.2.1 115 id).toNat = (j - i.toNat - 1) + 1 by omega, List.getElem?_cons_succ, List.getElem?_drop, show i.toNat + 1 + (j - i.toNat - 1) = j by omega, lits_get hj]
          exact congrArg some (kt.nd hT (c3 _ (by omega) (by omega))).2
      · rw [List.getElem?_eq_none (by rw [lits_len, t115]; exact hj), List.getElem?_eq_none (by rw [List.length_append, List.length_take, List.length_cons, List.length_drop, lits_len]; omega)]
    refine pw_changeTo_56_i (fun x1 x3 x4 w => x1 = id ∧ x3 = v ∧ CK id u w ∧ ClOk w E id ∧ ∃ D S : List Ob, lits w id = (lits u id).take i.toNat ++ ob u v :: (D ++ S) ∧ x4 = i + 1 + (D.length : Int) ∧ D ++ S.filter (fun y => decide (y ≠ ob u v)) = ((lits u id).drop (i.toNat + 1)).filter (fun y => decide (y ≠ ob u v))) ?_ ⟨rfl, rfl, kt, tC, [], _, tl, by simp, rfl⟩
    intro y1 y3 y4 w hJ
    obtain ⟨g1, g3, kw, wC, D, S, wl, g4, hf⟩ := hJ
    rw [g1, g3, g4]
    have hTw := kw.1.1
    have hUw := kw.1.2.1
    have wlen : (w.2.1 115 id).toNat = i.toNat + 1 + D.length + S.length := by
      rw [← lits_len, wl]
      simp only [List.length_append, List.length_cons, List.length_take, lits_len]
      omega
    have w0 := wC.1
    unfold pw_changeTo_56b
    intro _ _ x ex _
    rw [ex]
    refine ⟨fun hd _ => h1 w hno kw wC ?_, fun hd => ?_⟩
    · have hS : S = [] := List.eq_nil_of_length_eq_zero (by omega)
      rw [hS] at hf wl
      rw [wl, List.append_nil, ← hf]
      simp
    · match S, wl, hf, wlen with
      | [], wl, hf, wlen => simp at wlen; omega
      | z :: S, wl, hf, wlen =>
        have hidx : i.toNat + 1 + D.length < (w.2.1 115 id).toNat := by simp at wlen; omega
        have hz : ob w (w.2.1 114 (30 * id + (i + 1 + (D.length : Int)))) = z := by
          have e := lits_get hidx
          rw [wl, List.getElem?_append_right (by rw [List.length_take, lits_len]; omega), List.length_take, lits_len, show i.toNat + 1 + D.length - min i.toNat (u.2.1 115 id).toNat = D.length + 1 by omega, List.getElem?_cons_succ, List.getElem?_append_right (by omega), Nat.sub_self] at e
          have e := Option.some.inj e
          rw [show 30 * id + ((i.toNat + 1 + D.length : Nat) : Int) = 30 * id + (i + 1 + (D.length : Int)) by omega] at e
          exact e.symm
        have nz := wC.2.2.2 (i + 1 + (D.length : Int)) (by omega) (by omega)
        have nvw := kw.nd hT nv
        have hinj := hTw.inj hUw nz.1 nz.2.1 nvw.1.1 nvw.1.2.1
        rw [hz, nvw.2] at hinj
        intro _ _ _ _ y ey _
        rw [ey]
        refine ⟨fun hne _ => ⟨rfl, rfl, kw, wC, D ++ [z], S, by rw [wl]; simp, by simp; omega, ?_⟩, fun heq => ?_⟩
        · rw [← hf, List.filter_cons, if_pos (decide_eq_true (show z ≠ ob u v from fun q => hne (hinj.mp q)))]
          simp
        · have hzv : z = ob u v := hinj.mpr (Decidable.not_not.mp heq)
          refine p_removeAt hTw hUw wC (by omega) (by omega) (fun t2 k2 C2 l2 e2 _ _ => ?_)
          intro _ _
          refine ⟨rfl, rfl, kw.tr k2, C2, D, S, ?_, by omega, ?_⟩
          · rw [e2, wl]
            have hn : (i + 1 + (D.length : Int)).toNat = ((lits u id).take i.toNat ++ ob u v :: D).length := by
              simp only [List.length_append, List.length_cons, List.length_take, lits_len]
              omega
            rw [hn, show (lits u id).take i.toNat ++ ob u v :: (D ++ z :: S) = ((lits u id).take i.toNat ++ ob u v :: D) ++ z :: S by simp, List.take_left, show ((lits u id).take i.toNat ++ ob u v :: D).length + 1 = (((lits u id).take i.toNat ++ ob u v :: D) ++ [z]).length by rw [List.length_append (bs := [z])]; rfl, show ((lits u id).take i.toNat ++ ob u v :: D) ++ z :: S = (((lits u id).take i.toNat ++ ob u v :: D) ++ [z]) ++ S by simp, List.drop_left]
            simp
          · rw [← hf, List.filter_cons, if_neg (by rw [hzv]; simp)]
  · intro _ _ _ _ y ey _
    rw [ey]
    refine ⟨fun hne _ => ⟨rfl, rfl, rfl, rfl, by omega, fun j a b c => ?_⟩, fun heq => ?_⟩
    · by_cases z : j = x4
      · rw [z]; exact hne
      · exact hp j a (by omega) c
    · refine p_removeAt hT hU hC' i0 i1 (fun t kt tC _ tl _ _ => fun _ => h0 t (hmem.mpr ⟨x4.toNat, by omega, ?_⟩) kt tC tl)
      rw [Int.toNat_of_nonneg p0]
      exact Decidable.not_not.mp heq
