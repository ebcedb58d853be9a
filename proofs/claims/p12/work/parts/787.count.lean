-- deps: 786
/-! what a text gives has no more words than the text -/
def wFr [DecidableEq Ob] : List Sp.Fr → Int
  | [] => 0
  | none :: r => 1 + wFr r
  | some f :: r => 1 + nwdL f.1 + (if f.2.1 = 2 then 1 + nwd false f.2.2 else if f.2.1 = 1 then 1 else 0) + wFr r
def wWh [DecidableEq Ob] : Option Ob → Int | none => 0 | some o => nwd false o
theorem nwdL_pos [DecidableEq Ob] : ∀ l : List Ob, 0 ≤ nwdL l := fun l => by
  have := nwdL_len l
  omega
theorem wFr_pos [DecidableEq Ob] : ∀ l : List Sp.Fr, 0 ≤ wFr l
  | [] => Int.le_refl _
  | none :: r => by
    have := wFr_pos r
    show 0 ≤ 1 + wFr r
    omega
  | some f :: r => by
    have h1 := wFr_pos r
    have h2 := nwdL_pos f.1
    have h3 := nwd_pos false f.2.2
    show 0 ≤ 1 + nwdL f.1 + (if f.2.1 = 2 then 1 + nwd false f.2.2 else if f.2.1 = 1 then 1 else 0) + wFr r
    split
    · omega
    · split <;> omega
theorem wWh_pos [DecidableEq Ob] (w : Option Ob) : 0 ≤ wWh w := by
  cases w with
  | none => exact Int.le_refl _
  | some o =>
    have := nwd_pos false o
    show 0 ≤ nwd false o
    omega
theorem nwd_quote [DecidableEq Ob] (o : Ob) : nwd false (.pr Ob.quote (.pr o Ob.nil)) = 1 + nwd false o := by
  show (if Ob.quote = Ob.quote ∧ Ob.nil = Ob.nil then 1 + nwd false o else 1 + nwd false Ob.quote + nwd true (.op o Ob.nil)) = _
  rw [if_pos ⟨rfl, rfl⟩]
theorem nwd_le [DecidableEq Ob] (a b : Ob) : nwd false (.op a b) ≤ 1 + nwd false a + nwd true b := by
  cases b with
  | var y => exact Int.le_refl _
  | op x c =>
    have h1 := nwd_pos false a
    have h2 := nwd_pos true c
    show (if a = Ob.quote ∧ c = Ob.nil then 1 + nwd false x else 1 + nwd false a + nwd true (.op x c)) ≤ _
    split
    · show 1 + nwd false x ≤ 1 + nwd false a + (nwd false x + nwd true c)
      omega
    · exact Int.le_refl _
theorem nwd_ofL [DecidableEq Ob] (x : Ob) : ∀ l : List Ob, nwd true (Sp.ofL l x) = nwdL l + nwd true x
  | [] => by show nwd true x = 0 + nwd true x; omega
  | a :: l => by
    have := nwd_ofL x l
    show nwd false a + nwd true (Sp.ofL l x) = nwd false a + nwdL l + nwd true x
    omega
theorem wDel [DecidableEq Ob] (w : Option Ob) : ∀ (l : List Sp.Fr) (o : Ob), wFr (Sp.rdDel w l o).1 + wWh (Sp.rdDel w l o).2 ≤ wFr l + wWh w + nwd false o
  | [], o => by
    have := wWh_pos w
    show 0 + nwd false o ≤ 0 + wWh w + nwd false o
    omega
  | none :: r, o => by
    have h := wDel w r (.pr Ob.quote (.pr o Ob.nil))
    rw [nwd_quote] at h
    show wFr (Sp.rdDel w r (.pr Ob.quote (.pr o Ob.nil))).1 + wWh (Sp.rdDel w r (.pr Ob.quote (.pr o Ob.nil))).2 ≤ 1 + wFr r + wWh w + nwd false o
    omega
  | some f :: r, o => by
    by_cases h1 : f.2.1 = 1
    · have e : Sp.rdDel w (some f :: r) o = (some (f.1, 2, o) :: r, w) := if_pos h1
      rw [e]
      show 1 + nwdL f.1 + (1 + nwd false o) + wFr r + wWh w ≤ 1 + nwdL f.1 + (if f.2.1 = 2 then 1 + nwd false f.2.2 else if f.2.1 = 1 then 1 else 0) + wFr r + wWh w + nwd false o
      rw [if_neg (show ¬ f.2.1 = 2 by omega), if_pos h1]
      omega
    · have e : Sp.rdDel w (some f :: r) o = (some (f.1 ++ [o], f.2.1, f.2.2) :: r, w) := if_neg h1
      rw [e]
      have ha := nwdL_app f.1 [o]
      have hb : nwdL [o] = nwd false o + 0 := rfl
      show 1 + nwdL (f.1 ++ [o]) + (if f.2.1 = 2 then 1 + nwd false f.2.2 else if f.2.1 = 1 then 1 else 0) + wFr r + wWh w ≤ 1 + nwdL f.1 + (if f.2.1 = 2 then 1 + nwd false f.2.2 else if f.2.1 = 1 then 1 else 0) + wFr r + wWh w + nwd false o
      omega
theorem nil_words [DecidableEq Ob] : nwd true Ob.nil = 1 ∧ nwd false Ob.nil = 1 := ⟨if_pos rfl, rfl⟩
theorem wMark [DecidableEq Ob] {c : Int} {st st' : Sp.Rd} (h : Sp.rdMark c st = some st') : wFr st'.1 + wWh st'.2 ≤ wFr st.1 + wWh st.2 + 1 := by
  have op : ∀ q, Sp.rdOpen q st = some st' → wFr st'.1 + wWh st'.2 ≤ wFr st.1 + wWh st.2 + 1 := fun q h => by
    unfold Sp.rdOpen at h
    by_cases hb : (Sp.rdBeg st && decide (st.1.length < 40)) = true
    · rw [if_pos hb] at h
      have h := (Option.some.inj h).symm
      rw [h]
      cases q with
      | true => show 1 + wFr st.1 + wWh st.2 ≤ wFr st.1 + wWh st.2 + 1; omega
      | false => show 1 + 0 + 0 + wFr st.1 + wWh st.2 ≤ wFr st.1 + wWh st.2 + 1; omega
    · rw [if_neg hb] at h
      cases h
  unfold Sp.rdMark at h
  by_cases c40 : c = 40
  · rw [if_pos c40] at h; exact op _ h
  rw [if_neg c40] at h
  by_cases c39 : c = 39
  · rw [if_pos c39] at h; exact op _ h
  rw [if_neg c39] at h
  obtain ⟨l, w⟩ := st
  by_cases c41 : c = 41
  · rw [if_pos c41] at h
    cases l with
    | nil => cases h
    | cons f r =>
      cases f with
      | none => cases h
      | some f =>
        have h : (if f.2.1 = 1 then none else some (Sp.rdDel w r (Sp.ofL f.1 (if f.2.1 = 2 then f.2.2 else Ob.nil)))) = some st' := h
        by_cases f1 : f.2.1 = 1
        · rw [if_pos f1] at h; cases h
        rw [if_neg f1] at h
        have h := (Option.some.inj h).symm
        have hd := wDel w r (Sp.ofL f.1 (if f.2.1 = 2 then f.2.2 else Ob.nil))
        rw [← h] at hd
        obtain ⟨n1, n2⟩ := nil_words
        show wFr st'.1 + wWh st'.2 ≤ 1 + nwdL f.1 + (if f.2.1 = 2 then 1 + nwd false f.2.2 else if f.2.1 = 1 then 1 else 0) + wFr r + wWh w + 1
        rw [if_neg f1]
        have key : nwd false (Sp.ofL f.1 (if f.2.1 = 2 then f.2.2 else Ob.nil)) ≤ 1 + nwdL f.1 + (if f.2.1 = 2 then 1 + nwd false f.2.2 else 0) + 1 := by
          have tl := nwd_tl f.2.2
          have gen : ∀ (l : List Ob) (x : Ob), nwd false (Sp.ofL l x) ≤ 1 + nwdL l + nwd true x ∨ (l = [] ∧ nwd false (Sp.ofL l x) = nwd false x) := fun l x => by
            cases l with
            | nil => exact Or.inr ⟨rfl, rfl⟩
            | cons a l =>
              left
              have := nwd_le a (Sp.ofL l x)
              rw [nwd_ofL] at this
              show nwd false (.op a (Sp.ofL l x)) ≤ 1 + (nwd false a + nwdL l) + nwd true x
              omega
          have lp := nwdL_pos f.1
          by_cases f2 : f.2.1 = 2
          · rw [if_pos f2, if_pos f2]
            rcases gen f.1 f.2.2 with q | q
            · omega
            · omega
          · rw [if_neg f2, if_neg f2]
            rcases gen f.1 Ob.nil with q | q
            · omega
            · omega
        omega
  rw [if_neg c41] at h
  by_cases c46 : c = 46
  · rw [if_pos c46] at h
    cases l with
    | nil => cases h
    | cons f r =>
      cases f with
      | none => cases h
      | some f =>
        have h : (if f.2.1 = 0 ∧ f.1.isEmpty = false then some (some (f.1, 1, f.2.2) :: r, w) else none) = some st' := h
        by_cases f0 : f.2.1 = 0 ∧ f.1.isEmpty = false
        · rw [if_pos f0] at h
          have h := (Option.some.inj h).symm
          rw [h]
          show 1 + nwdL f.1 + 1 + wFr r + wWh w ≤ 1 + nwdL f.1 + (if f.2.1 = 2 then 1 + nwd false f.2.2 else if f.2.1 = 1 then 1 else 0) + wFr r + wWh w + 1
          rw [if_neg (show ¬ f.2.1 = 2 by omega), if_neg (show ¬ f.2.1 = 1 by omega)]
          omega
        · rw [if_neg f0] at h; cases h
  rw [if_neg c46] at h
  cases h
theorem wAtom [DecidableEq Ob] {t : List Int} {o : Ob} (h : Sp.atomO t = some o) : nwd false o = 1 := by
  unfold Sp.atomO at h
  by_cases c : t.all Sp.isDig = true
  · rw [if_pos c] at h
    cases e : Sp.natOf t 0 with
    | none => rw [e] at h; cases h
    | some x =>
      rw [e] at h
      have h := (Option.some.inj h).symm
      rw [h]
      rfl
  · rw [if_neg c] at h
    by_cases l : t.length ≤ 11
    · rw [if_pos l] at h
      have h := (Option.some.inj h).symm
      rw [h]
      rfl
    · rw [if_neg l] at h; cases h
theorem rdGo_nwd [DecidableEq Ob] {o : Ob} : ∀ (n : Nat) (t : List Int) (k : Nat) (st : Sp.Rd), wFr st.1 + wWh st.2 ≤ (k : Int) → k ≤ 1000 → Sp.rdGo n t k st = some o → nwd false o ≤ 1000
  | 0, _, _, _, _, _, h => by cases h
  | n + 1, [], k, st, hw, hk, h => by
    have h : st.2 = some o := h
    have := wFr_pos st.1
    rw [h] at hw
    have hw : wFr st.1 + nwd false o ≤ (k : Int) := hw
    omega
  | n + 1, c :: cs, k, st, hw, hk, h => by
    rw [rdGo_cons] at h
    by_cases c1 : c = 59
    · rw [if_pos c1] at h
      exact rdGo_nwd n _ k st hw hk h
    rw [if_neg c1] at h
    by_cases c2 : c = 32 ∨ c = 10
    · rw [if_pos c2] at h
      exact rdGo_nwd n _ k st hw hk h
    rw [if_neg c2] at h
    by_cases c3 : Sp.isAtm c = true
    · rw [if_pos c3] at h
      cases e : Sp.atomO ((c :: cs).takeWhile Sp.isAtm) with
      | none => rw [e] at h; cases h
      | some v =>
        rw [e] at h
        have h : (if (Sp.rdBeg st && decide (k < 1000)) = true then Sp.rdGo n (cs.dropWhile Sp.isAtm) (k + 1) (Sp.rdDel st.2 st.1 v) else none) = some o := h
        by_cases q : (Sp.rdBeg st && decide (k < 1000)) = true
        · rw [if_pos q] at h
          have k1 : k < 1000 := of_decide_eq_true (Bool.and_eq_true_iff.mp q).2
          have wd := wDel st.2 st.1 v
          rw [wAtom e] at wd
          refine rdGo_nwd n _ (k + 1) _ ?_ (by omega) h
          show _ ≤ (k : Int) + 1
          omega
        · rw [if_neg q] at h; cases h
    rw [if_neg c3] at h
    cases e : Sp.rdMark c st with
    | none => rw [e] at h; cases h
    | some st' =>
      rw [e] at h
      have h : (if k < 1000 then Sp.rdGo n cs (k + 1) st' else none) = some o := h
      by_cases q : k < 1000
      · rw [if_pos q] at h
        have wm := wMark e
        refine rdGo_nwd n _ (k + 1) _ ?_ (by omega) h
        show _ ≤ (k : Int) + 1
        omega
      · rw [if_neg q] at h; cases h
theorem read_nwd [DecidableEq Ob] {t : List Int} {o : Ob} (h : Sp.read t = some o) : nwd false o ≤ 1000 := rdGo_nwd (t.length + 1) t 0 ([], none) (by show (0 : Int) + 0 ≤ 0; decide) (by decide) h
theorem nzT_drop [DecidableEq Ob] (p : Int → Bool) : ∀ l : List Int, nzT (l.dropWhile p) ≤ nzT l
  | [] => Int.le_refl _
  | a :: l => by
    have h1 := nzT_drop p l
    have h2 := (nzT_cons a l).1
    rw [List.dropWhile_cons]
    split
    · omega
    · exact Int.le_refl _
/-- what is read has no more words than its text has characters -/
theorem rdGo_nz [DecidableEq Ob] {o : Ob} : ∀ (n : Nat) (t : List Int) (k : Nat) (st : Sp.Rd), wFr st.1 + wWh st.2 ≤ (k : Int) → Sp.rdGo n t k st = some o → nwd false o ≤ (k : Int) + nzT t
  | 0, _, _, _, _, h => by cases h
  | n + 1, [], k, st, hw, h => by
    have h : st.2 = some o := h
    have := wFr_pos st.1
    have := nzT_pos []
    rw [h] at hw
    have hw : wFr st.1 + nwd false o ≤ (k : Int) := hw
    omega
  | n + 1, c :: cs, k, st, hw, h => by
    rw [rdGo_cons] at h
    have hz := nzT_cons c cs
    by_cases c1 : c = 59
    · rw [if_pos c1] at h
      have := rdGo_nz n _ k st hw h
      have := nzT_drop (fun c => decide (c ≠ 10)) cs
      omega
    rw [if_neg c1] at h
    by_cases c2 : c = 32 ∨ c = 10
    · rw [if_pos c2] at h
      have := rdGo_nz n _ k st hw h
      omega
    rw [if_neg c2] at h
    by_cases c3 : Sp.isAtm c = true
    · rw [if_pos c3] at h
      have c0 : c ≠ 0 := fun z => by
        rw [z] at c3
        have q0 : Sp.isAtm 0 = false := rfl
        rw [q0] at c3
        cases c3
      have hz1 := hz.2 c0
      cases e : Sp.atomO ((c :: cs).takeWhile Sp.isAtm) with
      | none => rw [e] at h; cases h
      | some v =>
        rw [e] at h
        have h : (if (Sp.rdBeg st && decide (k < 1000)) = true then Sp.rdGo n (cs.dropWhile Sp.isAtm) (k + 1) (Sp.rdDel st.2 st.1 v) else none) = some o := h
        by_cases q : (Sp.rdBeg st && decide (k < 1000)) = true
        · rw [if_pos q] at h
          have wd := wDel st.2 st.1 v
          rw [wAtom e] at wd
          have a1 := rdGo_nz n _ (k + 1) _ (by show _ ≤ (k : Int) + 1; omega) h
          have a2 := nzT_drop Sp.isAtm cs
          have a1 : nwd false o ≤ (k : Int) + 1 + nzT (cs.dropWhile Sp.isAtm) := a1
          omega
        · rw [if_neg q] at h; cases h
    rw [if_neg c3] at h
    cases e : Sp.rdMark c st with
    | none => rw [e] at h; cases h
    | some st' =>
      have c0 : c ≠ 0 := fun z => by
        rw [z, rdMark_no (by decide) (by decide) (by decide) (by decide)] at e
        cases e
      have hz1 := hz.2 c0
      rw [e] at h
      have h : (if k < 1000 then Sp.rdGo n cs (k + 1) st' else none) = some o := h
      by_cases q : k < 1000
      · rw [if_pos q] at h
        have wm := wMark e
        have a1 := rdGo_nz n _ (k + 1) _ (by show _ ≤ (k : Int) + 1; omega) h
        have a1 : nwd false o ≤ (k : Int) + 1 + nzT cs := a1
        omega
      · rw [if_neg q] at h; cases h
theorem read_nz [DecidableEq Ob] {t : List Int} {o : Ob} (h : Sp.read t = some o) : nwd false o ≤ nzT t := by
  have := rdGo_nz (t.length + 1) t 0 ([], none) (by show (0 : Int) + 0 ≤ 0; decide) h
  have this : nwd false o ≤ 0 + nzT t := this
  omega
