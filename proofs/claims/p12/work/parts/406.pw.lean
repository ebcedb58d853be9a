def pw_arePairs_13 (Q : Int → iST → Prop) (x1 : Int) (x2 : Int) (u : iST) : Prop := ∃ R13 : Int → Int → iST → Prop, (∀ (x1 : Int) (x2 : Int) (u : iST), R13 x1 x2 u → pw_arePairs_13b R13 Q x1 x2 u) ∧ R13 x1 x2 u
theorem cj_w_arePairs_13 {Q1 Q2 Q3 : Int → iST → Prop}  {x1 : Int} {x2 : Int} {u : iST} (hQ : ∀ r0 r1, Q1 r0 r1 → Q2 r0 r1 → Q3 r0 r1) : w_arePairs_13 Q1 x1 x2 u → pw_arePairs_13 Q2 x1 x2 u → w_arePairs_13 Q3 x1 x2 u := by
  intro a b R3 c3
  obtain ⟨R2, c2, b2⟩ := b
  exact a (fun r0 r1 r2 => R2 r0 r1 r2 → R3 r0 r1 r2) (fun r0 r1 r2 a b => c3 r0 r1 r2 (cj_w_arePairs_13b (fun r0 r1 r2 a b => a b) hQ a (c2 r0 r1 r2 b))) b2
theorem pw_arePairs_13_i  {Q : Int → iST → Prop} {x1 : Int} {x2 : Int} {u : iST} (I : Int → Int → iST → Prop) (s : ∀ (x1 : Int) (x2 : Int) (u : iST), I x1 x2 u → pw_arePairs_13b I Q x1 x2 u) (h : I x1 x2 u) : pw_arePairs_13 Q x1 x2 u := ⟨I, s, h⟩
theorem mn_w_arePairs_13 {Q1 Q2 : Int → iST → Prop}  {x1 : Int} {x2 : Int} {u : iST} (hQ : ∀ r0 r1, Q1 r0 r1 → Q2 r0 r1) : pw_arePairs_13 Q1 x1 x2 u → pw_arePairs_13 Q2 x1 x2 u := fun ⟨R, s, h⟩ => ⟨R, fun r0 r1 r2 a => mn_w_arePairs_13b (fun r0 r1 r2 a => a) hQ (s r0 r1 r2 a), h⟩
theorem un_w_arePairs_13  {Q : Int → iST → Prop} {x1 : Int} {x2 : Int} {u : iST} : pw_arePairs_13 Q x1 x2 u → pw_arePairs_13b (fun x1 x2 u => pw_arePairs_13 Q x1 x2 u) Q x1 x2 u := fun ⟨R, s, h⟩ => mn_w_arePairs_13b (fun r0 r1 r2 a => ⟨R, s, a⟩) (fun _ _ h => h) (s _ _ _ h)
theorem fo_w_arePairs_13  {Q : Int → iST → Prop} {x1 : Int} {x2 : Int} {u : iST} : pw_arePairs_13b (fun x1 x2 u => pw_arePairs_13 Q x1 x2 u) Q x1 x2 u → pw_arePairs_13 Q x1 x2 u := fun h => ⟨fun x1 x2 u => pw_arePairs_13b (fun x1 x2 u => pw_arePairs_13 Q x1 x2 u) Q x1 x2 u, fun r0 r1 r2 a => mn_w_arePairs_13b (fun r0 r1 r2 a => un_w_arePairs_13 a) (fun _ _ h => h) a, h⟩
theorem wp_w_arePairs_13 {Q1 Q2 : Int → iST → Prop}  {x1 : Int} {x2 : Int} {u : iST} (hQ : ∀ r0 r1, Q1 r0 r1 → Q2 r0 r1) : w_arePairs_13 Q1 x1 x2 u → pw_arePairs_13 Q2 x1 x2 u := fun a => a (fun x1 x2 u => pw_arePairs_13 Q2 x1 x2 u) (fun x1 x2 u b => fo_w_arePairs_13 (wp_w_arePairs_13b (fun r0 r1 r2 a => a) hQ b))
def pw_arePairs (a0 : Int) (Q : Int → iST → Prop) (u : iST) : Prop :=
  pw_lengthOf a0 (fun v1 u => 
  br (v1 ≠ (-1)) (
    pw_arePairs_13 Q a0 a0 u) (
    ztp 0 (Q 0 u))) u
theorem cj_w_arePairs {Q1 Q2 Q3 : Int → iST → Prop}  {a0 : Int} {u : iST} (hQ : ∀ r0 r1, Q1 r0 r1 → Q2 r0 r1 → Q3 r0 r1) : w_arePairs a0 Q1 u → pw_arePairs a0 Q2 u → w_arePairs a0 Q3 u := (cj_w_lengthOf (fun _ _ => (br_cj (cj_w_arePairs_13  hQ) (zt_cj (hQ _ _)))))
theorem mn_w_arePairs {Q1 Q2 : Int → iST → Prop}  {a0 : Int} {u : iST} (hQ : ∀ r0 r1, Q1 r0 r1 → Q2 r0 r1) : pw_arePairs a0 Q1 u → pw_arePairs a0 Q2 u := (mn_w_lengthOf (fun _ _ => (br_mn (mn_w_arePairs_13  hQ) (zt_mn (hQ _ _)))))
theorem wp_w_arePairs {Q1 Q2 : Int → iST → Prop}  {a0 : Int} {u : iST} (hQ : ∀ r0 r1, Q1 r0 r1 → Q2 r0 r1) : w_arePairs a0 Q1 u → pw_arePairs a0 Q2 u := (wp_w_lengthOf (fun _ _ => (br_wp (wp_w_arePairs_13  hQ) (zt_wp (hQ _ _)))))
def pw_using_42 (Q : iST → Prop) (u : iST) : Prop :=
  pw_wrong 2 (fun u => 
  Q u) u
theorem cj_w_using_42 {Q1 Q2 Q3 : iST → Prop}  {u : iST} (hQ : ∀ r0, Q1 r0 → Q2 r0 → Q3 r0) : w_using_42 Q1 u → pw_using_42 Q2 u → w_using_42 Q3 u := (cj_w_wrong (fun _ => (hQ _)))
theorem mn_w_using_42 {Q1 Q2 : iST → Prop}  {u : iST} (hQ : ∀ r0, Q1 r0 → Q2 r0) : pw_using_42 Q1 u → pw_using_42 Q2 u := (mn_w_wrong (fun _ => (hQ _)))
theorem wp_w_using_42 {Q1 Q2 : iST → Prop}  {u : iST} (hQ : ∀ r0, Q1 r0 → Q2 r0) : w_using_42 Q1 u → pw_using_42 Q2 u := (wp_w_wrong (fun _ => (hQ _)))
def pw_using_118 (R83 : Int → Int → Int → iST → Prop) (Q : iST → Prop) (x1 : Int) (x3 : Int) (x4 : Int) (u : iST) : Prop :=
  bdp x4 452000 (rd (u.2.1 1 x4) (fun v22 => 
  R83 x1 x3 v22 u))
theorem cj_w_using_118 {Q1 Q2 Q3 : iST → Prop} {R831 R832 R833 : Int → Int → Int → iST → Prop} {x1 : Int} {x3 : Int} {x4 : Int} {u : iST} (hR83 : ∀ r0 r1 r2 r3, R831 r0 r1 r2 r3 → R832 r0 r1 r2 r3 → R833 r0 r1 r2 r3) (hQ : ∀ r0, Q1 r0 → Q2 r0 → Q3 r0) : w_using_118 R831 Q1 x1 x3 x4 u → pw_using_118 R832 Q2 x1 x3 x4 u → w_using_118 R833 Q3 x1 x3 x4 u := (bd_cj (rd_cj fun _ => (hR83 _ _ _ _)))
theorem mn_w_using_118 {Q1 Q2 : iST → Prop} {R831 R832 : Int → Int → Int → iST → Prop} {x1 : Int} {x3 : Int} {x4 : Int} {u : iST} (hR83 : ∀ r0 r1 r2 r3, R831 r0 r1 r2 r3 → R832 r0 r1 r2 r3) (hQ : ∀ r0, Q1 r0 → Q2 r0) : pw_using_118 R831 Q1 x1 x3 x4 u → pw_using_118 R832 Q2 x1 x3 x4 u := (bd_mn (rd_mn fun _ => (hR83 _ _ _ _)))
theorem wp_w_using_118 {Q1 Q2 : iST → Prop} {R831 R832 : Int → Int → Int → iST → Prop} {x1 : Int} {x3 : Int} {x4 : Int} {u : iST} (hR83 : ∀ r0 r1 r2 r3, R831 r0 r1 r2 r3 → R832 r0 r1 r2 r3) (hQ : ∀ r0, Q1 r0 → Q2 r0) : w_using_118 R831 Q1 x1 x3 x4 u → pw_using_118 R832 Q2 x1 x3 x4 u := (bd_wp (rd_wp fun _ => (hR83 _ _ _ _)))
def pw_using_83b (R83 : Int → Int → Int → iST → Prop) (Q : iST → Prop) (x1 : Int) (x3 : Int) (x4 : Int) (u : iST) : Prop :=
  br (x4 = 0) (
    rd (u.1 139) (fun v12 => 
    bdp v12 400 (sw (iA u 137 v12 x3) (fun u => 
    rd (u.1 139) (fun v13 => 
    bdp x1 452000 (rd (u.2.1 1 x1) (fun v14 => 
    bdp v14 452000 (rd (u.2.1 1 v14) (fun v15 => 
    bdp v13 400 (sw (iA u 138 v13 v15) (fun u => 
    rd (u.1 139) (fun v16 => 
    ovp (v16 + 1) (
    sw (iI u 139 (v16 + 1)) (fun u => 
    Q u)))))))))))))) (
    bdp x3 60 (rd (u.2.1 44 x3) (fun v18 => 
    bdp x4 452000 (rd (u.2.1 0 x4) (fun v19 => 
    bdp v19 452000 (rd (u.2.1 0 v19) (fun v20 => 
    pw_hasVariable v18 v20 (fun v21 u => 
    br (v21 ≠ 0) (
      pw_using_118 R83 Q x1 x3 x4 u) (
      pw_wrong 2 (fun u => 
      pw_using_118 R83 Q x1 x3 x4 u) u)) u)))))))
theorem cj_w_using_83b {Q1 Q2 Q3 : iST → Prop} {R831 R832 R833 : Int → Int → Int → iST → Prop} {x1 : Int} {x3 : Int} {x4 : Int} {u : iST} (hR83 : ∀ r0 r1 r2 r3, R831 r0 r1 r2 r3 → R832 r0 r1 r2 r3 → R833 r0 r1 r2 r3) (hQ : ∀ r0, Q1 r0 → Q2 r0 → Q3 r0) : w_using_83b R831 Q1 x1 x3 x4 u → pw_using_83b R832 Q2 x1 x3 x4 u → w_using_83b R833 Q3 x1 x3 x4 u := (br_cj (rd_cj fun _ => (bd_cj (sw_cj fun _ => (rd_cj fun _ => (bd_cj (rd_cj fun _ => (bd_cj (rd_cj fun _ => (bd_cj (sw_cj fun _ => (rd_cj fun _ => (ov_cj (sw_cj fun _ => (hQ _)))))))))))))) (bd_cj (rd_cj fun _ => (bd_cj (rd_cj fun _ => (bd_cj (rd_cj fun _ => (cj_w_hasVariable (fun _ _ => (br_cj (cj_w_using_118 hR83 hQ) (cj_w_wrong (fun _ => (cj_w_using_118 hR83 hQ)))))))))))))
theorem mn_w_using_83b {Q1 Q2 : iST → Prop} {R831 R832 : Int → Int → Int → iST → Prop} {x1 : Int} {x3 : Int} {x4 : Int} {u : iST} (hR83 : ∀ r0 r1 r2 r3, R831 r0 r1 r2 r3 → R832 r0 r1 r2 r3) (hQ : ∀ r0, Q1 r0 → Q2 r0) : pw_using_83b R831 Q1 x1 x3 x4 u → pw_using_83b R832 Q2 x1 x3 x4 u := (br_mn (rd_mn fun _ => (bd_mn (sw_mn fun _ => (rd_mn fun _ => (bd_mn (rd_mn fun _ => (bd_mn (rd_mn fun _ => (bd_mn (sw_mn fun _ => (rd_mn fun _ => (ov_mn (sw_mn fun _ => (hQ _)))))))))))))) (bd_mn (rd_mn fun _ => (bd_mn (rd_mn fun _ => (bd_mn (rd_mn fun _ => (mn_w_hasVariable (fun _ _ => (br_mn (mn_w_using_118 hR83 hQ) (mn_w_wrong (fun _ => (mn_w_using_118 hR83 hQ)))))))))))))
theorem wp_w_using_83b {Q1 Q2 : iST → Prop} {R831 R832 : Int → Int → Int → iST → Prop} {x1 : Int} {x3 : Int} {x4 : Int} {u : iST} (hR83 : ∀ r0 r1 r2 r3, R831 r0 r1 r2 r3 → R832 r0 r1 r2 r3) (hQ : ∀ r0, Q1 r0 → Q2 r0) : w_using_83b R831 Q1 x1 x3 x4 u → pw_using_83b R832 Q2 x1 x3 x4 u := (br_wp (rd_wp fun _ => (bd_wp (sw_wp fun _ => (rd_wp fun _ => (bd_wp (rd_wp fun _ => (bd_wp (rd_wp fun _ => (bd_wp (sw_wp fun _ => (rd_wp fun _ => (ov_wp (sw_wp fun _ => (hQ _)))))))))))))) (bd_wp (rd_wp fun _ => (bd_wp (rd_wp fun _ => (bd_wp (rd_wp fun _ => (wp_w_hasVariable (fun _ _ => (br_wp (wp_w_using_118 hR83 hQ) (wp_w_wrong (fun _ => (wp_w_using_118 hR83 hQ)))))))))))))
def pw_using_83 (Q : iST → Prop) (x1 : Int) (x3 : Int) (x4 : Int) (u : iST) : Prop := ∃ R83 : Int → Int → Int → iST → Prop, (∀ (x1 : Int) (x3 : Int) (x4 : Int) (u : iST), R83 x1 x3 x4 u → pw_using_83b R83 Q x1 x3 x4 u) ∧ R83 x1 x3 x4 u
theorem cj_w_using_83 {Q1 Q2 Q3 : iST → Prop}  {x1 : Int} {x3 : Int} {x4 : Int} {u : iST} (hQ : ∀ r0, Q1 r0 → Q2 r0 → Q3 r0) : w_using_83 Q1 x1 x3 x4 u → pw_using_83 Q2 x1 x3 x4 u → w_using_83 Q3 x1 x3 x4 u := by
  intro a b R3 c3
  obtain ⟨R2, c2, b2⟩ := b
  exact a (fun r0 r1 r2 r3 => R2 r0 r1 r2 r3 → R3 r0 r1 r2 r3) (fun r0 r1 r2 r3 a b => c3 r0 r1 r2 r3 (cj_w_using_83b (fun r0 r1 r2 r3 a b => a b) hQ a (c2 r0 r1 r2 r3 b))) b2
theorem pw_using_83_i  {Q : iST → Prop} {x1 : Int} {x3 : Int} {x4 : Int} {u : iST} (I : Int → Int → Int → iST → Prop) (s : ∀ (x1 : Int) (x3 : Int) (x4 : Int) (u : iST), I x1 x3 x4 u → pw_using_83b I Q x1 x3 x4 u) (h : I x1 x3 x4 u) : pw_using_83 Q x1 x3 x4 u := ⟨I, s, h⟩
theorem mn_w_using_83 {Q1 Q2 : iST → Prop}  {x1 : Int} {x3 : Int} {x4 : Int} {u : iST} (hQ : ∀ r0, Q1 r0 → Q2 r0) : pw_using_83 Q1 x1 x3 x4 u → pw_using_83 Q2 x1 x3 x4 u := fun ⟨R, s, h⟩ => ⟨R, fun r0 r1 r2 r3 a => mn_w_using_83b (fun r0 r1 r2 r3 a => a) hQ (s r0 r1 r2 r3 a), h⟩
theorem un_w_using_83  {Q : iST → Prop} {x1 : Int} {x3 : Int} {x4 : Int} {u : iST} : pw_using_83 Q x1 x3 x4 u → pw_using_83b (fun x1 x3 x4 u => pw_using_83 Q x1 x3 x4 u) Q x1 x3 x4 u := fun ⟨R, s, h⟩ => mn_w_using_83b (fun r0 r1 r2 r3 a => ⟨R, s, a⟩) (fun _ h => h) (s _ _ _ _ h)
theorem fo_w_using_83  {Q : iST → Prop} {x1 : Int} {x3 : Int} {x4 : Int} {u : iST} : pw_using_83b (fun x1 x3 x4 u => pw_using_83 Q x1 x3 x4 u) Q x1 x3 x4 u → pw_using_83 Q x1 x3 x4 u := fun h => ⟨fun x1 x3 x4 u => pw_using_83b (fun x1 x3 x4 u => pw_using_83 Q x1 x3 x4 u) Q x1 x3 x4 u, fun r0 r1 r2 r3 a => mn_w_using_83b (fun r0 r1 r2 r3 a => un_w_using_83 a) (fun _ h => h) a, h⟩
theorem wp_w_using_83 {Q1 Q2 : iST → Prop}  {x1 : Int} {x3 : Int} {x4 : Int} {u : iST} (hQ : ∀ r0, Q1 r0 → Q2 r0) : w_using_83 Q1 x1 x3 x4 u → pw_using_83 Q2 x1 x3 x4 u := fun a => a (fun x1 x3 x4 u => pw_using_83 Q2 x1 x3 x4 u) (fun x1 x3 x4 u b => fo_w_using_83 (wp_w_using_83b (fun r0 r1 r2 r3 a => a) hQ b))
def pw_using (a0 : Int) (Q : iST → Prop) (u : iST) : Prop :=
  pw_lengthOf a0 (fun v1 u => 
  br (v1 < 2) (
    pw_using_42 Q u) (
    pw_nth a0 1 (fun v3 u => 
    pw_isNewName v3 (fun v4 u => 
    br (v4 = 0) (
      pw_using_42 Q u) (
      bdp a0 452000 (rd (u.2.1 1 a0) (fun v5 => 
      bdp v5 452000 (rd (u.2.1 1 v5) (fun v6 => 
      pw_arePairs v6 (fun v7 u => 
      br (v7 ≠ 0) (
        pw_nth a0 1 (fun v8 u => 
        pw_theoremOf v8 (fun v9 u => 
        br (v9 ≠ (-1)) (
          bdp a0 452000 (rd (u.2.1 1 a0) (fun v10 => 
          bdp v10 452000 (rd (u.2.1 1 v10) (fun v11 => 
          pw_using_83 Q a0 v9 v11 u))))) (
          pw_wrong 3 (fun u => 
          Q u) u)) u) u) (
        pw_using_42 Q u)) u)))))) u) u)) u
theorem cj_w_using {Q1 Q2 Q3 : iST → Prop}  {a0 : Int} {u : iST} (hQ : ∀ r0, Q1 r0 → Q2 r0 → Q3 r0) : w_using a0 Q1 u → pw_using a0 Q2 u → w_using a0 Q3 u := (cj_w_lengthOf (fun _ _ => (br_cj (cj_w_using_42  hQ) (cj_w_nth (fun _ _ => (cj_w_isNewName (fun _ _ => (br_cj (cj_w_using_42  hQ) (bd_cj (rd_cj fun _ => (bd_cj (rd_cj fun _ => (cj_w_arePairs (fun _ _ => (br_cj (cj_w_nth (fun _ _ => (cj_w_theoremOf (fun _ _ => (br_cj (bd_cj (rd_cj fun _ => (bd_cj (rd_cj fun _ => (cj_w_using_83  hQ))))) (cj_w_wrong (fun _ => (hQ _)))))))) (cj_w_using_42  hQ))))))))))))))))
theorem mn_w_using {Q1 Q2 : iST → Prop}  {a0 : Int} {u : iST} (hQ : ∀ r0, Q1 r0 → Q2 r0) : pw_using a0 Q1 u → pw_using a0 Q2 u := (mn_w_lengthOf (fun _ _ => (br_mn (mn_w_using_42  hQ) (mn_w_nth (fun _ _ => (mn_w_isNewName (fun _ _ => (br_mn (mn_w_using_42  hQ) (bd_mn (rd_mn fun _ => (bd_mn (rd_mn fun _ => (mn_w_arePairs (fun _ _ => (br_mn (mn_w_nth (fun _ _ => (mn_w_theoremOf (fun _ _ => (br_mn (bd_mn (rd_mn fun _ => (bd_mn (rd_mn fun _ => (mn_w_using_83  hQ))))) (mn_w_wrong (fun _ => (hQ _)))))))) (mn_w_using_42  hQ))))))))))))))))
theorem wp_w_using {Q1 Q2 : iST → Prop}  {a0 : Int} {u : iST} (hQ : ∀ r0, Q1 r0 → Q2 r0) : w_using a0 Q1 u → pw_using a0 Q2 u := (wp_w_lengthOf (fun _ _ => (br_wp (wp_w_using_42  hQ) (wp_w_nth (fun _ _ => (wp_w_isNewName (fun _ _ => (br_wp (wp_w_using_42  hQ) (bd_wp (rd_wp fun _ => (bd_wp (rd_wp fun _ => (wp_w_arePairs (fun _ _ => (br_wp (wp_w_nth (fun _ _ => (wp_w_theoremOf (fun _ _ => (br_wp (bd_wp (rd_wp fun _ => (bd_wp (rd_wp fun _ => (wp_w_using_83  hQ))))) (wp_w_wrong (fun _ => (hQ _)))))))) (wp_w_using_42  hQ))))))))))))))))
def pw_turningOff_18 (Q : iST → Prop) (u : iST) : Prop :=
  pw_wrong 2 (fun u => 
  Q u) u
theorem cj_w_turningOff_18 {Q1 Q2 Q3 : iST → Prop}  {u : iST} (hQ : ∀ r0, Q1 r0 → Q2 r0 → Q3 r0) : w_turningOff_18 Q1 u → pw_turningOff_18 Q2 u → w_turningOff_18 Q3 u := (cj_w_wrong (fun _ => (hQ _)))
theorem mn_w_turningOff_18 {Q1 Q2 : iST → Prop}  {u : iST} (hQ : ∀ r0, Q1 r0 → Q2 r0) : pw_turningOff_18 Q1 u → pw_turningOff_18 Q2 u := (mn_w_wrong (fun _ => (hQ _)))
theorem wp_w_turningOff_18 {Q1 Q2 : iST → Prop}  {u : iST} (hQ : ∀ r0, Q1 r0 → Q2 r0) : w_turningOff_18 Q1 u → pw_turningOff_18 Q2 u := (wp_w_wrong (fun _ => (hQ _)))
def pw_turningOff_31b (R31 : Int → Int → Int → iST → Prop) (Q : iST → Prop) (x1 : Int) (x2 : Int) (x3 : Int) (u : iST) : Prop :=
  br (x2 ≤ x3) (
    Q u) (
    pw_nth x1 x3 (fun v4 u => 
    pw_isNewName v4 (fun v5 u => 
    br (v5 ≠ 0) (
      pw_theoremOf v4 (fun v6 u => 
      br (v6 ≠ (-1)) (
        pw_theoremOf v4 (fun v7 u => 
        ztp 1 (bdp v7 60 (sw (iA u 53 v7 1) (fun u => 
        ovp (x3 + 1) (
        R31 x1 x2 (x3 + 1) u))))) u) (
        pw_wrong 3 (fun u => 
        ovp (x3 + 1) (
        R31 x1 x2 (x3 + 1) u)) u)) u) (
      pw_wrong 2 (fun u => 
      ovp (x3 + 1) (
      R31 x1 x2 (x3 + 1) u)) u)) u) u)
theorem cj_w_turningOff_31b {Q1 Q2 Q3 : iST → Prop} {R311 R312 R313 : Int → Int → Int → iST → Prop} {x1 : Int} {x2 : Int} {x3 : Int} {u : iST} (hR31 : ∀ r0 r1 r2 r3, R311 r0 r1 r2 r3 → R312 r0 r1 r2 r3 → R313 r0 r1 r2 r3) (hQ : ∀ r0, Q1 r0 → Q2 r0 → Q3 r0) : w_turningOff_31b R311 Q1 x1 x2 x3 u → pw_turningOff_31b R312 Q2 x1 x2 x3 u → w_turningOff_31b R313 Q3 x1 x2 x3 u := (br_cj (hQ _) (cj_w_nth (fun _ _ => (cj_w_isNewName (fun _ _ => (br_cj (cj_w_theoremOf (fun _ _ => (br_cj (cj_w_theoremOf (fun _ _ => (zt_cj (bd_cj (sw_cj fun _ => (ov_cj (hR31 _ _ _ _))))))) (cj_w_wrong (fun _ => (ov_cj (hR31 _ _ _ _))))))) (cj_w_wrong (fun _ => (ov_cj (hR31 _ _ _ _))))))))))
theorem mn_w_turningOff_31b {Q1 Q2 : iST → Prop} {R311 R312 : Int → Int → Int → iST → Prop} {x1 : Int} {x2 : Int} {x3 : Int} {u : iST} (hR31 : ∀ r0 r1 r2 r3, R311 r0 r1 r2 r3 → R312 r0 r1 r2 r3) (hQ : ∀ r0, Q1 r0 → Q2 r0) : pw_turningOff_31b R311 Q1 x1 x2 x3 u → pw_turningOff_31b R312 Q2 x1 x2 x3 u := (br_mn (hQ _) (mn_w_nth (fun _ _ => (mn_w_isNewName (fun _ _ => (br_mn (mn_w_theoremOf (fun _ _ => (br_mn (mn_w_theoremOf (fun _ _ => (zt_mn (bd_mn (sw_mn fun _ => (ov_mn (hR31 _ _ _ _))))))) (mn_w_wrong (fun _ => (ov_mn (hR31 _ _ _ _))))))) (mn_w_wrong (fun _ => (ov_mn (hR31 _ _ _ _))))))))))
theorem wp_w_turningOff_31b {Q1 Q2 : iST → Prop} {R311 R312 : Int → Int → Int → iST → Prop} {x1 : Int} {x2 : Int} {x3 : Int} {u : iST} (hR31 : ∀ r0 r1 r2 r3, R311 r0 r1 r2 r3 → R312 r0 r1 r2 r3) (hQ : ∀ r0, Q1 r0 → Q2 r0) : w_turningOff_31b R311 Q1 x1 x2 x3 u → pw_turningOff_31b R312 Q2 x1 x2 x3 u := (br_wp (hQ _) (wp_w_nth (fun _ _ => (wp_w_isNewName (fun _ _ => (br_wp (wp_w_theoremOf (fun _ _ => (br_wp (wp_w_theoremOf (fun _ _ => (zt_wp (bd_wp (sw_wp fun _ => (ov_wp (hR31 _ _ _ _))))))) (wp_w_wrong (fun _ => (ov_wp (hR31 _ _ _ _))))))) (wp_w_wrong (fun _ => (ov_wp (hR31 _ _ _ _))))))))))
def pw_turningOff_31 (Q : iST → Prop) (x1 : Int) (x2 : Int) (x3 : Int) (u : iST) : Prop := ∃ R31 : Int → Int → Int → iST → Prop, (∀ (x1 : Int) (x2 : Int) (x3 : Int) (u : iST), R31 x1 x2 x3 u → pw_turningOff_31b R31 Q x1 x2 x3 u) ∧ R31 x1 x2 x3 u
theorem cj_w_turningOff_31 {Q1 Q2 Q3 : iST → Prop}  {x1 : Int} {x2 : Int} {x3 : Int} {u : iST} (hQ : ∀ r0, Q1 r0 → Q2 r0 → Q3 r0) : w_turningOff_31 Q1 x1 x2 x3 u → pw_turningOff_31 Q2 x1 x2 x3 u → w_turningOff_31 Q3 x1 x2 x3 u := by
  intro a b R3 c3
  obtain ⟨R2, c2, b2⟩ := b
  exact a (fun r0 r1 r2 r3 => R2 r0 r1 r2 r3 → R3 r0 r1 r2 r3) (fun r0 r1 r2 r3 a b => c3 r0 r1 r2 r3 (cj_w_turningOff_31b (fun r0 r1 r2 r3 a b => a b) hQ a (c2 r0 r1 r2 r3 b))) b2
theorem pw_turningOff_31_i  {Q : iST → Prop} {x1 : Int} {x2 : Int} {x3 : Int} {u : iST} (I : Int → Int → Int → iST → Prop) (s : ∀ (x1 : Int) (x2 : Int) (x3 : Int) (u : iST), I x1 x2 x3 u → pw_turningOff_31b I Q x1 x2 x3 u) (h : I x1 x2 x3 u) : pw_turningOff_31 Q x1 x2 x3 u := ⟨I, s, h⟩
theorem mn_w_turningOff_31 {Q1 Q2 : iST → Prop}  {x1 : Int} {x2 : Int} {x3 : Int} {u : iST} (hQ : ∀ r0, Q1 r0 → Q2 r0) : pw_turningOff_31 Q1 x1 x2 x3 u → pw_turningOff_31 Q2 x1 x2 x3 u := fun ⟨R, s, h⟩ => ⟨R, fun r0 r1 r2 r3 a => mn_w_turningOff_31b (fun r0 r1 r2 r3 a => a) hQ (s r0 r1 r2 r3 a), h⟩
theorem un_w_turningOff_31  {Q : iST → Prop} {x1 : Int} {x2 : Int} {x3 : Int} {u : iST} : pw_turningOff_31 Q x1 x2 x3 u → pw_turningOff_31b (fun x1 x2 x3 u => pw_turningOff_31 Q x1 x2 x3 u) Q x1 x2 x3 u := fun ⟨R, s, h⟩ => mn_w_turningOff_31b (fun r0 r1 r2 r3 a => ⟨R, s, a⟩) (fun _ h => h) (s _ _ _ _ h)
theorem fo_w_turningOff_31  {Q : iST → Prop} {x1 : Int} {x2 : Int} {x3 : Int} {u : iST} : pw_turningOff_31b (fun x1 x2 x3 u => pw_turningOff_31 Q x1 x2 x3 u) Q x1 x2 x3 u → pw_turningOff_31 Q x1 x2 x3 u := fun h => ⟨fun x1 x2 x3 u => pw_turningOff_31b (fun x1 x2 x3 u => pw_turningOff_31 Q x1 x2 x3 u) Q x1 x2 x3 u, fun r0 r1 r2 r3 a => mn_w_turningOff_31b (fun r0 r1 r2 r3 a => un_w_turningOff_31 a) (fun _ h => h) a, h⟩
theorem wp_w_turningOff_31 {Q1 Q2 : iST → Prop}  {x1 : Int} {x2 : Int} {x3 : Int} {u : iST} (hQ : ∀ r0, Q1 r0 → Q2 r0) : w_turningOff_31 Q1 x1 x2 x3 u → pw_turningOff_31 Q2 x1 x2 x3 u := fun a => a (fun x1 x2 x3 u => pw_turningOff_31 Q2 x1 x2 x3 u) (fun x1 x2 x3 u b => fo_w_turningOff_31 (wp_w_turningOff_31b (fun r0 r1 r2 r3 a => a) hQ b))
def pw_turningOff (a0 : Int) (Q : iST → Prop) (u : iST) : Prop :=
  pw_lengthOf a0 (fun v1 u => 
  br (v1 < 2) (
    pw_turningOff_18 Q u) (
    rz (u.1 135) (fun v3 => 
    br (v3 = 0) (
      ztp 1 (sw (iI u 135 1) (fun u => 
      pw_turningOff_31 Q a0 v1 1 u))) (
      pw_turningOff_18 Q u)))) u
theorem cj_w_turningOff {Q1 Q2 Q3 : iST → Prop}  {a0 : Int} {u : iST} (hQ : ∀ r0, Q1 r0 → Q2 r0 → Q3 r0) : w_turningOff a0 Q1 u → pw_turningOff a0 Q2 u → w_turningOff a0 Q3 u := (cj_w_lengthOf (fun _ _ => (br_cj (cj_w_turningOff_18  hQ) (rz_cj fun _ => (br_cj (zt_cj (sw_cj fun _ => (cj_w_turningOff_31  hQ))) (cj_w_turningOff_18  hQ))))))
theorem mn_w_turningOff {Q1 Q2 : iST → Prop}  {a0 : Int} {u : iST} (hQ : ∀ r0, Q1 r0 → Q2 r0) : pw_turningOff a0 Q1 u → pw_turningOff a0 Q2 u := (mn_w_lengthOf (fun _ _ => (br_mn (mn_w_turningOff_18  hQ) (rz_mn fun _ => (br_mn (zt_mn (sw_mn fun _ => (mn_w_turningOff_31  hQ))) (mn_w_turningOff_18  hQ))))))
theorem wp_w_turningOff {Q1 Q2 : iST → Prop}  {a0 : Int} {u : iST} (hQ : ∀ r0, Q1 r0 → Q2 r0) : w_turningOff a0 Q1 u → pw_turningOff a0 Q2 u := (wp_w_lengthOf (fun _ _ => (br_wp (wp_w_turningOff_18  hQ) (rz_wp fun _ => (br_wp (zt_wp (sw_wp fun _ => (wp_w_turningOff_31  hQ))) (wp_w_turningOff_18  hQ))))))
def pw_hints_125 (R22 : Int → iST → Prop) (Q : Int → iST → Prop) (x2 : Int) (u : iST) : Prop :=
  bdp x2 452000 (rd (u.2.1 1 x2) (fun v5 => 
  R22 v5 u))
theorem cj_w_hints_125 {Q1 Q2 Q3 : Int → iST → Prop} {R221 R222 R223 : Int → iST → Prop} {x2 : Int} {u : iST} (hR22 : ∀ r0 r1, R221 r0 r1 → R222 r0 r1 → R223 r0 r1) (hQ : ∀ r0 r1, Q1 r0 r1 → Q2 r0 r1 → Q3 r0 r1) : w_hints_125 R221 Q1 x2 u → pw_hints_125 R222 Q2 x2 u → w_hints_125 R223 Q3 x2 u := (bd_cj (rd_cj fun _ => (hR22 _ _)))
theorem mn_w_hints_125 {Q1 Q2 : Int → iST → Prop} {R221 R222 : Int → iST → Prop} {x2 : Int} {u : iST} (hR22 : ∀ r0 r1, R221 r0 r1 → R222 r0 r1) (hQ : ∀ r0 r1, Q1 r0 r1 → Q2 r0 r1) : pw_hints_125 R221 Q1 x2 u → pw_hints_125 R222 Q2 x2 u := (bd_mn (rd_mn fun _ => (hR22 _ _)))
theorem wp_w_hints_125 {Q1 Q2 : Int → iST → Prop} {R221 R222 : Int → iST → Prop} {x2 : Int} {u : iST} (hR22 : ∀ r0 r1, R221 r0 r1 → R222 r0 r1) (hQ : ∀ r0 r1, Q1 r0 r1 → Q2 r0 r1) : w_hints_125 R221 Q1 x2 u → pw_hints_125 R222 Q2 x2 u := (bd_wp (rd_wp fun _ => (hR22 _ _)))
def pw_hints_120 (R22 : Int → iST → Prop) (Q : Int → iST → Prop) (x2 : Int) (u : iST) : Prop :=
  pw_wrong 2 (fun u => 
  pw_hints_125 R22 Q x2 u) u
theorem cj_w_hints_120 {Q1 Q2 Q3 : Int → iST → Prop} {R221 R222 R223 : Int → iST → Prop} {x2 : Int} {u : iST} (hR22 : ∀ r0 r1, R221 r0 r1 → R222 r0 r1 → R223 r0 r1) (hQ : ∀ r0 r1, Q1 r0 r1 → Q2 r0 r1 → Q3 r0 r1) : w_hints_120 R221 Q1 x2 u → pw_hints_120 R222 Q2 x2 u → w_hints_120 R223 Q3 x2 u := (cj_w_wrong (fun _ => (cj_w_hints_125 hR22 hQ)))
theorem mn_w_hints_120 {Q1 Q2 : Int → iST → Prop} {R221 R222 : Int → iST → Prop} {x2 : Int} {u : iST} (hR22 : ∀ r0 r1, R221 r0 r1 → R222 r0 r1) (hQ : ∀ r0 r1, Q1 r0 r1 → Q2 r0 r1) : pw_hints_120 R221 Q1 x2 u → pw_hints_120 R222 Q2 x2 u := (mn_w_wrong (fun _ => (mn_w_hints_125 hR22 hQ)))
theorem wp_w_hints_120 {Q1 Q2 : Int → iST → Prop} {R221 R222 : Int → iST → Prop} {x2 : Int} {u : iST} (hR22 : ∀ r0 r1, R221 r0 r1 → R222 r0 r1) (hQ : ∀ r0 r1, Q1 r0 r1 → Q2 r0 r1) : w_hints_120 R221 Q1 x2 u → pw_hints_120 R222 Q2 x2 u := (wp_w_wrong (fun _ => (wp_w_hints_125 hR22 hQ)))
def pw_hints_96 (R22 : Int → iST → Prop) (Q : Int → iST → Prop) (x2 : Int) (x3 : Int) (x4 : Int) (u : iST) : Prop :=
  br (x4 = 0) (
    pw_hints_120 R22 Q x2 u) (
    bdp x3 452000 (rd (u.2.1 0 x3) (fun v6 => 
    br (v6 ≠ 24) (
      pw_hints_120 R22 Q x2 u) (
      pw_turningOff x3 (fun u => 
      pw_hints_125 R22 Q x2 u) u))))
theorem cj_w_hints_96 {Q1 Q2 Q3 : Int → iST → Prop} {R221 R222 R223 : Int → iST → Prop} {x2 : Int} {x3 : Int} {x4 : Int} {u : iST} (hR22 : ∀ r0 r1, R221 r0 r1 → R222 r0 r1 → R223 r0 r1) (hQ : ∀ r0 r1, Q1 r0 r1 → Q2 r0 r1 → Q3 r0 r1) : w_hints_96 R221 Q1 x2 x3 x4 u → pw_hints_96 R222 Q2 x2 x3 x4 u → w_hints_96 R223 Q3 x2 x3 x4 u := (br_cj (cj_w_hints_120 hR22 hQ) (bd_cj (rd_cj fun _ => (br_cj (cj_w_hints_120 hR22 hQ) (cj_w_turningOff (fun _ => (cj_w_hints_125 hR22 hQ)))))))
theorem mn_w_hints_96 {Q1 Q2 : Int → iST → Prop} {R221 R222 : Int → iST → Prop} {x2 : Int} {x3 : Int} {x4 : Int} {u : iST} (hR22 : ∀ r0 r1, R221 r0 r1 → R222 r0 r1) (hQ : ∀ r0 r1, Q1 r0 r1 → Q2 r0 r1) : pw_hints_96 R221 Q1 x2 x3 x4 u → pw_hints_96 R222 Q2 x2 x3 x4 u := (br_mn (mn_w_hints_120 hR22 hQ) (bd_mn (rd_mn fun _ => (br_mn (mn_w_hints_120 hR22 hQ) (mn_w_turningOff (fun _ => (mn_w_hints_125 hR22 hQ)))))))
theorem wp_w_hints_96 {Q1 Q2 : Int → iST → Prop} {R221 R222 : Int → iST → Prop} {x2 : Int} {x3 : Int} {x4 : Int} {u : iST} (hR22 : ∀ r0 r1, R221 r0 r1 → R222 r0 r1) (hQ : ∀ r0 r1, Q1 r0 r1 → Q2 r0 r1) : w_hints_96 R221 Q1 x2 x3 x4 u → pw_hints_96 R222 Q2 x2 x3 x4 u := (br_wp (wp_w_hints_120 hR22 hQ) (bd_wp (rd_wp fun _ => (br_wp (wp_w_hints_120 hR22 hQ) (wp_w_turningOff (fun _ => (wp_w_hints_125 hR22 hQ)))))))
def pw_hints_72 (R22 : Int → iST → Prop) (Q : Int → iST → Prop) (x2 : Int) (x3 : Int) (x4 : Int) (u : iST) : Prop :=
  br (x4 = 0) (
    pw_hints_96 R22 Q x2 x3 x4 u) (
    bdp x3 452000 (rd (u.2.1 0 x3) (fun v8 => 
    br (v8 ≠ 28) (
      pw_hints_96 R22 Q x2 x3 x4 u) (
      pw_using x3 (fun u => 
      pw_hints_125 R22 Q x2 u) u))))
theorem cj_w_hints_72 {Q1 Q2 Q3 : Int → iST → Prop} {R221 R222 R223 : Int → iST → Prop} {x2 : Int} {x3 : Int} {x4 : Int} {u : iST} (hR22 : ∀ r0 r1, R221 r0 r1 → R222 r0 r1 → R223 r0 r1) (hQ : ∀ r0 r1, Q1 r0 r1 → Q2 r0 r1 → Q3 r0 r1) : w_hints_72 R221 Q1 x2 x3 x4 u → pw_hints_72 R222 Q2 x2 x3 x4 u → w_hints_72 R223 Q3 x2 x3 x4 u := (br_cj (cj_w_hints_96 hR22 hQ) (bd_cj (rd_cj fun _ => (br_cj (cj_w_hints_96 hR22 hQ) (cj_w_using (fun _ => (cj_w_hints_125 hR22 hQ)))))))
theorem mn_w_hints_72 {Q1 Q2 : Int → iST → Prop} {R221 R222 : Int → iST → Prop} {x2 : Int} {x3 : Int} {x4 : Int} {u : iST} (hR22 : ∀ r0 r1, R221 r0 r1 → R222 r0 r1) (hQ : ∀ r0 r1, Q1 r0 r1 → Q2 r0 r1) : pw_hints_72 R221 Q1 x2 x3 x4 u → pw_hints_72 R222 Q2 x2 x3 x4 u := (br_mn (mn_w_hints_96 hR22 hQ) (bd_mn (rd_mn fun _ => (br_mn (mn_w_hints_96 hR22 hQ) (mn_w_using (fun _ => (mn_w_hints_125 hR22 hQ)))))))
theorem wp_w_hints_72 {Q1 Q2 : Int → iST → Prop} {R221 R222 : Int → iST → Prop} {x2 : Int} {x3 : Int} {x4 : Int} {u : iST} (hR22 : ∀ r0 r1, R221 r0 r1 → R222 r0 r1) (hQ : ∀ r0 r1, Q1 r0 r1 → Q2 r0 r1) : w_hints_72 R221 Q1 x2 x3 x4 u → pw_hints_72 R222 Q2 x2 x3 x4 u := (br_wp (wp_w_hints_96 hR22 hQ) (bd_wp (rd_wp fun _ => (br_wp (wp_w_hints_96 hR22 hQ) (wp_w_using (fun _ => (wp_w_hints_125 hR22 hQ)))))))
def pw_hints_46 (R22 : Int → iST → Prop) (Q : Int → iST → Prop) (x2 : Int) (x3 : Int) (y0 : Int) (u : iST) : Prop :=
  br (y0 = 0) (
    pw_hints_72 R22 Q x2 x3 y0 u) (
    bdp x3 452000 (rd (u.2.1 0 x3) (fun v10 => 
    br (v10 ≠ 27) (
      pw_hints_72 R22 Q x2 x3 y0 u) (
      pw_induction x3 (fun u => 
      pw_hints_125 R22 Q x2 u) u))))
theorem cj_w_hints_46 {Q1 Q2 Q3 : Int → iST → Prop} {R221 R222 R223 : Int → iST → Prop} {x2 : Int} {x3 : Int} {y0 : Int} {u : iST} (hR22 : ∀ r0 r1, R221 r0 r1 → R222 r0 r1 → R223 r0 r1) (hQ : ∀ r0 r1, Q1 r0 r1 → Q2 r0 r1 → Q3 r0 r1) : w_hints_46 R221 Q1 x2 x3 y0 u → pw_hints_46 R222 Q2 x2 x3 y0 u → w_hints_46 R223 Q3 x2 x3 y0 u := (br_cj (cj_w_hints_72 hR22 hQ) (bd_cj (rd_cj fun _ => (br_cj (cj_w_hints_72 hR22 hQ) (cj_w_induction (fun _ => (cj_w_hints_125 hR22 hQ)))))))
theorem mn_w_hints_46 {Q1 Q2 : Int → iST → Prop} {R221 R222 : Int → iST → Prop} {x2 : Int} {x3 : Int} {y0 : Int} {u : iST} (hR22 : ∀ r0 r1, R221 r0 r1 → R222 r0 r1) (hQ : ∀ r0 r1, Q1 r0 r1 → Q2 r0 r1) : pw_hints_46 R221 Q1 x2 x3 y0 u → pw_hints_46 R222 Q2 x2 x3 y0 u := (br_mn (mn_w_hints_72 hR22 hQ) (bd_mn (rd_mn fun _ => (br_mn (mn_w_hints_72 hR22 hQ) (mn_w_induction (fun _ => (mn_w_hints_125 hR22 hQ)))))))
theorem wp_w_hints_46 {Q1 Q2 : Int → iST → Prop} {R221 R222 : Int → iST → Prop} {x2 : Int} {x3 : Int} {y0 : Int} {u : iST} (hR22 : ∀ r0 r1, R221 r0 r1 → R222 r0 r1) (hQ : ∀ r0 r1, Q1 r0 r1 → Q2 r0 r1) : w_hints_46 R221 Q1 x2 x3 y0 u → pw_hints_46 R222 Q2 x2 x3 y0 u := (br_wp (wp_w_hints_72 hR22 hQ) (bd_wp (rd_wp fun _ => (br_wp (wp_w_hints_72 hR22 hQ) (wp_w_induction (fun _ => (wp_w_hints_125 hR22 hQ)))))))
def pw_hints_22b (R22 : Int → iST → Prop) (Q : Int → iST → Prop) (x2 : Int) (u : iST) : Prop :=
  br (x2 = 0) (
    rd (u.1 136) (fun v1 => 
    Q v1 u)) (
    bdp x2 452000 (rd (u.2.1 0 x2) (fun v2 => 
    pw_lengthOf v2 (fun v3 u => 
    br (v3 ≤ 0) (
      pw_hints_46 R22 Q x2 v2 0 u) (
      pw_hints_46 R22 Q x2 v2 1 u)) u)))
theorem cj_w_hints_22b {Q1 Q2 Q3 : Int → iST → Prop} {R221 R222 R223 : Int → iST → Prop} {x2 : Int} {u : iST} (hR22 : ∀ r0 r1, R221 r0 r1 → R222 r0 r1 → R223 r0 r1) (hQ : ∀ r0 r1, Q1 r0 r1 → Q2 r0 r1 → Q3 r0 r1) : w_hints_22b R221 Q1 x2 u → pw_hints_22b R222 Q2 x2 u → w_hints_22b R223 Q3 x2 u := (br_cj (rd_cj fun _ => (hQ _ _)) (bd_cj (rd_cj fun _ => (cj_w_lengthOf (fun _ _ => (br_cj (cj_w_hints_46 hR22 hQ) (cj_w_hints_46 hR22 hQ)))))))
theorem mn_w_hints_22b {Q1 Q2 : Int → iST → Prop} {R221 R222 : Int → iST → Prop} {x2 : Int} {u : iST} (hR22 : ∀ r0 r1, R221 r0 r1 → R222 r0 r1) (hQ : ∀ r0 r1, Q1 r0 r1 → Q2 r0 r1) : pw_hints_22b R221 Q1 x2 u → pw_hints_22b R222 Q2 x2 u := (br_mn (rd_mn fun _ => (hQ _ _)) (bd_mn (rd_mn fun _ => (mn_w_lengthOf (fun _ _ => (br_mn (mn_w_hints_46 hR22 hQ) (mn_w_hints_46 hR22 hQ)))))))
theorem wp_w_hints_22b {Q1 Q2 : Int → iST → Prop} {R221 R222 : Int → iST → Prop} {x2 : Int} {u : iST} (hR22 : ∀ r0 r1, R221 r0 r1 → R222 r0 r1) (hQ : ∀ r0 r1, Q1 r0 r1 → Q2 r0 r1) : w_hints_22b R221 Q1 x2 u → pw_hints_22b R222 Q2 x2 u := (br_wp (rd_wp fun _ => (hQ _ _)) (bd_wp (rd_wp fun _ => (wp_w_lengthOf (fun _ _ => (br_wp (wp_w_hints_46 hR22 hQ) (wp_w_hints_46 hR22 hQ)))))))
def pw_hints_22 (Q : Int → iST → Prop) (x2 : Int) (u : iST) : Prop := ∃ R22 : Int → iST → Prop, (∀ (x2 : Int) (u : iST), R22 x2 u → pw_hints_22b R22 Q x2 u) ∧ R22 x2 u
theorem cj_w_hints_22 {Q1 Q2 Q3 : Int → iST → Prop}  {x2 : Int} {u : iST} (hQ : ∀ r0 r1, Q1 r0 r1 → Q2 r0 r1 → Q3 r0 r1) : w_hints_22 Q1 x2 u → pw_hints_22 Q2 x2 u → w_hints_22 Q3 x2 u := by
  intro a b R3 c3
  obtain ⟨R2, c2, b2⟩ := b
  exact a (fun r0 r1 => R2 r0 r1 → R3 r0 r1) (fun r0 r1 a b => c3 r0 r1 (cj_w_hints_22b (fun r0 r1 a b => a b) hQ a (c2 r0 r1 b))) b2
theorem pw_hints_22_i  {Q : Int → iST → Prop} {x2 : Int} {u : iST} (I : Int → iST → Prop) (s : ∀ (x2 : Int) (u : iST), I x2 u → pw_hints_22b I Q x2 u) (h : I x2 u) : pw_hints_22 Q x2 u := ⟨I, s, h⟩
theorem mn_w_hints_22 {Q1 Q2 : Int → iST → Prop}  {x2 : Int} {u : iST} (hQ : ∀ r0 r1, Q1 r0 r1 → Q2 r0 r1) : pw_hints_22 Q1 x2 u → pw_hints_22 Q2 x2 u := fun ⟨R, s, h⟩ => ⟨R, fun r0 r1 a => mn_w_hints_22b (fun r0 r1 a => a) hQ (s r0 r1 a), h⟩
theorem un_w_hints_22  {Q : Int → iST → Prop} {x2 : Int} {u : iST} : pw_hints_22 Q x2 u → pw_hints_22b (fun x2 u => pw_hints_22 Q x2 u) Q x2 u := fun ⟨R, s, h⟩ => mn_w_hints_22b (fun r0 r1 a => ⟨R, s, a⟩) (fun _ _ h => h) (s _ _ h)
theorem fo_w_hints_22  {Q : Int → iST → Prop} {x2 : Int} {u : iST} : pw_hints_22b (fun x2 u => pw_hints_22 Q x2 u) Q x2 u → pw_hints_22 Q x2 u := fun h => ⟨fun x2 u => pw_hints_22b (fun x2 u => pw_hints_22 Q x2 u) Q x2 u, fun r0 r1 a => mn_w_hints_22b (fun r0 r1 a => un_w_hints_22 a) (fun _ _ h => h) a, h⟩
theorem wp_w_hints_22 {Q1 Q2 : Int → iST → Prop}  {x2 : Int} {u : iST} (hQ : ∀ r0 r1, Q1 r0 r1 → Q2 r0 r1) : w_hints_22 Q1 x2 u → pw_hints_22 Q2 x2 u := fun a => a (fun x2 u => pw_hints_22 Q2 x2 u) (fun x2 u b => fo_w_hints_22 (wp_w_hints_22b (fun r0 r1 a => a) hQ b))
def pw_hints (a0 : Int) (Q : Int → iST → Prop) (u : iST) : Prop :=
  sw (iI u 133 (-1)) (fun u => 
  sw (iI u 136 0) (fun u => 
  ztp 0 (sw (iI u 135 0) (fun u => 
  sw (iI u 139 0) (fun u => 
  pw_hints_22 Q a0 u)))))
theorem cj_w_hints {Q1 Q2 Q3 : Int → iST → Prop}  {a0 : Int} {u : iST} (hQ : ∀ r0 r1, Q1 r0 r1 → Q2 r0 r1 → Q3 r0 r1) : w_hints a0 Q1 u → pw_hints a0 Q2 u → w_hints a0 Q3 u := (sw_cj fun _ => (sw_cj fun _ => (zt_cj (sw_cj fun _ => (sw_cj fun _ => (cj_w_hints_22  hQ))))))
theorem mn_w_hints {Q1 Q2 : Int → iST → Prop}  {a0 : Int} {u : iST} (hQ : ∀ r0 r1, Q1 r0 r1 → Q2 r0 r1) : pw_hints a0 Q1 u → pw_hints a0 Q2 u := (sw_mn fun _ => (sw_mn fun _ => (zt_mn (sw_mn fun _ => (sw_mn fun _ => (mn_w_hints_22  hQ))))))
theorem wp_w_hints {Q1 Q2 : Int → iST → Prop}  {a0 : Int} {u : iST} (hQ : ∀ r0 r1, Q1 r0 r1 → Q2 r0 r1) : w_hints a0 Q1 u → pw_hints a0 Q2 u := (sw_wp fun _ => (sw_wp fun _ => (zt_wp (sw_wp fun _ => (sw_wp fun _ => (wp_w_hints_22  hQ))))))
def pw_takeParameters_12b (R12 : Int → Int → Int → iST → Prop) (Q : iST → Prop) (x1 : Int) (x2 : Int) (x3 : Int) (u : iST) : Prop :=
  rd (u.1 74) (fun v2 => 
  br (v2 ≤ x3) (
    Q u) (
    ovp (6 * x1) (
    ovp ((6 * x1) + x3) (
    bdp ((6 * x1) + x3) 240 (rd (u.2.1 38 ((6 * x1) + x3)) (fun v5 => 
    bdp x3 400 (sw (iA u 72 x3 v5) (fun u => 
    pw_nth x2 x3 (fun v6 u => 
    bdp x3 400 (sw (iA u 73 x3 v6) (fun u => 
    ovp (x3 + 1) (
    R12 x1 x2 (x3 + 1) u)))) u))))))))
theorem cj_w_takeParameters_12b {Q1 Q2 Q3 : iST → Prop} {R121 R122 R123 : Int → Int → Int → iST → Prop} {x1 : Int} {x2 : Int} {x3 : Int} {u : iST} (hR12 : ∀ r0 r1 r2 r3, R121 r0 r1 r2 r3 → R122 r0 r1 r2 r3 → R123 r0 r1 r2 r3) (hQ : ∀ r0, Q1 r0 → Q2 r0 → Q3 r0) : w_takeParameters_12b R121 Q1 x1 x2 x3 u → pw_takeParameters_12b R122 Q2 x1 x2 x3 u → w_takeParameters_12b R123 Q3 x1 x2 x3 u := (rd_cj fun _ => (br_cj (hQ _) (ov_cj (ov_cj (bd_cj (rd_cj fun _ => (bd_cj (sw_cj fun _ => (cj_w_nth (fun _ _ => (bd_cj (sw_cj fun _ => (ov_cj (hR12 _ _ _ _))))))))))))))
theorem mn_w_takeParameters_12b {Q1 Q2 : iST → Prop} {R121 R122 : Int → Int → Int → iST → Prop} {x1 : Int} {x2 : Int} {x3 : Int} {u : iST} (hR12 : ∀ r0 r1 r2 r3, R121 r0 r1 r2 r3 → R122 r0 r1 r2 r3) (hQ : ∀ r0, Q1 r0 → Q2 r0) : pw_takeParameters_12b R121 Q1 x1 x2 x3 u → pw_takeParameters_12b R122 Q2 x1 x2 x3 u := (rd_mn fun _ => (br_mn (hQ _) (ov_mn (ov_mn (bd_mn (rd_mn fun _ => (bd_mn (sw_mn fun _ => (mn_w_nth (fun _ _ => (bd_mn (sw_mn fun _ => (ov_mn (hR12 _ _ _ _))))))))))))))
theorem wp_w_takeParameters_12b {Q1 Q2 : iST → Prop} {R121 R122 : Int → Int → Int → iST → Prop} {x1 : Int} {x2 : Int} {x3 : Int} {u : iST} (hR12 : ∀ r0 r1 r2 r3, R121 r0 r1 r2 r3 → R122 r0 r1 r2 r3) (hQ : ∀ r0, Q1 r0 → Q2 r0) : w_takeParameters_12b R121 Q1 x1 x2 x3 u → pw_takeParameters_12b R122 Q2 x1 x2 x3 u := (rd_wp fun _ => (br_wp (hQ _) (ov_wp (ov_wp (bd_wp (rd_wp fun _ => (bd_wp (sw_wp fun _ => (wp_w_nth (fun _ _ => (bd_wp (sw_wp fun _ => (ov_wp (hR12 _ _ _ _))))))))))))))
def pw_takeParameters_12 (Q : iST → Prop) (x1 : Int) (x2 : Int) (x3 : Int) (u : iST) : Prop := ∃ R12 : Int → Int → Int → iST → Prop, (∀ (x1 : Int) (x2 : Int) (x3 : Int) (u : iST), R12 x1 x2 x3 u → pw_takeParameters_12b R12 Q x1 x2 x3 u) ∧ R12 x1 x2 x3 u
theorem cj_w_takeParameters_12 {Q1 Q2 Q3 : iST → Prop}  {x1 : Int} {x2 : Int} {x3 : Int} {u : iST} (hQ : ∀ r0, Q1 r0 → Q2 r0 → Q3 r0) : w_takeParameters_12 Q1 x1 x2 x3 u → pw_takeParameters_12 Q2 x1 x2 x3 u → w_takeParameters_12 Q3 x1 x2 x3 u := by
  intro a b R3 c3
  obtain ⟨R2, c2, b2⟩ := b
  exact a (fun r0 r1 r2 r3 => R2 r0 r1 r2 r3 → R3 r0 r1 r2 r3) (fun r0 r1 r2 r3 a b => c3 r0 r1 r2 r3 (cj_w_takeParameters_12b (fun r0 r1 r2 r3 a b => a b) hQ a (c2 r0 r1 r2 r3 b))) b2
theorem pw_takeParameters_12_i  {Q : iST → Prop} {x1 : Int} {x2 : Int} {x3 : Int} {u : iST} (I : Int → Int → Int → iST → Prop) (s : ∀ (x1 : Int) (x2 : Int) (x3 : Int) (u : iST), I x1 x2 x3 u → pw_takeParameters_12b I Q x1 x2 x3 u) (h : I x1 x2 x3 u) : pw_takeParameters_12 Q x1 x2 x3 u := ⟨I, s, h⟩
theorem mn_w_takeParameters_12 {Q1 Q2 : iST → Prop}  {x1 : Int} {x2 : Int} {x3 : Int} {u : iST} (hQ : ∀ r0, Q1 r0 → Q2 r0) : pw_takeParameters_12 Q1 x1 x2 x3 u → pw_takeParameters_12 Q2 x1 x2 x3 u := fun ⟨R, s, h⟩ => ⟨R, fun r0 r1 r2 r3 a => mn_w_takeParameters_12b (fun r0 r1 r2 r3 a => a) hQ (s r0 r1 r2 r3 a), h⟩
theorem un_w_takeParameters_12  {Q : iST → Prop} {x1 : Int} {x2 : Int} {x3 : Int} {u : iST} : pw_takeParameters_12 Q x1 x2 x3 u → pw_takeParameters_12b (fun x1 x2 x3 u => pw_takeParameters_12 Q x1 x2 x3 u) Q x1 x2 x3 u := fun ⟨R, s, h⟩ => mn_w_takeParameters_12b (fun r0 r1 r2 r3 a => ⟨R, s, a⟩) (fun _ h => h) (s _ _ _ _ h)
theorem fo_w_takeParameters_12  {Q : iST → Prop} {x1 : Int} {x2 : Int} {x3 : Int} {u : iST} : pw_takeParameters_12b (fun x1 x2 x3 u => pw_takeParameters_12 Q x1 x2 x3 u) Q x1 x2 x3 u → pw_takeParameters_12 Q x1 x2 x3 u := fun h => ⟨fun x1 x2 x3 u => pw_takeParameters_12b (fun x1 x2 x3 u => pw_takeParameters_12 Q x1 x2 x3 u) Q x1 x2 x3 u, fun r0 r1 r2 r3 a => mn_w_takeParameters_12b (fun r0 r1 r2 r3 a => un_w_takeParameters_12 a) (fun _ h => h) a, h⟩
theorem wp_w_takeParameters_12 {Q1 Q2 : iST → Prop}  {x1 : Int} {x2 : Int} {x3 : Int} {u : iST} (hQ : ∀ r0, Q1 r0 → Q2 r0) : w_takeParameters_12 Q1 x1 x2 x3 u → pw_takeParameters_12 Q2 x1 x2 x3 u := fun a => a (fun x1 x2 x3 u => pw_takeParameters_12 Q2 x1 x2 x3 u) (fun x1 x2 x3 u b => fo_w_takeParameters_12 (wp_w_takeParameters_12b (fun r0 r1 r2 r3 a => a) hQ b))
def pw_takeParameters (a0 : Int) (a1 : Int) (Q : iST → Prop) (u : iST) : Prop :=
  bdp a0 40 (rd (u.2.1 37 a0) (fun v1 => 
  sw (iI u 74 v1) (fun u => 
  pw_takeParameters_12 Q a0 a1 0 u)))
theorem cj_w_takeParameters {Q1 Q2 Q3 : iST → Prop}  {a0 : Int} {a1 : Int} {u : iST} (hQ : ∀ r0, Q1 r0 → Q2 r0 → Q3 r0) : w_takeParameters a0 a1 Q1 u → pw_takeParameters a0 a1 Q2 u → w_takeParameters a0 a1 Q3 u := (bd_cj (rd_cj fun _ => (sw_cj fun _ => (cj_w_takeParameters_12  hQ))))
theorem mn_w_takeParameters {Q1 Q2 : iST → Prop}  {a0 : Int} {a1 : Int} {u : iST} (hQ : ∀ r0, Q1 r0 → Q2 r0) : pw_takeParameters a0 a1 Q1 u → pw_takeParameters a0 a1 Q2 u := (bd_mn (rd_mn fun _ => (sw_mn fun _ => (mn_w_takeParameters_12  hQ))))
theorem wp_w_takeParameters {Q1 Q2 : iST → Prop}  {a0 : Int} {a1 : Int} {u : iST} (hQ : ∀ r0, Q1 r0 → Q2 r0) : w_takeParameters a0 a1 Q1 u → pw_takeParameters a0 a1 Q2 u := (bd_wp (rd_wp fun _ => (sw_wp fun _ => (wp_w_takeParameters_12  hQ))))
def pw_inductionRow_213 (Q : iST → Prop) (x4 : Int) (u : iST) : Prop :=
  pw_put x4 (fun u => 
  Q u) u
theorem cj_w_inductionRow_213 {Q1 Q2 Q3 : iST → Prop}  {x4 : Int} {u : iST} (hQ : ∀ r0, Q1 r0 → Q2 r0 → Q3 r0) : w_inductionRow_213 Q1 x4 u → pw_inductionRow_213 Q2 x4 u → w_inductionRow_213 Q3 x4 u := (cj_w_put (fun _ => (hQ _)))
theorem mn_w_inductionRow_213 {Q1 Q2 : iST → Prop}  {x4 : Int} {u : iST} (hQ : ∀ r0, Q1 r0 → Q2 r0) : pw_inductionRow_213 Q1 x4 u → pw_inductionRow_213 Q2 x4 u := (mn_w_put (fun _ => (hQ _)))
theorem wp_w_inductionRow_213 {Q1 Q2 : iST → Prop}  {x4 : Int} {u : iST} (hQ : ∀ r0, Q1 r0 → Q2 r0) : w_inductionRow_213 Q1 x4 u → pw_inductionRow_213 Q2 x4 u := (wp_w_put (fun _ => (hQ _)))
def pw_inductionRow_150b (R69 : Int → Int → Int → Int → iST → Prop) (R150 : Int → Int → Int → Int → Int → iST → Prop) (Q : iST → Prop) (x1 : Int) (x2 : Int) (x4 : Int) (x5 : Int) (x6 : Int) (u : iST) : Prop :=
  rd (u.1 74) (fun v11 => 
  br (v11 ≤ x6) (
    pw_instance x4 (fun v12 u => 
    pw_notOf v12 (fun v13 u => 
    pw_put v13 (fun u => 
    ovp (x5 + 1) (
    R69 x1 x2 x4 (x5 + 1) u)) u) u) u) (
    pw_nth x2 x6 (fun v16 u => 
    bdp x6 400 (sw (iA u 72 x6 v16) (fun u => 
    bdp x6 6 (rd (u.2.1 140 x6) (fun v17 => 
    bdp x6 400 (sw (iA u 73 x6 v17) (fun u => 
    ovp (x6 + 1) (
    R150 x1 x2 x4 x5 (x6 + 1) u)))))))) u))
theorem cj_w_inductionRow_150b {Q1 Q2 Q3 : iST → Prop} {R691 R692 R693 : Int → Int → Int → Int → iST → Prop} {R1501 R1502 R1503 : Int → Int → Int → Int → Int → iST → Prop} {x1 : Int} {x2 : Int} {x4 : Int} {x5 : Int} {x6 : Int} {u : iST} (hR69 : ∀ r0 r1 r2 r3 r4, R691 r0 r1 r2 r3 r4 → R692 r0 r1 r2 r3 r4 → R693 r0 r1 r2 r3 r4) (hR150 : ∀ r0 r1 r2 r3 r4 r5, R1501 r0 r1 r2 r3 r4 r5 → R1502 r0 r1 r2 r3 r4 r5 → R1503 r0 r1 r2 r3 r4 r5) (hQ : ∀ r0, Q1 r0 → Q2 r0 → Q3 r0) : w_inductionRow_150b R691 R1501 Q1 x1 x2 x4 x5 x6 u → pw_inductionRow_150b R692 R1502 Q2 x1 x2 x4 x5 x6 u → w_inductionRow_150b R693 R1503 Q3 x1 x2 x4 x5 x6 u := (rd_cj fun _ => (br_cj (cj_w_instance (fun _ _ => (cj_w_notOf (fun _ _ => (cj_w_put (fun _ => (ov_cj (hR69 _ _ _ _ _)))))))) (cj_w_nth (fun _ _ => (bd_cj (sw_cj fun _ => (bd_cj (rd_cj fun _ => (bd_cj (sw_cj fun _ => (ov_cj (hR150 _ _ _ _ _ _))))))))))))
theorem mn_w_inductionRow_150b {Q1 Q2 : iST → Prop} {R691 R692 : Int → Int → Int → Int → iST → Prop} {R1501 R1502 : Int → Int → Int → Int → Int → iST → Prop} {x1 : Int} {x2 : Int} {x4 : Int} {x5 : Int} {x6 : Int} {u : iST} (hR69 : ∀ r0 r1 r2 r3 r4, R691 r0 r1 r2 r3 r4 → R692 r0 r1 r2 r3 r4) (hR150 : ∀ r0 r1 r2 r3 r4 r5, R1501 r0 r1 r2 r3 r4 r5 → R1502 r0 r1 r2 r3 r4 r5) (hQ : ∀ r0, Q1 r0 → Q2 r0) : pw_inductionRow_150b R691 R1501 Q1 x1 x2 x4 x5 x6 u → pw_inductionRow_150b R692 R1502 Q2 x1 x2 x4 x5 x6 u := (rd_mn fun _ => (br_mn (mn_w_instance (fun _ _ => (mn_w_notOf (fun _ _ => (mn_w_put (fun _ => (ov_mn (hR69 _ _ _ _ _)))))))) (mn_w_nth (fun _ _ => (bd_mn (sw_mn fun _ => (bd_mn (rd_mn fun _ => (bd_mn (sw_mn fun _ => (ov_mn (hR150 _ _ _ _ _ _))))))))))))
theorem wp_w_inductionRow_150b {Q1 Q2 : iST → Prop} {R691 R692 : Int → Int → Int → Int → iST → Prop} {R1501 R1502 : Int → Int → Int → Int → Int → iST → Prop} {x1 : Int} {x2 : Int} {x4 : Int} {x5 : Int} {x6 : Int} {u : iST} (hR69 : ∀ r0 r1 r2 r3 r4, R691 r0 r1 r2 r3 r4 → R692 r0 r1 r2 r3 r4) (hR150 : ∀ r0 r1 r2 r3 r4 r5, R1501 r0 r1 r2 r3 r4 r5 → R1502 r0 r1 r2 r3 r4 r5) (hQ : ∀ r0, Q1 r0 → Q2 r0) : w_inductionRow_150b R691 R1501 Q1 x1 x2 x4 x5 x6 u → pw_inductionRow_150b R692 R1502 Q2 x1 x2 x4 x5 x6 u := (rd_wp fun _ => (br_wp (wp_w_instance (fun _ _ => (wp_w_notOf (fun _ _ => (wp_w_put (fun _ => (ov_wp (hR69 _ _ _ _ _)))))))) (wp_w_nth (fun _ _ => (bd_wp (sw_wp fun _ => (bd_wp (rd_wp fun _ => (bd_wp (sw_wp fun _ => (ov_wp (hR150 _ _ _ _ _ _))))))))))))
def pw_inductionRow_150 (R69 : Int → Int → Int → Int → iST → Prop) (Q : iST → Prop) (x1 : Int) (x2 : Int) (x4 : Int) (x5 : Int) (x6 : Int) (u : iST) : Prop := ∃ R150 : Int → Int → Int → Int → Int → iST → Prop, (∀ (x1 : Int) (x2 : Int) (x4 : Int) (x5 : Int) (x6 : Int) (u : iST), R150 x1 x2 x4 x5 x6 u → pw_inductionRow_150b R69 R150 Q x1 x2 x4 x5 x6 u) ∧ R150 x1 x2 x4 x5 x6 u
theorem cj_w_inductionRow_150 {Q1 Q2 Q3 : iST → Prop} {R691 R692 R693 : Int → Int → Int → Int → iST → Prop} {x1 : Int} {x2 : Int} {x4 : Int} {x5 : Int} {x6 : Int} {u : iST} (hR69 : ∀ r0 r1 r2 r3 r4, R691 r0 r1 r2 r3 r4 → R692 r0 r1 r2 r3 r4 → R693 r0 r1 r2 r3 r4) (hQ : ∀ r0, Q1 r0 → Q2 r0 → Q3 r0) : w_inductionRow_150 R691 Q1 x1 x2 x4 x5 x6 u → pw_inductionRow_150 R692 Q2 x1 x2 x4 x5 x6 u → w_inductionRow_150 R693 Q3 x1 x2 x4 x5 x6 u := by
  intro a b R3 c3
  obtain ⟨R2, c2, b2⟩ := b
  exact a (fun r0 r1 r2 r3 r4 r5 => R2 r0 r1 r2 r3 r4 r5 → R3 r0 r1 r2 r3 r4 r5) (fun r0 r1 r2 r3 r4 r5 a b => c3 r0 r1 r2 r3 r4 r5 (cj_w_inductionRow_150b hR69 (fun r0 r1 r2 r3 r4 r5 a b => a b) hQ a (c2 r0 r1 r2 r3 r4 r5 b))) b2
theorem pw_inductionRow_150_i {R69 : Int → Int → Int → Int → iST → Prop} {Q : iST → Prop} {x1 : Int} {x2 : Int} {x4 : Int} {x5 : Int} {x6 : Int} {u : iST} (I : Int → Int → Int → Int → Int → iST → Prop) (s : ∀ (x1 : Int) (x2 : Int) (x4 : Int) (x5 : Int) (x6 : Int) (u : iST), I x1 x2 x4 x5 x6 u → pw_inductionRow_150b R69 I Q x1 x2 x4 x5 x6 u) (h : I x1 x2 x4 x5 x6 u) : pw_inductionRow_150 R69 Q x1 x2 x4 x5 x6 u := ⟨I, s, h⟩
theorem mn_w_inductionRow_150 {Q1 Q2 : iST → Prop} {R691 R692 : Int → Int → Int → Int → iST → Prop} {x1 : Int} {x2 : Int} {x4 : Int} {x5 : Int} {x6 : Int} {u : iST} (hR69 : ∀ r0 r1 r2 r3 r4, R691 r0 r1 r2 r3 r4 → R692 r0 r1 r2 r3 r4) (hQ : ∀ r0, Q1 r0 → Q2 r0) : pw_inductionRow_150 R691 Q1 x1 x2 x4 x5 x6 u → pw_inductionRow_150 R692 Q2 x1 x2 x4 x5 x6 u := fun ⟨R, s, h⟩ => ⟨R, fun r0 r1 r2 r3 r4 r5 a => mn_w_inductionRow_150b hR69 (fun r0 r1 r2 r3 r4 r5 a => a) hQ (s r0 r1 r2 r3 r4 r5 a), h⟩
theorem un_w_inductionRow_150 {R69 : Int → Int → Int → Int → iST → Prop} {Q : iST → Prop} {x1 : Int} {x2 : Int} {x4 : Int} {x5 : Int} {x6 : Int} {u : iST} : pw_inductionRow_150 R69 Q x1 x2 x4 x5 x6 u → pw_inductionRow_150b R69 (fun x1 x2 x4 x5 x6 u => pw_inductionRow_150 R69 Q x1 x2 x4 x5 x6 u) Q x1 x2 x4 x5 x6 u := fun ⟨R, s, h⟩ => mn_w_inductionRow_150b (fun _ _ _ _ _ h => h) (fun r0 r1 r2 r3 r4 r5 a => ⟨R, s, a⟩) (fun _ h => h) (s _ _ _ _ _ _ h)
theorem fo_w_inductionRow_150 {R69 : Int → Int → Int → Int → iST → Prop} {Q : iST → Prop} {x1 : Int} {x2 : Int} {x4 : Int} {x5 : Int} {x6 : Int} {u : iST} : pw_inductionRow_150b R69 (fun x1 x2 x4 x5 x6 u => pw_inductionRow_150 R69 Q x1 x2 x4 x5 x6 u) Q x1 x2 x4 x5 x6 u → pw_inductionRow_150 R69 Q x1 x2 x4 x5 x6 u := fun h => ⟨fun x1 x2 x4 x5 x6 u => pw_inductionRow_150b R69 (fun x1 x2 x4 x5 x6 u => pw_inductionRow_150 R69 Q x1 x2 x4 x5 x6 u) Q x1 x2 x4 x5 x6 u, fun r0 r1 r2 r3 r4 r5 a => mn_w_inductionRow_150b (fun _ _ _ _ _ h => h) (fun r0 r1 r2 r3 r4 r5 a => un_w_inductionRow_150 a) (fun _ h => h) a, h⟩
theorem wp_w_inductionRow_150 {Q1 Q2 : iST → Prop} {R691 R692 : Int → Int → Int → Int → iST → Prop} {x1 : Int} {x2 : Int} {x4 : Int} {x5 : Int} {x6 : Int} {u : iST} (hR69 : ∀ r0 r1 r2 r3 r4, R691 r0 r1 r2 r3 r4 → R692 r0 r1 r2 r3 r4) (hQ : ∀ r0, Q1 r0 → Q2 r0) : w_inductionRow_150 R691 Q1 x1 x2 x4 x5 x6 u → pw_inductionRow_150 R692 Q2 x1 x2 x4 x5 x6 u := fun a => a (fun x1 x2 x4 x5 x6 u => pw_inductionRow_150 R692 Q2 x1 x2 x4 x5 x6 u) (fun x1 x2 x4 x5 x6 u b => fo_w_inductionRow_150 (wp_w_inductionRow_150b hR69 (fun r0 r1 r2 r3 r4 r5 a => a) hQ b))
def pw_inductionRow_94b (R69 : Int → Int → Int → Int → iST → Prop) (R94 : Int → Int → Int → Int → Int → iST → Prop) (Q : iST → Prop) (x1 : Int) (x2 : Int) (x4 : Int) (x5 : Int) (x6 : Int) (u : iST) : Prop :=
  bdp x1 40 (rd (u.2.1 37 x1) (fun v9 => 
  br (v9 ≤ x6) (
    bdp x1 40 (rd (u.2.1 37 x1) (fun v10 => 
    sw (iI u 74 v10) (fun u => 
    pw_inductionRow_150 R69 Q x1 x2 x4 x5 0 u)))) (
    bdp x5 130 (rd (u.2.1 130 x5) (fun v19 => 
    ovp (x6 + 1) (
    pw_term v19 (x6 + 1) (fun v21 u => 
    pw_instance v21 (fun v22 u => 
    bdp x6 6 (sw (iA u 140 x6 v22) (fun u => 
    ovp (x6 + 1) (
    R94 x1 x2 x4 x5 (x6 + 1) u)))) u) u))))))
theorem cj_w_inductionRow_94b {Q1 Q2 Q3 : iST → Prop} {R691 R692 R693 : Int → Int → Int → Int → iST → Prop} {R941 R942 R943 : Int → Int → Int → Int → Int → iST → Prop} {x1 : Int} {x2 : Int} {x4 : Int} {x5 : Int} {x6 : Int} {u : iST} (hR69 : ∀ r0 r1 r2 r3 r4, R691 r0 r1 r2 r3 r4 → R692 r0 r1 r2 r3 r4 → R693 r0 r1 r2 r3 r4) (hR94 : ∀ r0 r1 r2 r3 r4 r5, R941 r0 r1 r2 r3 r4 r5 → R942 r0 r1 r2 r3 r4 r5 → R943 r0 r1 r2 r3 r4 r5) (hQ : ∀ r0, Q1 r0 → Q2 r0 → Q3 r0) : w_inductionRow_94b R691 R941 Q1 x1 x2 x4 x5 x6 u → pw_inductionRow_94b R692 R942 Q2 x1 x2 x4 x5 x6 u → w_inductionRow_94b R693 R943 Q3 x1 x2 x4 x5 x6 u := (bd_cj (rd_cj fun _ => (br_cj (bd_cj (rd_cj fun _ => (sw_cj fun _ => (cj_w_inductionRow_150 hR69 hQ)))) (bd_cj (rd_cj fun _ => (ov_cj (cj_w_term (fun _ _ => (cj_w_instance (fun _ _ => (bd_cj (sw_cj fun _ => (ov_cj (hR94 _ _ _ _ _ _))))))))))))))
theorem mn_w_inductionRow_94b {Q1 Q2 : iST → Prop} {R691 R692 : Int → Int → Int → Int → iST → Prop} {R941 R942 : Int → Int → Int → Int → Int → iST → Prop} {x1 : Int} {x2 : Int} {x4 : Int} {x5 : Int} {x6 : Int} {u : iST} (hR69 : ∀ r0 r1 r2 r3 r4, R691 r0 r1 r2 r3 r4 → R692 r0 r1 r2 r3 r4) (hR94 : ∀ r0 r1 r2 r3 r4 r5, R941 r0 r1 r2 r3 r4 r5 → R942 r0 r1 r2 r3 r4 r5) (hQ : ∀ r0, Q1 r0 → Q2 r0) : pw_inductionRow_94b R691 R941 Q1 x1 x2 x4 x5 x6 u → pw_inductionRow_94b R692 R942 Q2 x1 x2 x4 x5 x6 u := (bd_mn (rd_mn fun _ => (br_mn (bd_mn (rd_mn fun _ => (sw_mn fun _ => (mn_w_inductionRow_150 hR69 hQ)))) (bd_mn (rd_mn fun _ => (ov_mn (mn_w_term (fun _ _ => (mn_w_instance (fun _ _ => (bd_mn (sw_mn fun _ => (ov_mn (hR94 _ _ _ _ _ _))))))))))))))
theorem wp_w_inductionRow_94b {Q1 Q2 : iST → Prop} {R691 R692 : Int → Int → Int → Int → iST → Prop} {R941 R942 : Int → Int → Int → Int → Int → iST → Prop} {x1 : Int} {x2 : Int} {x4 : Int} {x5 : Int} {x6 : Int} {u : iST} (hR69 : ∀ r0 r1 r2 r3 r4, R691 r0 r1 r2 r3 r4 → R692 r0 r1 r2 r3 r4) (hR94 : ∀ r0 r1 r2 r3 r4 r5, R941 r0 r1 r2 r3 r4 r5 → R942 r0 r1 r2 r3 r4 r5) (hQ : ∀ r0, Q1 r0 → Q2 r0) : w_inductionRow_94b R691 R941 Q1 x1 x2 x4 x5 x6 u → pw_inductionRow_94b R692 R942 Q2 x1 x2 x4 x5 x6 u := (bd_wp (rd_wp fun _ => (br_wp (bd_wp (rd_wp fun _ => (sw_wp fun _ => (wp_w_inductionRow_150 hR69 hQ)))) (bd_wp (rd_wp fun _ => (ov_wp (wp_w_term (fun _ _ => (wp_w_instance (fun _ _ => (bd_wp (sw_wp fun _ => (ov_wp (hR94 _ _ _ _ _ _))))))))))))))
def pw_inductionRow_94 (R69 : Int → Int → Int → Int → iST → Prop) (Q : iST → Prop) (x1 : Int) (x2 : Int) (x4 : Int) (x5 : Int) (x6 : Int) (u : iST) : Prop := ∃ R94 : Int → Int → Int → Int → Int → iST → Prop, (∀ (x1 : Int) (x2 : Int) (x4 : Int) (x5 : Int) (x6 : Int) (u : iST), R94 x1 x2 x4 x5 x6 u → pw_inductionRow_94b R69 R94 Q x1 x2 x4 x5 x6 u) ∧ R94 x1 x2 x4 x5 x6 u
theorem cj_w_inductionRow_94 {Q1 Q2 Q3 : iST → Prop} {R691 R692 R693 : Int → Int → Int → Int → iST → Prop} {x1 : Int} {x2 : Int} {x4 : Int} {x5 : Int} {x6 : Int} {u : iST} (hR69 : ∀ r0 r1 r2 r3 r4, R691 r0 r1 r2 r3 r4 → R692 r0 r1 r2 r3 r4 → R693 r0 r1 r2 r3 r4) (hQ : ∀ r0, Q1 r0 → Q2 r0 → Q3 r0) : w_inductionRow_94 R691 Q1 x1 x2 x4 x5 x6 u → pw_inductionRow_94 R692 Q2 x1 x2 x4 x5 x6 u → w_inductionRow_94 R693 Q3 x1 x2 x4 x5 x6 u := by
  intro a b R3 c3
  obtain ⟨R2, c2, b2⟩ := b
  exact a (fun r0 r1 r2 r3 r4 r5 => R2 r0 r1 r2 r3 r4 r5 → R3 r0 r1 r2 r3 r4 r5) (fun r0 r1 r2 r3 r4 r5 a b => c3 r0 r1 r2 r3 r4 r5 (cj_w_inductionRow_94b hR69 (fun r0 r1 r2 r3 r4 r5 a b => a b) hQ a (c2 r0 r1 r2 r3 r4 r5 b))) b2
theorem pw_inductionRow_94_i {R69 : Int → Int → Int → Int → iST → Prop} {Q : iST → Prop} {x1 : Int} {x2 : Int} {x4 : Int} {x5 : Int} {x6 : Int} {u : iST} (I : Int → Int → Int → Int → Int → iST → Prop) (s : ∀ (x1 : Int) (x2 : Int) (x4 : Int) (x5 : Int) (x6 : Int) (u : iST), I x1 x2 x4 x5 x6 u → pw_inductionRow_94b R69 I Q x1 x2 x4 x5 x6 u) (h : I x1 x2 x4 x5 x6 u) : pw_inductionRow_94 R69 Q x1 x2 x4 x5 x6 u := ⟨I, s, h⟩
theorem mn_w_inductionRow_94 {Q1 Q2 : iST → Prop} {R691 R692 : Int → Int → Int → Int → iST → Prop} {x1 : Int} {x2 : Int} {x4 : Int} {x5 : Int} {x6 : Int} {u : iST} (hR69 : ∀ r0 r1 r2 r3 r4, R691 r0 r1 r2 r3 r4 → R692 r0 r1 r2 r3 r4) (hQ : ∀ r0, Q1 r0 → Q2 r0) : pw_inductionRow_94 R691 Q1 x1 x2 x4 x5 x6 u → pw_inductionRow_94 R692 Q2 x1 x2 x4 x5 x6 u := fun ⟨R, s, h⟩ => ⟨R, fun r0 r1 r2 r3 r4 r5 a => mn_w_inductionRow_94b hR69 (fun r0 r1 r2 r3 r4 r5 a => a) hQ (s r0 r1 r2 r3 r4 r5 a), h⟩
theorem un_w_inductionRow_94 {R69 : Int → Int → Int → Int → iST → Prop} {Q : iST → Prop} {x1 : Int} {x2 : Int} {x4 : Int} {x5 : Int} {x6 : Int} {u : iST} : pw_inductionRow_94 R69 Q x1 x2 x4 x5 x6 u → pw_inductionRow_94b R69 (fun x1 x2 x4 x5 x6 u => pw_inductionRow_94 R69 Q x1 x2 x4 x5 x6 u) Q x1 x2 x4 x5 x6 u := fun ⟨R, s, h⟩ => mn_w_inductionRow_94b (fun _ _ _ _ _ h => h) (fun r0 r1 r2 r3 r4 r5 a => ⟨R, s, a⟩) (fun _ h => h) (s _ _ _ _ _ _ h)
theorem fo_w_inductionRow_94 {R69 : Int → Int → Int → Int → iST → Prop} {Q : iST → Prop} {x1 : Int} {x2 : Int} {x4 : Int} {x5 : Int} {x6 : Int} {u : iST} : pw_inductionRow_94b R69 (fun x1 x2 x4 x5 x6 u => pw_inductionRow_94 R69 Q x1 x2 x4 x5 x6 u) Q x1 x2 x4 x5 x6 u → pw_inductionRow_94 R69 Q x1 x2 x4 x5 x6 u := fun h => ⟨fun x1 x2 x4 x5 x6 u => pw_inductionRow_94b R69 (fun x1 x2 x4 x5 x6 u => pw_inductionRow_94 R69 Q x1 x2 x4 x5 x6 u) Q x1 x2 x4 x5 x6 u, fun r0 r1 r2 r3 r4 r5 a => mn_w_inductionRow_94b (fun _ _ _ _ _ h => h) (fun r0 r1 r2 r3 r4 r5 a => un_w_inductionRow_94 a) (fun _ h => h) a, h⟩
theorem wp_w_inductionRow_94 {Q1 Q2 : iST → Prop} {R691 R692 : Int → Int → Int → Int → iST → Prop} {x1 : Int} {x2 : Int} {x4 : Int} {x5 : Int} {x6 : Int} {u : iST} (hR69 : ∀ r0 r1 r2 r3 r4, R691 r0 r1 r2 r3 r4 → R692 r0 r1 r2 r3 r4) (hQ : ∀ r0, Q1 r0 → Q2 r0) : w_inductionRow_94 R691 Q1 x1 x2 x4 x5 x6 u → pw_inductionRow_94 R692 Q2 x1 x2 x4 x5 x6 u := fun a => a (fun x1 x2 x4 x5 x6 u => pw_inductionRow_94 R692 Q2 x1 x2 x4 x5 x6 u) (fun x1 x2 x4 x5 x6 u b => fo_w_inductionRow_94 (wp_w_inductionRow_94b hR69 (fun r0 r1 r2 r3 r4 r5 a => a) hQ b))
def pw_inductionRow_69b (R69 : Int → Int → Int → Int → iST → Prop) (Q : iST → Prop) (x1 : Int) (x2 : Int) (x4 : Int) (x5 : Int) (u : iST) : Prop :=
  rd (u.1 131) (fun v5 => 
  br (v5 ≤ x5) (
    pw_inductionRow_213 Q x4 u) (
    rd (u.1 61) (fun v7 => 
    br (v7 ≠ 0) (
      pw_inductionRow_213 Q x4 u) (
      pw_takeParameters x1 x2 (fun u => 
      pw_inductionRow_94 R69 Q x1 x2 x4 x5 0 u) u))))
theorem cj_w_inductionRow_69b {Q1 Q2 Q3 : iST → Prop} {R691 R692 R693 : Int → Int → Int → Int → iST → Prop} {x1 : Int} {x2 : Int} {x4 : Int} {x5 : Int} {u : iST} (hR69 : ∀ r0 r1 r2 r3 r4, R691 r0 r1 r2 r3 r4 → R692 r0 r1 r2 r3 r4 → R693 r0 r1 r2 r3 r4) (hQ : ∀ r0, Q1 r0 → Q2 r0 → Q3 r0) : w_inductionRow_69b R691 Q1 x1 x2 x4 x5 u → pw_inductionRow_69b R692 Q2 x1 x2 x4 x5 u → w_inductionRow_69b R693 Q3 x1 x2 x4 x5 u := (rd_cj fun _ => (br_cj (cj_w_inductionRow_213  hQ) (rd_cj fun _ => (br_cj (cj_w_inductionRow_213  hQ) (cj_w_takeParameters (fun _ => (cj_w_inductionRow_94 hR69 hQ)))))))
theorem mn_w_inductionRow_69b {Q1 Q2 : iST → Prop} {R691 R692 : Int → Int → Int → Int → iST → Prop} {x1 : Int} {x2 : Int} {x4 : Int} {x5 : Int} {u : iST} (hR69 : ∀ r0 r1 r2 r3 r4, R691 r0 r1 r2 r3 r4 → R692 r0 r1 r2 r3 r4) (hQ : ∀ r0, Q1 r0 → Q2 r0) : pw_inductionRow_69b R691 Q1 x1 x2 x4 x5 u → pw_inductionRow_69b R692 Q2 x1 x2 x4 x5 u := (rd_mn fun _ => (br_mn (mn_w_inductionRow_213  hQ) (rd_mn fun _ => (br_mn (mn_w_inductionRow_213  hQ) (mn_w_takeParameters (fun _ => (mn_w_inductionRow_94 hR69 hQ)))))))
theorem wp_w_inductionRow_69b {Q1 Q2 : iST → Prop} {R691 R692 : Int → Int → Int → Int → iST → Prop} {x1 : Int} {x2 : Int} {x4 : Int} {x5 : Int} {u : iST} (hR69 : ∀ r0 r1 r2 r3 r4, R691 r0 r1 r2 r3 r4 → R692 r0 r1 r2 r3 r4) (hQ : ∀ r0, Q1 r0 → Q2 r0) : w_inductionRow_69b R691 Q1 x1 x2 x4 x5 u → pw_inductionRow_69b R692 Q2 x1 x2 x4 x5 u := (rd_wp fun _ => (br_wp (wp_w_inductionRow_213  hQ) (rd_wp fun _ => (br_wp (wp_w_inductionRow_213  hQ) (wp_w_takeParameters (fun _ => (wp_w_inductionRow_94 hR69 hQ)))))))
def pw_inductionRow_69 (Q : iST → Prop) (x1 : Int) (x2 : Int) (x4 : Int) (x5 : Int) (u : iST) : Prop := ∃ R69 : Int → Int → Int → Int → iST → Prop, (∀ (x1 : Int) (x2 : Int) (x4 : Int) (x5 : Int) (u : iST), R69 x1 x2 x4 x5 u → pw_inductionRow_69b R69 Q x1 x2 x4 x5 u) ∧ R69 x1 x2 x4 x5 u
theorem cj_w_inductionRow_69 {Q1 Q2 Q3 : iST → Prop}  {x1 : Int} {x2 : Int} {x4 : Int} {x5 : Int} {u : iST} (hQ : ∀ r0, Q1 r0 → Q2 r0 → Q3 r0) : w_inductionRow_69 Q1 x1 x2 x4 x5 u → pw_inductionRow_69 Q2 x1 x2 x4 x5 u → w_inductionRow_69 Q3 x1 x2 x4 x5 u := by
  intro a b R3 c3
  obtain ⟨R2, c2, b2⟩ := b
  exact a (fun r0 r1 r2 r3 r4 => R2 r0 r1 r2 r3 r4 → R3 r0 r1 r2 r3 r4) (fun r0 r1 r2 r3 r4 a b => c3 r0 r1 r2 r3 r4 (cj_w_inductionRow_69b (fun r0 r1 r2 r3 r4 a b => a b) hQ a (c2 r0 r1 r2 r3 r4 b))) b2
theorem pw_inductionRow_69_i  {Q : iST → Prop} {x1 : Int} {x2 : Int} {x4 : Int} {x5 : Int} {u : iST} (I : Int → Int → Int → Int → iST → Prop) (s : ∀ (x1 : Int) (x2 : Int) (x4 : Int) (x5 : Int) (u : iST), I x1 x2 x4 x5 u → pw_inductionRow_69b I Q x1 x2 x4 x5 u) (h : I x1 x2 x4 x5 u) : pw_inductionRow_69 Q x1 x2 x4 x5 u := ⟨I, s, h⟩
theorem mn_w_inductionRow_69 {Q1 Q2 : iST → Prop}  {x1 : Int} {x2 : Int} {x4 : Int} {x5 : Int} {u : iST} (hQ : ∀ r0, Q1 r0 → Q2 r0) : pw_inductionRow_69 Q1 x1 x2 x4 x5 u → pw_inductionRow_69 Q2 x1 x2 x4 x5 u := fun ⟨R, s, h⟩ => ⟨R, fun r0 r1 r2 r3 r4 a => mn_w_inductionRow_69b (fun r0 r1 r2 r3 r4 a => a) hQ (s r0 r1 r2 r3 r4 a), h⟩
theorem un_w_inductionRow_69  {Q : iST → Prop} {x1 : Int} {x2 : Int} {x4 : Int} {x5 : Int} {u : iST} : pw_inductionRow_69 Q x1 x2 x4 x5 u → pw_inductionRow_69b (fun x1 x2 x4 x5 u => pw_inductionRow_69 Q x1 x2 x4 x5 u) Q x1 x2 x4 x5 u := fun ⟨R, s, h⟩ => mn_w_inductionRow_69b (fun r0 r1 r2 r3 r4 a => ⟨R, s, a⟩) (fun _ h => h) (s _ _ _ _ _ h)
theorem fo_w_inductionRow_69  {Q : iST → Prop} {x1 : Int} {x2 : Int} {x4 : Int} {x5 : Int} {u : iST} : pw_inductionRow_69b (fun x1 x2 x4 x5 u => pw_inductionRow_69 Q x1 x2 x4 x5 u) Q x1 x2 x4 x5 u → pw_inductionRow_69 Q x1 x2 x4 x5 u := fun h => ⟨fun x1 x2 x4 x5 u => pw_inductionRow_69b (fun x1 x2 x4 x5 u => pw_inductionRow_69 Q x1 x2 x4 x5 u) Q x1 x2 x4 x5 u, fun r0 r1 r2 r3 r4 a => mn_w_inductionRow_69b (fun r0 r1 r2 r3 r4 a => un_w_inductionRow_69 a) (fun _ h => h) a, h⟩
theorem wp_w_inductionRow_69 {Q1 Q2 : iST → Prop}  {x1 : Int} {x2 : Int} {x4 : Int} {x5 : Int} {u : iST} (hQ : ∀ r0, Q1 r0 → Q2 r0) : w_inductionRow_69 Q1 x1 x2 x4 x5 u → pw_inductionRow_69 Q2 x1 x2 x4 x5 u := fun a => a (fun x1 x2 x4 x5 u => pw_inductionRow_69 Q2 x1 x2 x4 x5 u) (fun x1 x2 x4 x5 u b => fo_w_inductionRow_69 (wp_w_inductionRow_69b (fun r0 r1 r2 r3 r4 a => a) hQ b))
def pw_inductionRow_3b (R3 : Int → Int → Int → Int → Int → iST → Prop) (Q : iST → Prop) (x1 : Int) (x2 : Int) (x3 : Int) (x4 : Int) (x5 : Int) (u : iST) : Prop :=
  bdp x3 128 (rd (u.2.1 125 x3) (fun v1 => 
  br (v1 ≤ x5) (
    bdp x3 128 (rd (u.2.1 123 x3) (fun v2 => 
    bdp x1 40 (rd (u.2.1 36 x1) (fun v3 => 
    pw_find v2 v3 (fun u => 
    pw_inductionRow_69 Q x1 x2 x4 0 u) u))))) (
    pw_takeParameters x1 x2 (fun u => 
    ovp (64 * x3) (
    ovp ((64 * x3) + x5) (
    bdp ((64 * x3) + x5) 8192 (rd (u.2.1 124 ((64 * x3) + x5)) (fun v27 => 
    pw_instance v27 (fun v28 u => 
    pw_notOf v28 (fun v29 u => 
    pw_put v29 (fun u => 
    ovp (x5 + 1) (
    R3 x1 x2 x3 x4 (x5 + 1) u)) u) u) u))))) u)))
theorem cj_w_inductionRow_3b {Q1 Q2 Q3 : iST → Prop} {R31 R32 R33 : Int → Int → Int → Int → Int → iST → Prop} {x1 : Int} {x2 : Int} {x3 : Int} {x4 : Int} {x5 : Int} {u : iST} (hR3 : ∀ r0 r1 r2 r3 r4 r5, R31 r0 r1 r2 r3 r4 r5 → R32 r0 r1 r2 r3 r4 r5 → R33 r0 r1 r2 r3 r4 r5) (hQ : ∀ r0, Q1 r0 → Q2 r0 → Q3 r0) : w_inductionRow_3b R31 Q1 x1 x2 x3 x4 x5 u → pw_inductionRow_3b R32 Q2 x1 x2 x3 x4 x5 u → w_inductionRow_3b R33 Q3 x1 x2 x3 x4 x5 u := (bd_cj (rd_cj fun _ => (br_cj (bd_cj (rd_cj fun _ => (bd_cj (rd_cj fun _ => (cj_w_find (fun _ => (cj_w_inductionRow_69  hQ))))))) (cj_w_takeParameters (fun _ => (ov_cj (ov_cj (bd_cj (rd_cj fun _ => (cj_w_instance (fun _ _ => (cj_w_notOf (fun _ _ => (cj_w_put (fun _ => (ov_cj (hR3 _ _ _ _ _ _)))))))))))))))))
theorem mn_w_inductionRow_3b {Q1 Q2 : iST → Prop} {R31 R32 : Int → Int → Int → Int → Int → iST → Prop} {x1 : Int} {x2 : Int} {x3 : Int} {x4 : Int} {x5 : Int} {u : iST} (hR3 : ∀ r0 r1 r2 r3 r4 r5, R31 r0 r1 r2 r3 r4 r5 → R32 r0 r1 r2 r3 r4 r5) (hQ : ∀ r0, Q1 r0 → Q2 r0) : pw_inductionRow_3b R31 Q1 x1 x2 x3 x4 x5 u → pw_inductionRow_3b R32 Q2 x1 x2 x3 x4 x5 u := (bd_mn (rd_mn fun _ => (br_mn (bd_mn (rd_mn fun _ => (bd_mn (rd_mn fun _ => (mn_w_find (fun _ => (mn_w_inductionRow_69  hQ))))))) (mn_w_takeParameters (fun _ => (ov_mn (ov_mn (bd_mn (rd_mn fun _ => (mn_w_instance (fun _ _ => (mn_w_notOf (fun _ _ => (mn_w_put (fun _ => (ov_mn (hR3 _ _ _ _ _ _)))))))))))))))))
theorem wp_w_inductionRow_3b {Q1 Q2 : iST → Prop} {R31 R32 : Int → Int → Int → Int → Int → iST → Prop} {x1 : Int} {x2 : Int} {x3 : Int} {x4 : Int} {x5 : Int} {u : iST} (hR3 : ∀ r0 r1 r2 r3 r4 r5, R31 r0 r1 r2 r3 r4 r5 → R32 r0 r1 r2 r3 r4 r5) (hQ : ∀ r0, Q1 r0 → Q2 r0) : w_inductionRow_3b R31 Q1 x1 x2 x3 x4 x5 u → pw_inductionRow_3b R32 Q2 x1 x2 x3 x4 x5 u := (bd_wp (rd_wp fun _ => (br_wp (bd_wp (rd_wp fun _ => (bd_wp (rd_wp fun _ => (wp_w_find (fun _ => (wp_w_inductionRow_69  hQ))))))) (wp_w_takeParameters (fun _ => (ov_wp (ov_wp (bd_wp (rd_wp fun _ => (wp_w_instance (fun _ _ => (wp_w_notOf (fun _ _ => (wp_w_put (fun _ => (ov_wp (hR3 _ _ _ _ _ _)))))))))))))))))
def pw_inductionRow_3 (Q : iST → Prop) (x1 : Int) (x2 : Int) (x3 : Int) (x4 : Int) (x5 : Int) (u : iST) : Prop := ∃ R3 : Int → Int → Int → Int → Int → iST → Prop, (∀ (x1 : Int) (x2 : Int) (x3 : Int) (x4 : Int) (x5 : Int) (u : iST), R3 x1 x2 x3 x4 x5 u → pw_inductionRow_3b R3 Q x1 x2 x3 x4 x5 u) ∧ R3 x1 x2 x3 x4 x5 u
theorem cj_w_inductionRow_3 {Q1 Q2 Q3 : iST → Prop}  {x1 : Int} {x2 : Int} {x3 : Int} {x4 : Int} {x5 : Int} {u : iST} (hQ : ∀ r0, Q1 r0 → Q2 r0 → Q3 r0) : w_inductionRow_3 Q1 x1 x2 x3 x4 x5 u → pw_inductionRow_3 Q2 x1 x2 x3 x4 x5 u → w_inductionRow_3 Q3 x1 x2 x3 x4 x5 u := by
  intro a b R3 c3
  obtain ⟨R2, c2, b2⟩ := b
  exact a (fun r0 r1 r2 r3 r4 r5 => R2 r0 r1 r2 r3 r4 r5 → R3 r0 r1 r2 r3 r4 r5) (fun r0 r1 r2 r3 r4 r5 a b => c3 r0 r1 r2 r3 r4 r5 (cj_w_inductionRow_3b (fun r0 r1 r2 r3 r4 r5 a b => a b) hQ a (c2 r0 r1 r2 r3 r4 r5 b))) b2
theorem pw_inductionRow_3_i  {Q : iST → Prop} {x1 : Int} {x2 : Int} {x3 : Int} {x4 : Int} {x5 : Int} {u : iST} (I : Int → Int → Int → Int → Int → iST → Prop) (s : ∀ (x1 : Int) (x2 : Int) (x3 : Int) (x4 : Int) (x5 : Int) (u : iST), I x1 x2 x3 x4 x5 u → pw_inductionRow_3b I Q x1 x2 x3 x4 x5 u) (h : I x1 x2 x3 x4 x5 u) : pw_inductionRow_3 Q x1 x2 x3 x4 x5 u := ⟨I, s, h⟩
theorem mn_w_inductionRow_3 {Q1 Q2 : iST → Prop}  {x1 : Int} {x2 : Int} {x3 : Int} {x4 : Int} {x5 : Int} {u : iST} (hQ : ∀ r0, Q1 r0 → Q2 r0) : pw_inductionRow_3 Q1 x1 x2 x3 x4 x5 u → pw_inductionRow_3 Q2 x1 x2 x3 x4 x5 u := fun ⟨R, s, h⟩ => ⟨R, fun r0 r1 r2 r3 r4 r5 a => mn_w_inductionRow_3b (fun r0 r1 r2 r3 r4 r5 a => a) hQ (s r0 r1 r2 r3 r4 r5 a), h⟩
theorem un_w_inductionRow_3  {Q : iST → Prop} {x1 : Int} {x2 : Int} {x3 : Int} {x4 : Int} {x5 : Int} {u : iST} : pw_inductionRow_3 Q x1 x2 x3 x4 x5 u → pw_inductionRow_3b (fun x1 x2 x3 x4 x5 u => pw_inductionRow_3 Q x1 x2 x3 x4 x5 u) Q x1 x2 x3 x4 x5 u := fun ⟨R, s, h⟩ => mn_w_inductionRow_3b (fun r0 r1 r2 r3 r4 r5 a => ⟨R, s, a⟩) (fun _ h => h) (s _ _ _ _ _ _ h)
theorem fo_w_inductionRow_3  {Q : iST → Prop} {x1 : Int} {x2 : Int} {x3 : Int} {x4 : Int} {x5 : Int} {u : iST} : pw_inductionRow_3b (fun x1 x2 x3 x4 x5 u => pw_inductionRow_3 Q x1 x2 x3 x4 x5 u) Q x1 x2 x3 x4 x5 u → pw_inductionRow_3 Q x1 x2 x3 x4 x5 u := fun h => ⟨fun x1 x2 x3 x4 x5 u => pw_inductionRow_3b (fun x1 x2 x3 x4 x5 u => pw_inductionRow_3 Q x1 x2 x3 x4 x5 u) Q x1 x2 x3 x4 x5 u, fun r0 r1 r2 r3 r4 r5 a => mn_w_inductionRow_3b (fun r0 r1 r2 r3 r4 r5 a => un_w_inductionRow_3 a) (fun _ h => h) a, h⟩
theorem wp_w_inductionRow_3 {Q1 Q2 : iST → Prop}  {x1 : Int} {x2 : Int} {x3 : Int} {x4 : Int} {x5 : Int} {u : iST} (hQ : ∀ r0, Q1 r0 → Q2 r0) : w_inductionRow_3 Q1 x1 x2 x3 x4 x5 u → pw_inductionRow_3 Q2 x1 x2 x3 x4 x5 u := fun a => a (fun x1 x2 x3 x4 x5 u => pw_inductionRow_3 Q2 x1 x2 x3 x4 x5 u) (fun x1 x2 x3 x4 x5 u b => fo_w_inductionRow_3 (wp_w_inductionRow_3b (fun r0 r1 r2 r3 r4 r5 a => a) hQ b))
def pw_inductionRow (a0 : Int) (a1 : Int) (a2 : Int) (a3 : Int) (Q : iST → Prop) (u : iST) : Prop :=
  pw_inductionRow_3 Q a0 a1 a2 a3 0 u
theorem cj_w_inductionRow {Q1 Q2 Q3 : iST → Prop}  {a0 : Int} {a1 : Int} {a2 : Int} {a3 : Int} {u : iST} (hQ : ∀ r0, Q1 r0 → Q2 r0 → Q3 r0) : w_inductionRow a0 a1 a2 a3 Q1 u → pw_inductionRow a0 a1 a2 a3 Q2 u → w_inductionRow a0 a1 a2 a3 Q3 u := (cj_w_inductionRow_3  hQ)
theorem mn_w_inductionRow {Q1 Q2 : iST → Prop}  {a0 : Int} {a1 : Int} {a2 : Int} {a3 : Int} {u : iST} (hQ : ∀ r0, Q1 r0 → Q2 r0) : pw_inductionRow a0 a1 a2 a3 Q1 u → pw_inductionRow a0 a1 a2 a3 Q2 u := (mn_w_inductionRow_3  hQ)
theorem wp_w_inductionRow {Q1 Q2 : iST → Prop}  {a0 : Int} {a1 : Int} {a2 : Int} {a3 : Int} {u : iST} (hQ : ∀ r0, Q1 r0 → Q2 r0) : w_inductionRow a0 a1 a2 a3 Q1 u → pw_inductionRow a0 a1 a2 a3 Q2 u := (wp_w_inductionRow_3  hQ)
def pw_useRows_29b (R2 : Int → iST → Prop) (R29 : Int → Int → iST → Prop) (Q : iST → Prop) (x1 : Int) (x2 : Int) (u : iST) : Prop :=
  br (x2 = 0) (
    bdp x1 400 (rd (u.2.1 137 x1) (fun v4 => 
    bdp v4 60 (rd (u.2.1 44 v4) (fun v5 => 
    pw_instance v5 (fun v6 u => 
    pw_notOf v6 (fun v7 u => 
    pw_put v7 (fun u => 
    ovp (x1 + 1) (
    R2 (x1 + 1) u)) u) u) u))))) (
    rd (u.1 74) (fun v10 => 
    bdp x2 452000 (rd (u.2.1 0 x2) (fun v11 => 
    bdp v11 452000 (rd (u.2.1 0 v11) (fun v12 => 
    bdp v10 400 (sw (iA u 72 v10 v12) (fun u => 
    rd (u.1 74) (fun v13 => 
    bdp x2 452000 (rd (u.2.1 0 x2) (fun v14 => 
    pw_nth v14 1 (fun v15 u => 
    pw_termOf v15 (fun v16 u => 
    bdp v13 400 (sw (iA u 73 v13 v16) (fun u => 
    rd (u.1 74) (fun v17 => 
    ovp (v17 + 1) (
    sw (iI u 74 (v17 + 1)) (fun u => 
    bdp x2 452000 (rd (u.2.1 1 x2) (fun v19 => 
    R29 x1 v19 u)))))))) u) u)))))))))))
theorem cj_w_useRows_29b {Q1 Q2 Q3 : iST → Prop} {R21 R22 R23 : Int → iST → Prop} {R291 R292 R293 : Int → Int → iST → Prop} {x1 : Int} {x2 : Int} {u : iST} (hR2 : ∀ r0 r1, R21 r0 r1 → R22 r0 r1 → R23 r0 r1) (hR29 : ∀ r0 r1 r2, R291 r0 r1 r2 → R292 r0 r1 r2 → R293 r0 r1 r2) (hQ : ∀ r0, Q1 r0 → Q2 r0 → Q3 r0) : w_useRows_29b R21 R291 Q1 x1 x2 u → pw_useRows_29b R22 R292 Q2 x1 x2 u → w_useRows_29b R23 R293 Q3 x1 x2 u := (br_cj (bd_cj (rd_cj fun _ => (bd_cj (rd_cj fun _ => (cj_w_instance (fun _ _ => (cj_w_notOf (fun _ _ => (cj_w_put (fun _ => (ov_cj (hR2 _ _)))))))))))) (rd_cj fun _ => (bd_cj (rd_cj fun _ => (bd_cj (rd_cj fun _ => (bd_cj (sw_cj fun _ => (rd_cj fun _ => (bd_cj (rd_cj fun _ => (cj_w_nth (fun _ _ => (cj_w_termOf (fun _ _ => (bd_cj (sw_cj fun _ => (rd_cj fun _ => (ov_cj (sw_cj fun _ => (bd_cj (rd_cj fun _ => (hR29 _ _ _)))))))))))))))))))))))
theorem mn_w_useRows_29b {Q1 Q2 : iST → Prop} {R21 R22 : Int → iST → Prop} {R291 R292 : Int → Int → iST → Prop} {x1 : Int} {x2 : Int} {u : iST} (hR2 : ∀ r0 r1, R21 r0 r1 → R22 r0 r1) (hR29 : ∀ r0 r1 r2, R291 r0 r1 r2 → R292 r0 r1 r2) (hQ : ∀ r0, Q1 r0 → Q2 r0) : pw_useRows_29b R21 R291 Q1 x1 x2 u → pw_useRows_29b R22 R292 Q2 x1 x2 u := (br_mn (bd_mn (rd_mn fun _ => (bd_mn (rd_mn fun _ => (mn_w_instance (fun _ _ => (mn_w_notOf (fun _ _ => (mn_w_put (fun _ => (ov_mn (hR2 _ _)))))))))))) (rd_mn fun _ => (bd_mn (rd_mn fun _ => (bd_mn (rd_mn fun _ => (bd_mn (sw_mn fun _ => (rd_mn fun _ => (bd_mn (rd_mn fun _ => (mn_w_nth (fun _ _ => (mn_w_termOf (fun _ _ => (bd_mn (sw_mn fun _ => (rd_mn fun _ => (ov_mn (sw_mn fun _ => (bd_mn (rd_mn fun _ => (hR29 _ _ _)))))))))))))))))))))))
theorem wp_w_useRows_29b {Q1 Q2 : iST → Prop} {R21 R22 : Int → iST → Prop} {R291 R292 : Int → Int → iST → Prop} {x1 : Int} {x2 : Int} {u : iST} (hR2 : ∀ r0 r1, R21 r0 r1 → R22 r0 r1) (hR29 : ∀ r0 r1 r2, R291 r0 r1 r2 → R292 r0 r1 r2) (hQ : ∀ r0, Q1 r0 → Q2 r0) : w_useRows_29b R21 R291 Q1 x1 x2 u → pw_useRows_29b R22 R292 Q2 x1 x2 u := (br_wp (bd_wp (rd_wp fun _ => (bd_wp (rd_wp fun _ => (wp_w_instance (fun _ _ => (wp_w_notOf (fun _ _ => (wp_w_put (fun _ => (ov_wp (hR2 _ _)))))))))))) (rd_wp fun _ => (bd_wp (rd_wp fun _ => (bd_wp (rd_wp fun _ => (bd_wp (sw_wp fun _ => (rd_wp fun _ => (bd_wp (rd_wp fun _ => (wp_w_nth (fun _ _ => (wp_w_termOf (fun _ _ => (bd_wp (sw_wp fun _ => (rd_wp fun _ => (ov_wp (sw_wp fun _ => (bd_wp (rd_wp fun _ => (hR29 _ _ _)))))))))))))))))))))))
def pw_useRows_29 (R2 : Int → iST → Prop) (Q : iST → Prop) (x1 : Int) (x2 : Int) (u : iST) : Prop := ∃ R29 : Int → Int → iST → Prop, (∀ (x1 : Int) (x2 : Int) (u : iST), R29 x1 x2 u → pw_useRows_29b R2 R29 Q x1 x2 u) ∧ R29 x1 x2 u
theorem cj_w_useRows_29 {Q1 Q2 Q3 : iST → Prop} {R21 R22 R23 : Int → iST → Prop} {x1 : Int} {x2 : Int} {u : iST} (hR2 : ∀ r0 r1, R21 r0 r1 → R22 r0 r1 → R23 r0 r1) (hQ : ∀ r0, Q1 r0 → Q2 r0 → Q3 r0) : w_useRows_29 R21 Q1 x1 x2 u → pw_useRows_29 R22 Q2 x1 x2 u → w_useRows_29 R23 Q3 x1 x2 u := by
  intro a b R3 c3
  obtain ⟨R2, c2, b2⟩ := b
  exact a (fun r0 r1 r2 => R2 r0 r1 r2 → R3 r0 r1 r2) (fun r0 r1 r2 a b => c3 r0 r1 r2 (cj_w_useRows_29b hR2 (fun r0 r1 r2 a b => a b) hQ a (c2 r0 r1 r2 b))) b2
theorem pw_useRows_29_i {R2 : Int → iST → Prop} {Q : iST → Prop} {x1 : Int} {x2 : Int} {u : iST} (I : Int → Int → iST → Prop) (s : ∀ (x1 : Int) (x2 : Int) (u : iST), I x1 x2 u → pw_useRows_29b R2 I Q x1 x2 u) (h : I x1 x2 u) : pw_useRows_29 R2 Q x1 x2 u := ⟨I, s, h⟩
theorem mn_w_useRows_29 {Q1 Q2 : iST → Prop} {R21 R22 : Int → iST → Prop} {x1 : Int} {x2 : Int} {u : iST} (hR2 : ∀ r0 r1, R21 r0 r1 → R22 r0 r1) (hQ : ∀ r0, Q1 r0 → Q2 r0) : pw_useRows_29 R21 Q1 x1 x2 u → pw_useRows_29 R22 Q2 x1 x2 u := fun ⟨R, s, h⟩ => ⟨R, fun r0 r1 r2 a => mn_w_useRows_29b hR2 (fun r0 r1 r2 a => a) hQ (s r0 r1 r2 a), h⟩
theorem un_w_useRows_29 {R2 : Int → iST → Prop} {Q : iST → Prop} {x1 : Int} {x2 : Int} {u : iST} : pw_useRows_29 R2 Q x1 x2 u → pw_useRows_29b R2 (fun x1 x2 u => pw_useRows_29 R2 Q x1 x2 u) Q x1 x2 u := fun ⟨R, s, h⟩ => mn_w_useRows_29b (fun _ _ h => h) (fun r0 r1 r2 a => ⟨R, s, a⟩) (fun _ h => h) (s _ _ _ h)
theorem fo_w_useRows_29 {R2 : Int → iST → Prop} {Q : iST → Prop} {x1 : Int} {x2 : Int} {u : iST} : pw_useRows_29b R2 (fun x1 x2 u => pw_useRows_29 R2 Q x1 x2 u) Q x1 x2 u → pw_useRows_29 R2 Q x1 x2 u := fun h => ⟨fun x1 x2 u => pw_useRows_29b R2 (fun x1 x2 u => pw_useRows_29 R2 Q x1 x2 u) Q x1 x2 u, fun r0 r1 r2 a => mn_w_useRows_29b (fun _ _ h => h) (fun r0 r1 r2 a => un_w_useRows_29 a) (fun _ h => h) a, h⟩
theorem wp_w_useRows_29 {Q1 Q2 : iST → Prop} {R21 R22 : Int → iST → Prop} {x1 : Int} {x2 : Int} {u : iST} (hR2 : ∀ r0 r1, R21 r0 r1 → R22 r0 r1) (hQ : ∀ r0, Q1 r0 → Q2 r0) : w_useRows_29 R21 Q1 x1 x2 u → pw_useRows_29 R22 Q2 x1 x2 u := fun a => a (fun x1 x2 u => pw_useRows_29 R22 Q2 x1 x2 u) (fun x1 x2 u b => fo_w_useRows_29 (wp_w_useRows_29b hR2 (fun r0 r1 r2 a => a) hQ b))
def pw_useRows_2b (R2 : Int → iST → Prop) (Q : iST → Prop) (x1 : Int) (u : iST) : Prop :=
  rd (u.1 139) (fun v1 => 
  br (v1 ≤ x1) (
    Q u) (
    rd (u.1 61) (fun v2 => 
    br (v2 ≠ 0) (
      Q u) (
      sw (iI u 74 0) (fun u => 
      bdp x1 400 (rd (u.2.1 138 x1) (fun v3 => 
      pw_useRows_29 R2 Q x1 v3 u)))))))
theorem cj_w_useRows_2b {Q1 Q2 Q3 : iST → Prop} {R21 R22 R23 : Int → iST → Prop} {x1 : Int} {u : iST} (hR2 : ∀ r0 r1, R21 r0 r1 → R22 r0 r1 → R23 r0 r1) (hQ : ∀ r0, Q1 r0 → Q2 r0 → Q3 r0) : w_useRows_2b R21 Q1 x1 u → pw_useRows_2b R22 Q2 x1 u → w_useRows_2b R23 Q3 x1 u := (rd_cj fun _ => (br_cj (hQ _) (rd_cj fun _ => (br_cj (hQ _) (sw_cj fun _ => (bd_cj (rd_cj fun _ => (cj_w_useRows_29 hR2 hQ))))))))
theorem mn_w_useRows_2b {Q1 Q2 : iST → Prop} {R21 R22 : Int → iST → Prop} {x1 : Int} {u : iST} (hR2 : ∀ r0 r1, R21 r0 r1 → R22 r0 r1) (hQ : ∀ r0, Q1 r0 → Q2 r0) : pw_useRows_2b R21 Q1 x1 u → pw_useRows_2b R22 Q2 x1 u := (rd_mn fun _ => (br_mn (hQ _) (rd_mn fun _ => (br_mn (hQ _) (sw_mn fun _ => (bd_mn (rd_mn fun _ => (mn_w_useRows_29 hR2 hQ))))))))
theorem wp_w_useRows_2b {Q1 Q2 : iST → Prop} {R21 R22 : Int → iST → Prop} {x1 : Int} {u : iST} (hR2 : ∀ r0 r1, R21 r0 r1 → R22 r0 r1) (hQ : ∀ r0, Q1 r0 → Q2 r0) : w_useRows_2b R21 Q1 x1 u → pw_useRows_2b R22 Q2 x1 u := (rd_wp fun _ => (br_wp (hQ _) (rd_wp fun _ => (br_wp (hQ _) (sw_wp fun _ => (bd_wp (rd_wp fun _ => (wp_w_useRows_29 hR2 hQ))))))))
def pw_useRows_2 (Q : iST → Prop) (x1 : Int) (u : iST) : Prop := ∃ R2 : Int → iST → Prop, (∀ (x1 : Int) (u : iST), R2 x1 u → pw_useRows_2b R2 Q x1 u) ∧ R2 x1 u
theorem cj_w_useRows_2 {Q1 Q2 Q3 : iST → Prop}  {x1 : Int} {u : iST} (hQ : ∀ r0, Q1 r0 → Q2 r0 → Q3 r0) : w_useRows_2 Q1 x1 u → pw_useRows_2 Q2 x1 u → w_useRows_2 Q3 x1 u := by
  intro a b R3 c3
  obtain ⟨R2, c2, b2⟩ := b
  exact a (fun r0 r1 => R2 r0 r1 → R3 r0 r1) (fun r0 r1 a b => c3 r0 r1 (cj_w_useRows_2b (fun r0 r1 a b => a b) hQ a (c2 r0 r1 b))) b2
theorem pw_useRows_2_i  {Q : iST → Prop} {x1 : Int} {u : iST} (I : Int → iST → Prop) (s : ∀ (x1 : Int) (u : iST), I x1 u → pw_useRows_2b I Q x1 u) (h : I x1 u) : pw_useRows_2 Q x1 u := ⟨I, s, h⟩
theorem mn_w_useRows_2 {Q1 Q2 : iST → Prop}  {x1 : Int} {u : iST} (hQ : ∀ r0, Q1 r0 → Q2 r0) : pw_useRows_2 Q1 x1 u → pw_useRows_2 Q2 x1 u := fun ⟨R, s, h⟩ => ⟨R, fun r0 r1 a => mn_w_useRows_2b (fun r0 r1 a => a) hQ (s r0 r1 a), h⟩
theorem un_w_useRows_2  {Q : iST → Prop} {x1 : Int} {u : iST} : pw_useRows_2 Q x1 u → pw_useRows_2b (fun x1 u => pw_useRows_2 Q x1 u) Q x1 u := fun ⟨R, s, h⟩ => mn_w_useRows_2b (fun r0 r1 a => ⟨R, s, a⟩) (fun _ h => h) (s _ _ h)
theorem fo_w_useRows_2  {Q : iST → Prop} {x1 : Int} {u : iST} : pw_useRows_2b (fun x1 u => pw_useRows_2 Q x1 u) Q x1 u → pw_useRows_2 Q x1 u := fun h => ⟨fun x1 u => pw_useRows_2b (fun x1 u => pw_useRows_2 Q x1 u) Q x1 u, fun r0 r1 a => mn_w_useRows_2b (fun r0 r1 a => un_w_useRows_2 a) (fun _ h => h) a, h⟩
theorem wp_w_useRows_2 {Q1 Q2 : iST → Prop}  {x1 : Int} {u : iST} (hQ : ∀ r0, Q1 r0 → Q2 r0) : w_useRows_2 Q1 x1 u → pw_useRows_2 Q2 x1 u := fun a => a (fun x1 u => pw_useRows_2 Q2 x1 u) (fun x1 u b => fo_w_useRows_2 (wp_w_useRows_2b (fun r0 r1 a => a) hQ b))
def pw_useRows (Q : iST → Prop) (u : iST) : Prop :=
  pw_useRows_2 Q 0 u
theorem cj_w_useRows {Q1 Q2 Q3 : iST → Prop}  {u : iST} (hQ : ∀ r0, Q1 r0 → Q2 r0 → Q3 r0) : w_useRows Q1 u → pw_useRows Q2 u → w_useRows Q3 u := (cj_w_useRows_2  hQ)
theorem mn_w_useRows {Q1 Q2 : iST → Prop}  {u : iST} (hQ : ∀ r0, Q1 r0 → Q2 r0) : pw_useRows Q1 u → pw_useRows Q2 u := (mn_w_useRows_2  hQ)
theorem wp_w_useRows {Q1 Q2 : iST → Prop}  {u : iST} (hQ : ∀ r0, Q1 r0 → Q2 r0) : w_useRows Q1 u → pw_useRows Q2 u := (wp_w_useRows_2  hQ)
def pw_proveBy_104 (Q : Int → iST → Prop) (u : iST) : Prop :=
  rd (u.1 61) (fun v7 => 
  br (v7 ≠ 0) (
    ztp 0 (Q 0 u)) (
    pw_prove (fun v8 u => 
    br (v8 = 0) (
      ztp 0 (Q 0 u)) (
      ztp 1 (Q 1 u))) u))
theorem cj_w_proveBy_104 {Q1 Q2 Q3 : Int → iST → Prop}  {u : iST} (hQ : ∀ r0 r1, Q1 r0 r1 → Q2 r0 r1 → Q3 r0 r1) : w_proveBy_104 Q1 u → pw_proveBy_104 Q2 u → w_proveBy_104 Q3 u := (rd_cj fun _ => (br_cj (zt_cj (hQ _ _)) (cj_w_prove (fun _ _ => (br_cj (zt_cj (hQ _ _)) (zt_cj (hQ _ _)))))))
theorem mn_w_proveBy_104 {Q1 Q2 : Int → iST → Prop}  {u : iST} (hQ : ∀ r0 r1, Q1 r0 r1 → Q2 r0 r1) : pw_proveBy_104 Q1 u → pw_proveBy_104 Q2 u := (rd_mn fun _ => (br_mn (zt_mn (hQ _ _)) (mn_w_prove (fun _ _ => (br_mn (zt_mn (hQ _ _)) (zt_mn (hQ _ _)))))))
theorem wp_w_proveBy_104 {Q1 Q2 : Int → iST → Prop}  {u : iST} (hQ : ∀ r0 r1, Q1 r0 r1 → Q2 r0 r1) : w_proveBy_104 Q1 u → pw_proveBy_104 Q2 u := (rd_wp fun _ => (br_wp (zt_wp (hQ _ _)) (wp_w_prove (fun _ _ => (br_wp (zt_wp (hQ _ _)) (zt_wp (hQ _ _)))))))
def pw_proveBy_56b (R56 : Int → Int → Int → iST → Prop) (Q : Int → iST → Prop) (x1 : Int) (x2 : Int) (x3 : Int) (u : iST) : Prop :=
  rd (u.1 126) (fun v6 => 
  br (v6 ≤ x3) (
    pw_proveBy_104 Q u) (
    rd (u.1 61) (fun v9 => 
    br (v9 ≠ 0) (
      pw_proveBy_104 Q u) (
      sw (iI u 122 0) (fun u => 
      pw_useRows (fun u => 
      rd (u.1 134) (fun v11 => 
      pw_inductionRow x2 v11 x3 x1 (fun u => 
      pw_row 0 (fun v13 u => 
      ovp (x3 + 1) (
      R56 x1 x2 (x3 + 1) u)) u) u)) u)))))
theorem cj_w_proveBy_56b {Q1 Q2 Q3 : Int → iST → Prop} {R561 R562 R563 : Int → Int → Int → iST → Prop} {x1 : Int} {x2 : Int} {x3 : Int} {u : iST} (hR56 : ∀ r0 r1 r2 r3, R561 r0 r1 r2 r3 → R562 r0 r1 r2 r3 → R563 r0 r1 r2 r3) (hQ : ∀ r0 r1, Q1 r0 r1 → Q2 r0 r1 → Q3 r0 r1) : w_proveBy_56b R561 Q1 x1 x2 x3 u → pw_proveBy_56b R562 Q2 x1 x2 x3 u → w_proveBy_56b R563 Q3 x1 x2 x3 u := (rd_cj fun _ => (br_cj (cj_w_proveBy_104  hQ) (rd_cj fun _ => (br_cj (cj_w_proveBy_104  hQ) (sw_cj fun _ => (cj_w_useRows (fun _ => (rd_cj fun _ => (cj_w_inductionRow (fun _ => (cj_w_row (fun _ _ => (ov_cj (hR56 _ _ _ _))))))))))))))
theorem mn_w_proveBy_56b {Q1 Q2 : Int → iST → Prop} {R561 R562 : Int → Int → Int → iST → Prop} {x1 : Int} {x2 : Int} {x3 : Int} {u : iST} (hR56 : ∀ r0 r1 r2 r3, R561 r0 r1 r2 r3 → R562 r0 r1 r2 r3) (hQ : ∀ r0 r1, Q1 r0 r1 → Q2 r0 r1) : pw_proveBy_56b R561 Q1 x1 x2 x3 u → pw_proveBy_56b R562 Q2 x1 x2 x3 u := (rd_mn fun _ => (br_mn (mn_w_proveBy_104  hQ) (rd_mn fun _ => (br_mn (mn_w_proveBy_104  hQ) (sw_mn fun _ => (mn_w_useRows (fun _ => (rd_mn fun _ => (mn_w_inductionRow (fun _ => (mn_w_row (fun _ _ => (ov_mn (hR56 _ _ _ _))))))))))))))
theorem wp_w_proveBy_56b {Q1 Q2 : Int → iST → Prop} {R561 R562 : Int → Int → Int → iST → Prop} {x1 : Int} {x2 : Int} {x3 : Int} {u : iST} (hR56 : ∀ r0 r1 r2 r3, R561 r0 r1 r2 r3 → R562 r0 r1 r2 r3) (hQ : ∀ r0 r1, Q1 r0 r1 → Q2 r0 r1) : w_proveBy_56b R561 Q1 x1 x2 x3 u → pw_proveBy_56b R562 Q2 x1 x2 x3 u := (rd_wp fun _ => (br_wp (wp_w_proveBy_104  hQ) (rd_wp fun _ => (br_wp (wp_w_proveBy_104  hQ) (sw_wp fun _ => (wp_w_useRows (fun _ => (rd_wp fun _ => (wp_w_inductionRow (fun _ => (wp_w_row (fun _ _ => (ov_wp (hR56 _ _ _ _))))))))))))))
def pw_proveBy_56 (Q : Int → iST → Prop) (x1 : Int) (x2 : Int) (x3 : Int) (u : iST) : Prop := ∃ R56 : Int → Int → Int → iST → Prop, (∀ (x1 : Int) (x2 : Int) (x3 : Int) (u : iST), R56 x1 x2 x3 u → pw_proveBy_56b R56 Q x1 x2 x3 u) ∧ R56 x1 x2 x3 u
theorem cj_w_proveBy_56 {Q1 Q2 Q3 : Int → iST → Prop}  {x1 : Int} {x2 : Int} {x3 : Int} {u : iST} (hQ : ∀ r0 r1, Q1 r0 r1 → Q2 r0 r1 → Q3 r0 r1) : w_proveBy_56 Q1 x1 x2 x3 u → pw_proveBy_56 Q2 x1 x2 x3 u → w_proveBy_56 Q3 x1 x2 x3 u := by
  intro a b R3 c3
  obtain ⟨R2, c2, b2⟩ := b
  exact a (fun r0 r1 r2 r3 => R2 r0 r1 r2 r3 → R3 r0 r1 r2 r3) (fun r0 r1 r2 r3 a b => c3 r0 r1 r2 r3 (cj_w_proveBy_56b (fun r0 r1 r2 r3 a b => a b) hQ a (c2 r0 r1 r2 r3 b))) b2
theorem pw_proveBy_56_i  {Q : Int → iST → Prop} {x1 : Int} {x2 : Int} {x3 : Int} {u : iST} (I : Int → Int → Int → iST → Prop) (s : ∀ (x1 : Int) (x2 : Int) (x3 : Int) (u : iST), I x1 x2 x3 u → pw_proveBy_56b I Q x1 x2 x3 u) (h : I x1 x2 x3 u) : pw_proveBy_56 Q x1 x2 x3 u := ⟨I, s, h⟩
theorem mn_w_proveBy_56 {Q1 Q2 : Int → iST → Prop}  {x1 : Int} {x2 : Int} {x3 : Int} {u : iST} (hQ : ∀ r0 r1, Q1 r0 r1 → Q2 r0 r1) : pw_proveBy_56 Q1 x1 x2 x3 u → pw_proveBy_56 Q2 x1 x2 x3 u := fun ⟨R, s, h⟩ => ⟨R, fun r0 r1 r2 r3 a => mn_w_proveBy_56b (fun r0 r1 r2 r3 a => a) hQ (s r0 r1 r2 r3 a), h⟩
theorem un_w_proveBy_56  {Q : Int → iST → Prop} {x1 : Int} {x2 : Int} {x3 : Int} {u : iST} : pw_proveBy_56 Q x1 x2 x3 u → pw_proveBy_56b (fun x1 x2 x3 u => pw_proveBy_56 Q x1 x2 x3 u) Q x1 x2 x3 u := fun ⟨R, s, h⟩ => mn_w_proveBy_56b (fun r0 r1 r2 r3 a => ⟨R, s, a⟩) (fun _ _ h => h) (s _ _ _ _ h)
theorem fo_w_proveBy_56  {Q : Int → iST → Prop} {x1 : Int} {x2 : Int} {x3 : Int} {u : iST} : pw_proveBy_56b (fun x1 x2 x3 u => pw_proveBy_56 Q x1 x2 x3 u) Q x1 x2 x3 u → pw_proveBy_56 Q x1 x2 x3 u := fun h => ⟨fun x1 x2 x3 u => pw_proveBy_56b (fun x1 x2 x3 u => pw_proveBy_56 Q x1 x2 x3 u) Q x1 x2 x3 u, fun r0 r1 r2 r3 a => mn_w_proveBy_56b (fun r0 r1 r2 r3 a => un_w_proveBy_56 a) (fun _ _ h => h) a, h⟩
theorem wp_w_proveBy_56 {Q1 Q2 : Int → iST → Prop}  {x1 : Int} {x2 : Int} {x3 : Int} {u : iST} (hQ : ∀ r0 r1, Q1 r0 r1 → Q2 r0 r1) : w_proveBy_56 Q1 x1 x2 x3 u → pw_proveBy_56 Q2 x1 x2 x3 u := fun a => a (fun x1 x2 x3 u => pw_proveBy_56 Q2 x1 x2 x3 u) (fun x1 x2 x3 u b => fo_w_proveBy_56 (wp_w_proveBy_56b (fun r0 r1 r2 r3 a => a) hQ b))
def pw_proveBy (a0 : Int) (Q : Int → iST → Prop) (u : iST) : Prop :=
  sw (iI u 117 0) (fun u => 
  rd (u.1 133) (fun v1 => 
  br (v1 ≠ (-1)) (
    rd (u.1 133) (fun v2 => 
    ovp (v2 - 100) (
    bdp (v2 - 100) 40 (rd (u.2.1 39 (v2 - 100)) (fun v4 => 
    pw_pathsOf v4 (fun u => 
    pw_proveBy_56 Q a0 (v2 - 100) 0 u) u))))) (
    sw (iI u 122 0) (fun u => 
    pw_useRows (fun u => 
    pw_put a0 (fun u => 
    pw_row 0 (fun v17 u => 
    pw_proveBy_104 Q u) u) u) u))))
theorem cj_w_proveBy {Q1 Q2 Q3 : Int → iST → Prop}  {a0 : Int} {u : iST} (hQ : ∀ r0 r1, Q1 r0 r1 → Q2 r0 r1 → Q3 r0 r1) : w_proveBy a0 Q1 u → pw_proveBy a0 Q2 u → w_proveBy a0 Q3 u := (sw_cj fun _ => (rd_cj fun _ => (br_cj (rd_cj fun _ => (ov_cj (bd_cj (rd_cj fun _ => (cj_w_pathsOf (fun _ => (cj_w_proveBy_56  hQ))))))) (sw_cj fun _ => (cj_w_useRows (fun _ => (cj_w_put (fun _ => (cj_w_row (fun _ _ => (cj_w_proveBy_104  hQ)))))))))))
theorem mn_w_proveBy {Q1 Q2 : Int → iST → Prop}  {a0 : Int} {u : iST} (hQ : ∀ r0 r1, Q1 r0 r1 → Q2 r0 r1) : pw_proveBy a0 Q1 u → pw_proveBy a0 Q2 u := (sw_mn fun _ => (rd_mn fun _ => (br_mn (rd_mn fun _ => (ov_mn (bd_mn (rd_mn fun _ => (mn_w_pathsOf (fun _ => (mn_w_proveBy_56  hQ))))))) (sw_mn fun _ => (mn_w_useRows (fun _ => (mn_w_put (fun _ => (mn_w_row (fun _ _ => (mn_w_proveBy_104  hQ)))))))))))
theorem wp_w_proveBy {Q1 Q2 : Int → iST → Prop}  {a0 : Int} {u : iST} (hQ : ∀ r0 r1, Q1 r0 r1 → Q2 r0 r1) : w_proveBy a0 Q1 u → pw_proveBy a0 Q2 u := (sw_wp fun _ => (rd_wp fun _ => (br_wp (rd_wp fun _ => (ov_wp (bd_wp (rd_wp fun _ => (wp_w_pathsOf (fun _ => (wp_w_proveBy_56  hQ))))))) (sw_wp fun _ => (wp_w_useRows (fun _ => (wp_w_put (fun _ => (wp_w_row (fun _ _ => (wp_w_proveBy_104  hQ)))))))))))
def pw_allRulesIn_2b (R2 : Int → iST → Prop) (Q : iST → Prop) (x1 : Int) (u : iST) : Prop :=
  br (60 ≤ x1) (
    Q u) (
    ztp 0 (bdp x1 60 (sw (iA u 53 x1 0) (fun u => 
    ovp (x1 + 1) (
    R2 (x1 + 1) u)))))
theorem cj_w_allRulesIn_2b {Q1 Q2 Q3 : iST → Prop} {R21 R22 R23 : Int → iST → Prop} {x1 : Int} {u : iST} (hR2 : ∀ r0 r1, R21 r0 r1 → R22 r0 r1 → R23 r0 r1) (hQ : ∀ r0, Q1 r0 → Q2 r0 → Q3 r0) : w_allRulesIn_2b R21 Q1 x1 u → pw_allRulesIn_2b R22 Q2 x1 u → w_allRulesIn_2b R23 Q3 x1 u := (br_cj (hQ _) (zt_cj (bd_cj (sw_cj fun _ => (ov_cj (hR2 _ _))))))
theorem mn_w_allRulesIn_2b {Q1 Q2 : iST → Prop} {R21 R22 : Int → iST → Prop} {x1 : Int} {u : iST} (hR2 : ∀ r0 r1, R21 r0 r1 → R22 r0 r1) (hQ : ∀ r0, Q1 r0 → Q2 r0) : pw_allRulesIn_2b R21 Q1 x1 u → pw_allRulesIn_2b R22 Q2 x1 u := (br_mn (hQ _) (zt_mn (bd_mn (sw_mn fun _ => (ov_mn (hR2 _ _))))))
theorem wp_w_allRulesIn_2b {Q1 Q2 : iST → Prop} {R21 R22 : Int → iST → Prop} {x1 : Int} {u : iST} (hR2 : ∀ r0 r1, R21 r0 r1 → R22 r0 r1) (hQ : ∀ r0, Q1 r0 → Q2 r0) : w_allRulesIn_2b R21 Q1 x1 u → pw_allRulesIn_2b R22 Q2 x1 u := (br_wp (hQ _) (zt_wp (bd_wp (sw_wp fun _ => (ov_wp (hR2 _ _))))))
def pw_allRulesIn_2 (Q : iST → Prop) (x1 : Int) (u : iST) : Prop := ∃ R2 : Int → iST → Prop, (∀ (x1 : Int) (u : iST), R2 x1 u → pw_allRulesIn_2b R2 Q x1 u) ∧ R2 x1 u
theorem cj_w_allRulesIn_2 {Q1 Q2 Q3 : iST → Prop}  {x1 : Int} {u : iST} (hQ : ∀ r0, Q1 r0 → Q2 r0 → Q3 r0) : w_allRulesIn_2 Q1 x1 u → pw_allRulesIn_2 Q2 x1 u → w_allRulesIn_2 Q3 x1 u := by
  intro a b R3 c3
  obtain ⟨R2, c2, b2⟩ := b
  exact a (fun r0 r1 => R2 r0 r1 → R3 r0 r1) (fun r0 r1 a b => c3 r0 r1 (cj_w_allRulesIn_2b (fun r0 r1 a b => a b) hQ a (c2 r0 r1 b))) b2
theorem pw_allRulesIn_2_i  {Q : iST → Prop} {x1 : Int} {u : iST} (I : Int → iST → Prop) (s : ∀ (x1 : Int) (u : iST), I x1 u → pw_allRulesIn_2b I Q x1 u) (h : I x1 u) : pw_allRulesIn_2 Q x1 u := ⟨I, s, h⟩
theorem mn_w_allRulesIn_2 {Q1 Q2 : iST → Prop}  {x1 : Int} {u : iST} (hQ : ∀ r0, Q1 r0 → Q2 r0) : pw_allRulesIn_2 Q1 x1 u → pw_allRulesIn_2 Q2 x1 u := fun ⟨R, s, h⟩ => ⟨R, fun r0 r1 a => mn_w_allRulesIn_2b (fun r0 r1 a => a) hQ (s r0 r1 a), h⟩
theorem un_w_allRulesIn_2  {Q : iST → Prop} {x1 : Int} {u : iST} : pw_allRulesIn_2 Q x1 u → pw_allRulesIn_2b (fun x1 u => pw_allRulesIn_2 Q x1 u) Q x1 u := fun ⟨R, s, h⟩ => mn_w_allRulesIn_2b (fun r0 r1 a => ⟨R, s, a⟩) (fun _ h => h) (s _ _ h)
theorem fo_w_allRulesIn_2  {Q : iST → Prop} {x1 : Int} {u : iST} : pw_allRulesIn_2b (fun x1 u => pw_allRulesIn_2 Q x1 u) Q x1 u → pw_allRulesIn_2 Q x1 u := fun h => ⟨fun x1 u => pw_allRulesIn_2b (fun x1 u => pw_allRulesIn_2 Q x1 u) Q x1 u, fun r0 r1 a => mn_w_allRulesIn_2b (fun r0 r1 a => un_w_allRulesIn_2 a) (fun _ h => h) a, h⟩
theorem wp_w_allRulesIn_2 {Q1 Q2 : iST → Prop}  {x1 : Int} {u : iST} (hQ : ∀ r0, Q1 r0 → Q2 r0) : w_allRulesIn_2 Q1 x1 u → pw_allRulesIn_2 Q2 x1 u := fun a => a (fun x1 u => pw_allRulesIn_2 Q2 x1 u) (fun x1 u b => fo_w_allRulesIn_2 (wp_w_allRulesIn_2b (fun r0 r1 a => a) hQ b))
def pw_allRulesIn (Q : iST → Prop) (u : iST) : Prop :=
  pw_allRulesIn_2 Q 0 u
theorem cj_w_allRulesIn {Q1 Q2 Q3 : iST → Prop}  {u : iST} (hQ : ∀ r0, Q1 r0 → Q2 r0 → Q3 r0) : w_allRulesIn Q1 u → pw_allRulesIn Q2 u → w_allRulesIn Q3 u := (cj_w_allRulesIn_2  hQ)
theorem mn_w_allRulesIn {Q1 Q2 : iST → Prop}  {u : iST} (hQ : ∀ r0, Q1 r0 → Q2 r0) : pw_allRulesIn Q1 u → pw_allRulesIn Q2 u := (mn_w_allRulesIn_2  hQ)
theorem wp_w_allRulesIn {Q1 Q2 : iST → Prop}  {u : iST} (hQ : ∀ r0, Q1 r0 → Q2 r0) : w_allRulesIn Q1 u → pw_allRulesIn Q2 u := (wp_w_allRulesIn_2  hQ)
def pw_addTheorem (a0 : Int) (a1 : Int) (a2 : Int) (Q : iST → Prop) (u : iST) : Prop :=
  rd (u.1 42) (fun v1 => 
  bdp v1 60 (sw (iA u 43 v1 a0) (fun u => 
  rd (u.1 42) (fun v2 => 
  bdp v2 60 (sw (iA u 44 v2 a1) (fun u => 
  rd (u.1 42) (fun v3 => 
  bdp v3 60 (sw (iA u 45 v3 a2) (fun u => 
  rd (u.1 42) (fun v4 => 
  pw_ruleOf v4 a1 (fun u => 
  rd (u.1 42) (fun v6 => 
  ovp (v6 + 1) (
  sw (iI u 42 (v6 + 1)) (fun u => 
  pw_take a2 (fun u => 
  Q u) u)))) u))))))))))
theorem cj_w_addTheorem {Q1 Q2 Q3 : iST → Prop}  {a0 : Int} {a1 : Int} {a2 : Int} {u : iST} (hQ : ∀ r0, Q1 r0 → Q2 r0 → Q3 r0) : w_addTheorem a0 a1 a2 Q1 u → pw_addTheorem a0 a1 a2 Q2 u → w_addTheorem a0 a1 a2 Q3 u := (rd_cj fun _ => (bd_cj (sw_cj fun _ => (rd_cj fun _ => (bd_cj (sw_cj fun _ => (rd_cj fun _ => (bd_cj (sw_cj fun _ => (rd_cj fun _ => (cj_w_ruleOf (fun _ => (rd_cj fun _ => (ov_cj (sw_cj fun _ => (cj_w_take (fun _ => (hQ _))))))))))))))))))
theorem mn_w_addTheorem {Q1 Q2 : iST → Prop}  {a0 : Int} {a1 : Int} {a2 : Int} {u : iST} (hQ : ∀ r0, Q1 r0 → Q2 r0) : pw_addTheorem a0 a1 a2 Q1 u → pw_addTheorem a0 a1 a2 Q2 u := (rd_mn fun _ => (bd_mn (sw_mn fun _ => (rd_mn fun _ => (bd_mn (sw_mn fun _ => (rd_mn fun _ => (bd_mn (sw_mn fun _ => (rd_mn fun _ => (mn_w_ruleOf (fun _ => (rd_mn fun _ => (ov_mn (sw_mn fun _ => (mn_w_take (fun _ => (hQ _))))))))))))))))))
theorem wp_w_addTheorem {Q1 Q2 : iST → Prop}  {a0 : Int} {a1 : Int} {a2 : Int} {u : iST} (hQ : ∀ r0, Q1 r0 → Q2 r0) : w_addTheorem a0 a1 a2 Q1 u → pw_addTheorem a0 a1 a2 Q2 u := (rd_wp fun _ => (bd_wp (sw_wp fun _ => (rd_wp fun _ => (bd_wp (sw_wp fun _ => (rd_wp fun _ => (bd_wp (sw_wp fun _ => (rd_wp fun _ => (wp_w_ruleOf (fun _ => (rd_wp fun _ => (ov_wp (sw_wp fun _ => (wp_w_take (fun _ => (hQ _))))))))))))))))))
def pw_defthm_147 (Q : Int → iST → Prop) (x1 : Int) (x2 : Int) (x5 : Int) (u : iST) : Prop :=
  rd (u.1 8) (fun v5 => 
  pw_proveBy x5 (fun v6 u => 
  rd (u.1 61) (fun v7 => 
  br (v7 = 0) (
    br (v6 ≠ 0) (
      pw_forget v5 (fun u => 
      br (x2 = 0) (
        Q 0 u) (
        pw_nth x1 1 (fun v9 u => 
        pw_addTheorem v9 x5 2 (fun u => 
        Q 0 u) u) u)) u) (
      pw_tellLeft (fun u => 
      Q 6 u) u)) (
    Q 4 u))) u)
theorem cj_w_defthm_147 {Q1 Q2 Q3 : Int → iST → Prop}  {x1 : Int} {x2 : Int} {x5 : Int} {u : iST} (hQ : ∀ r0 r1, Q1 r0 r1 → Q2 r0 r1 → Q3 r0 r1) : w_defthm_147 Q1 x1 x2 x5 u → pw_defthm_147 Q2 x1 x2 x5 u → w_defthm_147 Q3 x1 x2 x5 u := (rd_cj fun _ => (cj_w_proveBy (fun _ _ => (rd_cj fun _ => (br_cj (br_cj (cj_w_forget (fun _ => (br_cj (hQ _ _) (cj_w_nth (fun _ _ => (cj_w_addTheorem (fun _ => (hQ _ _)))))))) (cj_w_tellLeft (fun _ => (hQ _ _)))) (hQ _ _))))))
theorem mn_w_defthm_147 {Q1 Q2 : Int → iST → Prop}  {x1 : Int} {x2 : Int} {x5 : Int} {u : iST} (hQ : ∀ r0 r1, Q1 r0 r1 → Q2 r0 r1) : pw_defthm_147 Q1 x1 x2 x5 u → pw_defthm_147 Q2 x1 x2 x5 u := (rd_mn fun _ => (mn_w_proveBy (fun _ _ => (rd_mn fun _ => (br_mn (br_mn (mn_w_forget (fun _ => (br_mn (hQ _ _) (mn_w_nth (fun _ _ => (mn_w_addTheorem (fun _ => (hQ _ _)))))))) (mn_w_tellLeft (fun _ => (hQ _ _)))) (hQ _ _))))))
theorem wp_w_defthm_147 {Q1 Q2 : Int → iST → Prop}  {x1 : Int} {x2 : Int} {x5 : Int} {u : iST} (hQ : ∀ r0 r1, Q1 r0 r1 → Q2 r0 r1) : w_defthm_147 Q1 x1 x2 x5 u → pw_defthm_147 Q2 x1 x2 x5 u := (rd_wp fun _ => (wp_w_proveBy (fun _ _ => (rd_wp fun _ => (br_wp (br_wp (wp_w_forget (fun _ => (br_wp (hQ _ _) (wp_w_nth (fun _ _ => (wp_w_addTheorem (fun _ => (hQ _ _)))))))) (wp_w_tellLeft (fun _ => (hQ _ _)))) (hQ _ _))))))
def pw_defthm_131 (Q : Int → iST → Prop) (x1 : Int) (x2 : Int) (x5 : Int) (u : iST) : Prop :=
  br (x2 = 0) (
    pw_defthm_147 Q x1 x2 x5 u) (
    rd (u.1 42) (fun v12 => 
    br (v12 ≠ 60) (
      pw_defthm_147 Q x1 x2 x5 u) (
      Q 8 u)))
theorem cj_w_defthm_131 {Q1 Q2 Q3 : Int → iST → Prop}  {x1 : Int} {x2 : Int} {x5 : Int} {u : iST} (hQ : ∀ r0 r1, Q1 r0 r1 → Q2 r0 r1 → Q3 r0 r1) : w_defthm_131 Q1 x1 x2 x5 u → pw_defthm_131 Q2 x1 x2 x5 u → w_defthm_131 Q3 x1 x2 x5 u := (br_cj (cj_w_defthm_147  hQ) (rd_cj fun _ => (br_cj (cj_w_defthm_147  hQ) (hQ _ _))))
theorem mn_w_defthm_131 {Q1 Q2 : Int → iST → Prop}  {x1 : Int} {x2 : Int} {x5 : Int} {u : iST} (hQ : ∀ r0 r1, Q1 r0 r1 → Q2 r0 r1) : pw_defthm_131 Q1 x1 x2 x5 u → pw_defthm_131 Q2 x1 x2 x5 u := (br_mn (mn_w_defthm_147  hQ) (rd_mn fun _ => (br_mn (mn_w_defthm_147  hQ) (hQ _ _))))
theorem wp_w_defthm_131 {Q1 Q2 : Int → iST → Prop}  {x1 : Int} {x2 : Int} {x5 : Int} {u : iST} (hQ : ∀ r0 r1, Q1 r0 r1 → Q2 r0 r1) : w_defthm_131 Q1 x1 x2 x5 u → pw_defthm_131 Q2 x1 x2 x5 u := (br_wp (wp_w_defthm_147  hQ) (rd_wp fun _ => (br_wp (wp_w_defthm_147  hQ) (hQ _ _))))
def pw_defthm_61b (R61 : Int → Int → Int → Int → Int → Int → iST → Prop) (Q : Int → iST → Prop) (x1 : Int) (x2 : Int) (x4 : Int) (x5 : Int) (x6 : Int) (x7 : Int) (u : iST) : Prop :=
  br (x4 < x7) (
    pw_hints x6 (fun v4 u => 
    br (x5 = (-1)) (
      Q 2 u) (
      br (v4 ≠ 2) (
        br (v4 = 3) (
          Q 3 u) (
          br (x2 = 0) (
            pw_defthm_131 Q x1 x2 x5 u) (
            pw_nth x1 1 (fun v13 u => 
            pw_theoremOf v13 (fun v14 u => 
            br (v14 = (-1)) (
              pw_defthm_131 Q x1 x2 x5 u) (
              Q 3 u)) u) u))) (
        Q 2 u))) u) (
    bdp x6 452000 (rd (u.2.1 1 x6) (fun v15 => 
    ovp (x7 + 1) (
    R61 x1 x2 x4 x5 v15 (x7 + 1) u))))
theorem cj_w_defthm_61b {Q1 Q2 Q3 : Int → iST → Prop} {R611 R612 R613 : Int → Int → Int → Int → Int → Int → iST → Prop} {x1 : Int} {x2 : Int} {x4 : Int} {x5 : Int} {x6 : Int} {x7 : Int} {u : iST} (hR61 : ∀ r0 r1 r2 r3 r4 r5 r6, R611 r0 r1 r2 r3 r4 r5 r6 → R612 r0 r1 r2 r3 r4 r5 r6 → R613 r0 r1 r2 r3 r4 r5 r6) (hQ : ∀ r0 r1, Q1 r0 r1 → Q2 r0 r1 → Q3 r0 r1) : w_defthm_61b R611 Q1 x1 x2 x4 x5 x6 x7 u → pw_defthm_61b R612 Q2 x1 x2 x4 x5 x6 x7 u → w_defthm_61b R613 Q3 x1 x2 x4 x5 x6 x7 u := (br_cj (cj_w_hints (fun _ _ => (br_cj (hQ _ _) (br_cj (br_cj (hQ _ _) (br_cj (cj_w_defthm_131  hQ) (cj_w_nth (fun _ _ => (cj_w_theoremOf (fun _ _ => (br_cj (cj_w_defthm_131  hQ) (hQ _ _)))))))) (hQ _ _))))) (bd_cj (rd_cj fun _ => (ov_cj (hR61 _ _ _ _ _ _ _)))))
theorem mn_w_defthm_61b {Q1 Q2 : Int → iST → Prop} {R611 R612 : Int → Int → Int → Int → Int → Int → iST → Prop} {x1 : Int} {x2 : Int} {x4 : Int} {x5 : Int} {x6 : Int} {x7 : Int} {u : iST} (hR61 : ∀ r0 r1 r2 r3 r4 r5 r6, R611 r0 r1 r2 r3 r4 r5 r6 → R612 r0 r1 r2 r3 r4 r5 r6) (hQ : ∀ r0 r1, Q1 r0 r1 → Q2 r0 r1) : pw_defthm_61b R611 Q1 x1 x2 x4 x5 x6 x7 u → pw_defthm_61b R612 Q2 x1 x2 x4 x5 x6 x7 u := (br_mn (mn_w_hints (fun _ _ => (br_mn (hQ _ _) (br_mn (br_mn (hQ _ _) (br_mn (mn_w_defthm_131  hQ) (mn_w_nth (fun _ _ => (mn_w_theoremOf (fun _ _ => (br_mn (mn_w_defthm_131  hQ) (hQ _ _)))))))) (hQ _ _))))) (bd_mn (rd_mn fun _ => (ov_mn (hR61 _ _ _ _ _ _ _)))))
theorem wp_w_defthm_61b {Q1 Q2 : Int → iST → Prop} {R611 R612 : Int → Int → Int → Int → Int → Int → iST → Prop} {x1 : Int} {x2 : Int} {x4 : Int} {x5 : Int} {x6 : Int} {x7 : Int} {u : iST} (hR61 : ∀ r0 r1 r2 r3 r4 r5 r6, R611 r0 r1 r2 r3 r4 r5 r6 → R612 r0 r1 r2 r3 r4 r5 r6) (hQ : ∀ r0 r1, Q1 r0 r1 → Q2 r0 r1) : w_defthm_61b R611 Q1 x1 x2 x4 x5 x6 x7 u → pw_defthm_61b R612 Q2 x1 x2 x4 x5 x6 x7 u := (br_wp (wp_w_hints (fun _ _ => (br_wp (hQ _ _) (br_wp (br_wp (hQ _ _) (br_wp (wp_w_defthm_131  hQ) (wp_w_nth (fun _ _ => (wp_w_theoremOf (fun _ _ => (br_wp (wp_w_defthm_131  hQ) (hQ _ _)))))))) (hQ _ _))))) (bd_wp (rd_wp fun _ => (ov_wp (hR61 _ _ _ _ _ _ _)))))
def pw_defthm_61 (Q : Int → iST → Prop) (x1 : Int) (x2 : Int) (x4 : Int) (x5 : Int) (x6 : Int) (x7 : Int) (u : iST) : Prop := ∃ R61 : Int → Int → Int → Int → Int → Int → iST → Prop, (∀ (x1 : Int) (x2 : Int) (x4 : Int) (x5 : Int) (x6 : Int) (x7 : Int) (u : iST), R61 x1 x2 x4 x5 x6 x7 u → pw_defthm_61b R61 Q x1 x2 x4 x5 x6 x7 u) ∧ R61 x1 x2 x4 x5 x6 x7 u
theorem cj_w_defthm_61 {Q1 Q2 Q3 : Int → iST → Prop}  {x1 : Int} {x2 : Int} {x4 : Int} {x5 : Int} {x6 : Int} {x7 : Int} {u : iST} (hQ : ∀ r0 r1, Q1 r0 r1 → Q2 r0 r1 → Q3 r0 r1) : w_defthm_61 Q1 x1 x2 x4 x5 x6 x7 u → pw_defthm_61 Q2 x1 x2 x4 x5 x6 x7 u → w_defthm_61 Q3 x1 x2 x4 x5 x6 x7 u := by
  intro a b R3 c3
  obtain ⟨R2, c2, b2⟩ := b
  exact a (fun r0 r1 r2 r3 r4 r5 r6 => R2 r0 r1 r2 r3 r4 r5 r6 → R3 r0 r1 r2 r3 r4 r5 r6) (fun r0 r1 r2 r3 r4 r5 r6 a b => c3 r0 r1 r2 r3 r4 r5 r6 (cj_w_defthm_61b (fun r0 r1 r2 r3 r4 r5 r6 a b => a b) hQ a (c2 r0 r1 r2 r3 r4 r5 r6 b))) b2
theorem pw_defthm_61_i  {Q : Int → iST → Prop} {x1 : Int} {x2 : Int} {x4 : Int} {x5 : Int} {x6 : Int} {x7 : Int} {u : iST} (I : Int → Int → Int → Int → Int → Int → iST → Prop) (s : ∀ (x1 : Int) (x2 : Int) (x4 : Int) (x5 : Int) (x6 : Int) (x7 : Int) (u : iST), I x1 x2 x4 x5 x6 x7 u → pw_defthm_61b I Q x1 x2 x4 x5 x6 x7 u) (h : I x1 x2 x4 x5 x6 x7 u) : pw_defthm_61 Q x1 x2 x4 x5 x6 x7 u := ⟨I, s, h⟩
theorem mn_w_defthm_61 {Q1 Q2 : Int → iST → Prop}  {x1 : Int} {x2 : Int} {x4 : Int} {x5 : Int} {x6 : Int} {x7 : Int} {u : iST} (hQ : ∀ r0 r1, Q1 r0 r1 → Q2 r0 r1) : pw_defthm_61 Q1 x1 x2 x4 x5 x6 x7 u → pw_defthm_61 Q2 x1 x2 x4 x5 x6 x7 u := fun ⟨R, s, h⟩ => ⟨R, fun r0 r1 r2 r3 r4 r5 r6 a => mn_w_defthm_61b (fun r0 r1 r2 r3 r4 r5 r6 a => a) hQ (s r0 r1 r2 r3 r4 r5 r6 a), h⟩
theorem un_w_defthm_61  {Q : Int → iST → Prop} {x1 : Int} {x2 : Int} {x4 : Int} {x5 : Int} {x6 : Int} {x7 : Int} {u : iST} : pw_defthm_61 Q x1 x2 x4 x5 x6 x7 u → pw_defthm_61b (fun x1 x2 x4 x5 x6 x7 u => pw_defthm_61 Q x1 x2 x4 x5 x6 x7 u) Q x1 x2 x4 x5 x6 x7 u := fun ⟨R, s, h⟩ => mn_w_defthm_61b (fun r0 r1 r2 r3 r4 r5 r6 a => ⟨R, s, a⟩) (fun _ _ h => h) (s _ _ _ _ _ _ _ h)
theorem fo_w_defthm_61  {Q : Int → iST → Prop} {x1 : Int} {x2 : Int} {x4 : Int} {x5 : Int} {x6 : Int} {x7 : Int} {u : iST} : pw_defthm_61b (fun x1 x2 x4 x5 x6 x7 u => pw_defthm_61 Q x1 x2 x4 x5 x6 x7 u) Q x1 x2 x4 x5 x6 x7 u → pw_defthm_61 Q x1 x2 x4 x5 x6 x7 u := fun h => ⟨fun x1 x2 x4 x5 x6 x7 u => pw_defthm_61b (fun x1 x2 x4 x5 x6 x7 u => pw_defthm_61 Q x1 x2 x4 x5 x6 x7 u) Q x1 x2 x4 x5 x6 x7 u, fun r0 r1 r2 r3 r4 r5 r6 a => mn_w_defthm_61b (fun r0 r1 r2 r3 r4 r5 r6 a => un_w_defthm_61 a) (fun _ _ h => h) a, h⟩
theorem wp_w_defthm_61 {Q1 Q2 : Int → iST → Prop}  {x1 : Int} {x2 : Int} {x4 : Int} {x5 : Int} {x6 : Int} {x7 : Int} {u : iST} (hQ : ∀ r0 r1, Q1 r0 r1 → Q2 r0 r1) : w_defthm_61 Q1 x1 x2 x4 x5 x6 x7 u → pw_defthm_61 Q2 x1 x2 x4 x5 x6 x7 u := fun a => a (fun x1 x2 x4 x5 x6 x7 u => pw_defthm_61 Q2 x1 x2 x4 x5 x6 x7 u) (fun x1 x2 x4 x5 x6 x7 u b => fo_w_defthm_61 (wp_w_defthm_61b (fun r0 r1 r2 r3 r4 r5 r6 a => a) hQ b))
def pw_defthm_42 (Q : Int → iST → Prop) (x1 : Int) (x2 : Int) (x4 : Int) (u : iST) : Prop :=
  pw_nth x1 x4 (fun v2 u => 
  pw_termOf v2 (fun v3 u => 
  pw_defthm_61 Q x1 x2 x4 v3 x1 0 u) u) u
theorem cj_w_defthm_42 {Q1 Q2 Q3 : Int → iST → Prop}  {x1 : Int} {x2 : Int} {x4 : Int} {u : iST} (hQ : ∀ r0 r1, Q1 r0 r1 → Q2 r0 r1 → Q3 r0 r1) : w_defthm_42 Q1 x1 x2 x4 u → pw_defthm_42 Q2 x1 x2 x4 u → w_defthm_42 Q3 x1 x2 x4 u := (cj_w_nth (fun _ _ => (cj_w_termOf (fun _ _ => (cj_w_defthm_61  hQ)))))
theorem mn_w_defthm_42 {Q1 Q2 : Int → iST → Prop}  {x1 : Int} {x2 : Int} {x4 : Int} {u : iST} (hQ : ∀ r0 r1, Q1 r0 r1 → Q2 r0 r1) : pw_defthm_42 Q1 x1 x2 x4 u → pw_defthm_42 Q2 x1 x2 x4 u := (mn_w_nth (fun _ _ => (mn_w_termOf (fun _ _ => (mn_w_defthm_61  hQ)))))
theorem wp_w_defthm_42 {Q1 Q2 : Int → iST → Prop}  {x1 : Int} {x2 : Int} {x4 : Int} {u : iST} (hQ : ∀ r0 r1, Q1 r0 r1 → Q2 r0 r1) : w_defthm_42 Q1 x1 x2 x4 u → pw_defthm_42 Q2 x1 x2 x4 u := (wp_w_nth (fun _ _ => (wp_w_termOf (fun _ _ => (wp_w_defthm_61  hQ)))))
def pw_defthm_15 (Q : Int → iST → Prop) (x1 : Int) (x2 : Int) (x3 : Int) (y0 : Int) (u : iST) : Prop :=
  br (x3 ≤ y0) (
    Q 2 u) (
    br (x2 = 0) (
      pw_defthm_42 Q x1 x2 y0 u) (
      pw_nth x1 1 (fun v17 u => 
      pw_isNewName v17 (fun v18 u => 
      br (v18 ≠ 0) (
        pw_defthm_42 Q x1 x2 y0 u) (
        Q 2 u)) u) u))
theorem cj_w_defthm_15 {Q1 Q2 Q3 : Int → iST → Prop}  {x1 : Int} {x2 : Int} {x3 : Int} {y0 : Int} {u : iST} (hQ : ∀ r0 r1, Q1 r0 r1 → Q2 r0 r1 → Q3 r0 r1) : w_defthm_15 Q1 x1 x2 x3 y0 u → pw_defthm_15 Q2 x1 x2 x3 y0 u → w_defthm_15 Q3 x1 x2 x3 y0 u := (br_cj (hQ _ _) (br_cj (cj_w_defthm_42  hQ) (cj_w_nth (fun _ _ => (cj_w_isNewName (fun _ _ => (br_cj (cj_w_defthm_42  hQ) (hQ _ _))))))))
theorem mn_w_defthm_15 {Q1 Q2 : Int → iST → Prop}  {x1 : Int} {x2 : Int} {x3 : Int} {y0 : Int} {u : iST} (hQ : ∀ r0 r1, Q1 r0 r1 → Q2 r0 r1) : pw_defthm_15 Q1 x1 x2 x3 y0 u → pw_defthm_15 Q2 x1 x2 x3 y0 u := (br_mn (hQ _ _) (br_mn (mn_w_defthm_42  hQ) (mn_w_nth (fun _ _ => (mn_w_isNewName (fun _ _ => (br_mn (mn_w_defthm_42  hQ) (hQ _ _))))))))
theorem wp_w_defthm_15 {Q1 Q2 : Int → iST → Prop}  {x1 : Int} {x2 : Int} {x3 : Int} {y0 : Int} {u : iST} (hQ : ∀ r0 r1, Q1 r0 r1 → Q2 r0 r1) : w_defthm_15 Q1 x1 x2 x3 y0 u → pw_defthm_15 Q2 x1 x2 x3 y0 u := (br_wp (hQ _ _) (br_wp (wp_w_defthm_42  hQ) (wp_w_nth (fun _ _ => (wp_w_isNewName (fun _ _ => (br_wp (wp_w_defthm_42  hQ) (hQ _ _))))))))
def pw_defthm (a0 : Int) (a1 : Int) (Q : Int → iST → Prop) (u : iST) : Prop :=
  pw_lengthOf a0 (fun v1 u => 
  br (a1 = 0) (
    pw_defthm_15 Q a0 a1 v1 1 u) (
    pw_defthm_15 Q a0 a1 v1 2 u)) u
theorem cj_w_defthm {Q1 Q2 Q3 : Int → iST → Prop}  {a0 : Int} {a1 : Int} {u : iST} (hQ : ∀ r0 r1, Q1 r0 r1 → Q2 r0 r1 → Q3 r0 r1) : w_defthm a0 a1 Q1 u → pw_defthm a0 a1 Q2 u → w_defthm a0 a1 Q3 u := (cj_w_lengthOf (fun _ _ => (br_cj (cj_w_defthm_15  hQ) (cj_w_defthm_15  hQ))))
theorem mn_w_defthm {Q1 Q2 : Int → iST → Prop}  {a0 : Int} {a1 : Int} {u : iST} (hQ : ∀ r0 r1, Q1 r0 r1 → Q2 r0 r1) : pw_defthm a0 a1 Q1 u → pw_defthm a0 a1 Q2 u := (mn_w_lengthOf (fun _ _ => (br_mn (mn_w_defthm_15  hQ) (mn_w_defthm_15  hQ))))
theorem wp_w_defthm {Q1 Q2 : Int → iST → Prop}  {a0 : Int} {a1 : Int} {u : iST} (hQ : ∀ r0 r1, Q1 r0 r1 → Q2 r0 r1) : w_defthm a0 a1 Q1 u → pw_defthm a0 a1 Q2 u := (wp_w_lengthOf (fun _ _ => (br_wp (wp_w_defthm_15  hQ) (wp_w_defthm_15  hQ))))
def pw_partsFrom (a0 : Int) (Q : Int → iST → Prop) (u : iST) : Prop :=
  br (a0 = 27) (
    Q 3 u) (
  br (a0 = 28) (
    Q 0 u) (
  br (a0 = 29) (
    Q 0 u) (
  br (a0 = 30) (
    Q 0 u) (
  br (a0 = 31) (
    Q 0 u) (
  br (a0 = 32) (
    Q 0 u) (
  br (a0 = 33) (
    Q 0 u) (
  br (a0 = 34) (
    Q 0 u) (
  br (a0 = 35) (
    Q 0 u) (
  br (a0 = 36) (
    Q 0 u) (
  br (a0 = 37) (
    Q 0 u) (
  br (a0 = 38) (
    Q 0 u) (
  br (a0 = 39) (
    Q 2 u) (
  br (a0 = 40) (
    Q 2 u) (
  br (a0 = 41) (
    Q 1 u) (
  br (a0 = 42) (
    Q 1 u) (
  br (a0 = 43) (
    Q 1 u) (
  Q 0 u)))))))))))))))))
theorem cj_w_partsFrom {Q1 Q2 Q3 : Int → iST → Prop}  {a0 : Int} {u : iST} (hQ : ∀ r0 r1, Q1 r0 r1 → Q2 r0 r1 → Q3 r0 r1) : w_partsFrom a0 Q1 u → pw_partsFrom a0 Q2 u → w_partsFrom a0 Q3 u := (br_cj (hQ _ _) (br_cj (hQ _ _) (br_cj (hQ _ _) (br_cj (hQ _ _) (br_cj (hQ _ _) (br_cj (hQ _ _) (br_cj (hQ _ _) (br_cj (hQ _ _) (br_cj (hQ _ _) (br_cj (hQ _ _) (br_cj (hQ _ _) (br_cj (hQ _ _) (br_cj (hQ _ _) (br_cj (hQ _ _) (br_cj (hQ _ _) (br_cj (hQ _ _) (br_cj (hQ _ _) (hQ _ _))))))))))))))))))
theorem mn_w_partsFrom {Q1 Q2 : Int → iST → Prop}  {a0 : Int} {u : iST} (hQ : ∀ r0 r1, Q1 r0 r1 → Q2 r0 r1) : pw_partsFrom a0 Q1 u → pw_partsFrom a0 Q2 u := (br_mn (hQ _ _) (br_mn (hQ _ _) (br_mn (hQ _ _) (br_mn (hQ _ _) (br_mn (hQ _ _) (br_mn (hQ _ _) (br_mn (hQ _ _) (br_mn (hQ _ _) (br_mn (hQ _ _) (br_mn (hQ _ _) (br_mn (hQ _ _) (br_mn (hQ _ _) (br_mn (hQ _ _) (br_mn (hQ _ _) (br_mn (hQ _ _) (br_mn (hQ _ _) (br_mn (hQ _ _) (hQ _ _))))))))))))))))))
theorem wp_w_partsFrom {Q1 Q2 : Int → iST → Prop}  {a0 : Int} {u : iST} (hQ : ∀ r0 r1, Q1 r0 r1 → Q2 r0 r1) : w_partsFrom a0 Q1 u → pw_partsFrom a0 Q2 u := (br_wp (hQ _ _) (br_wp (hQ _ _) (br_wp (hQ _ _) (br_wp (hQ _ _) (br_wp (hQ _ _) (br_wp (hQ _ _) (br_wp (hQ _ _) (br_wp (hQ _ _) (br_wp (hQ _ _) (br_wp (hQ _ _) (br_wp (hQ _ _) (br_wp (hQ _ _) (br_wp (hQ _ _) (br_wp (hQ _ _) (br_wp (hQ _ _) (br_wp (hQ _ _) (br_wp (hQ _ _) (hQ _ _))))))))))))))))))
def pw_partsTo (a0 : Int) (Q : Int → iST → Prop) (u : iST) : Prop :=
  bdp a0 452000 (rd (u.2.1 0 a0) (fun v1 => 
  br (v1 = 27) (
    pw_lengthOf a0 (fun v2 u => 
    Q v2 u) u) (
  br (v1 = 28) (
    Q 0 u) (
  br (v1 = 29) (
    Q 0 u) (
  br (v1 = 30) (
    Q 0 u) (
  br (v1 = 31) (
    Q 0 u) (
  br (v1 = 32) (
    Q 0 u) (
  br (v1 = 33) (
    Q 0 u) (
  br (v1 = 34) (
    Q 0 u) (
  br (v1 = 35) (
    Q 0 u) (
  br (v1 = 36) (
    Q 0 u) (
  br (v1 = 37) (
    Q 0 u) (
  br (v1 = 38) (
    Q 0 u) (
  br (v1 = 39) (
    Q 3 u) (
  br (v1 = 40) (
    Q 4 u) (
  br (v1 = 41) (
    Q 2 u) (
  br (v1 = 42) (
    Q 2 u) (
  br (v1 = 43) (
    Q 3 u) (
  Q 0 u)))))))))))))))))))
theorem cj_w_partsTo {Q1 Q2 Q3 : Int → iST → Prop}  {a0 : Int} {u : iST} (hQ : ∀ r0 r1, Q1 r0 r1 → Q2 r0 r1 → Q3 r0 r1) : w_partsTo a0 Q1 u → pw_partsTo a0 Q2 u → w_partsTo a0 Q3 u := (bd_cj (rd_cj fun _ => (br_cj (cj_w_lengthOf (fun _ _ => (hQ _ _))) (br_cj (hQ _ _) (br_cj (hQ _ _) (br_cj (hQ _ _) (br_cj (hQ _ _) (br_cj (hQ _ _) (br_cj (hQ _ _) (br_cj (hQ _ _) (br_cj (hQ _ _) (br_cj (hQ _ _) (br_cj (hQ _ _) (br_cj (hQ _ _) (br_cj (hQ _ _) (br_cj (hQ _ _) (br_cj (hQ _ _) (br_cj (hQ _ _) (br_cj (hQ _ _) (hQ _ _))))))))))))))))))))
theorem mn_w_partsTo {Q1 Q2 : Int → iST → Prop}  {a0 : Int} {u : iST} (hQ : ∀ r0 r1, Q1 r0 r1 → Q2 r0 r1) : pw_partsTo a0 Q1 u → pw_partsTo a0 Q2 u := (bd_mn (rd_mn fun _ => (br_mn (mn_w_lengthOf (fun _ _ => (hQ _ _))) (br_mn (hQ _ _) (br_mn (hQ _ _) (br_mn (hQ _ _) (br_mn (hQ _ _) (br_mn (hQ _ _) (br_mn (hQ _ _) (br_mn (hQ _ _) (br_mn (hQ _ _) (br_mn (hQ _ _) (br_mn (hQ _ _) (br_mn (hQ _ _) (br_mn (hQ _ _) (br_mn (hQ _ _) (br_mn (hQ _ _) (br_mn (hQ _ _) (br_mn (hQ _ _) (hQ _ _))))))))))))))))))))
theorem wp_w_partsTo {Q1 Q2 : Int → iST → Prop}  {a0 : Int} {u : iST} (hQ : ∀ r0 r1, Q1 r0 r1 → Q2 r0 r1) : w_partsTo a0 Q1 u → pw_partsTo a0 Q2 u := (bd_wp (rd_wp fun _ => (br_wp (wp_w_lengthOf (fun _ _ => (hQ _ _))) (br_wp (hQ _ _) (br_wp (hQ _ _) (br_wp (hQ _ _) (br_wp (hQ _ _) (br_wp (hQ _ _) (br_wp (hQ _ _) (br_wp (hQ _ _) (br_wp (hQ _ _) (br_wp (hQ _ _) (br_wp (hQ _ _) (br_wp (hQ _ _) (br_wp (hQ _ _) (br_wp (hQ _ _) (br_wp (hQ _ _) (br_wp (hQ _ _) (br_wp (hQ _ _) (hQ _ _))))))))))))))))))))
def pw_areTerms_14b (R14 : Int → Int → Int → iST → Prop) (Q : Int → iST → Prop) (x1 : Int) (x3 : Int) (x4 : Int) (u : iST) : Prop :=
  br (x3 ≤ x4) (
    ztp 1 (Q 1 u)) (
    pw_nth x1 x4 (fun v2 u => 
    pw_termOf v2 (fun v3 u => 
    br (v3 ≠ (-1)) (
      ovp (x4 + 1) (
      R14 x1 x3 (x4 + 1) u)) (
      ztp 0 (Q 0 u))) u) u)
theorem cj_w_areTerms_14b {Q1 Q2 Q3 : Int → iST → Prop} {R141 R142 R143 : Int → Int → Int → iST → Prop} {x1 : Int} {x3 : Int} {x4 : Int} {u : iST} (hR14 : ∀ r0 r1 r2 r3, R141 r0 r1 r2 r3 → R142 r0 r1 r2 r3 → R143 r0 r1 r2 r3) (hQ : ∀ r0 r1, Q1 r0 r1 → Q2 r0 r1 → Q3 r0 r1) : w_areTerms_14b R141 Q1 x1 x3 x4 u → pw_areTerms_14b R142 Q2 x1 x3 x4 u → w_areTerms_14b R143 Q3 x1 x3 x4 u := (br_cj (zt_cj (hQ _ _)) (cj_w_nth (fun _ _ => (cj_w_termOf (fun _ _ => (br_cj (ov_cj (hR14 _ _ _ _)) (zt_cj (hQ _ _))))))))
theorem mn_w_areTerms_14b {Q1 Q2 : Int → iST → Prop} {R141 R142 : Int → Int → Int → iST → Prop} {x1 : Int} {x3 : Int} {x4 : Int} {u : iST} (hR14 : ∀ r0 r1 r2 r3, R141 r0 r1 r2 r3 → R142 r0 r1 r2 r3) (hQ : ∀ r0 r1, Q1 r0 r1 → Q2 r0 r1) : pw_areTerms_14b R141 Q1 x1 x3 x4 u → pw_areTerms_14b R142 Q2 x1 x3 x4 u := (br_mn (zt_mn (hQ _ _)) (mn_w_nth (fun _ _ => (mn_w_termOf (fun _ _ => (br_mn (ov_mn (hR14 _ _ _ _)) (zt_mn (hQ _ _))))))))
theorem wp_w_areTerms_14b {Q1 Q2 : Int → iST → Prop} {R141 R142 : Int → Int → Int → iST → Prop} {x1 : Int} {x3 : Int} {x4 : Int} {u : iST} (hR14 : ∀ r0 r1 r2 r3, R141 r0 r1 r2 r3 → R142 r0 r1 r2 r3) (hQ : ∀ r0 r1, Q1 r0 r1 → Q2 r0 r1) : w_areTerms_14b R141 Q1 x1 x3 x4 u → pw_areTerms_14b R142 Q2 x1 x3 x4 u := (br_wp (zt_wp (hQ _ _)) (wp_w_nth (fun _ _ => (wp_w_termOf (fun _ _ => (br_wp (ov_wp (hR14 _ _ _ _)) (zt_wp (hQ _ _))))))))
def pw_areTerms_14 (Q : Int → iST → Prop) (x1 : Int) (x3 : Int) (x4 : Int) (u : iST) : Prop := ∃ R14 : Int → Int → Int → iST → Prop, (∀ (x1 : Int) (x3 : Int) (x4 : Int) (u : iST), R14 x1 x3 x4 u → pw_areTerms_14b R14 Q x1 x3 x4 u) ∧ R14 x1 x3 x4 u
theorem cj_w_areTerms_14 {Q1 Q2 Q3 : Int → iST → Prop}  {x1 : Int} {x3 : Int} {x4 : Int} {u : iST} (hQ : ∀ r0 r1, Q1 r0 r1 → Q2 r0 r1 → Q3 r0 r1) : w_areTerms_14 Q1 x1 x3 x4 u → pw_areTerms_14 Q2 x1 x3 x4 u → w_areTerms_14 Q3 x1 x3 x4 u := by
  intro a b R3 c3
  obtain ⟨R2, c2, b2⟩ := b
  exact a (fun r0 r1 r2 r3 => R2 r0 r1 r2 r3 → R3 r0 r1 r2 r3) (fun r0 r1 r2 r3 a b => c3 r0 r1 r2 r3 (cj_w_areTerms_14b (fun r0 r1 r2 r3 a b => a b) hQ a (c2 r0 r1 r2 r3 b))) b2
theorem pw_areTerms_14_i  {Q : Int → iST → Prop} {x1 : Int} {x3 : Int} {x4 : Int} {u : iST} (I : Int → Int → Int → iST → Prop) (s : ∀ (x1 : Int) (x3 : Int) (x4 : Int) (u : iST), I x1 x3 x4 u → pw_areTerms_14b I Q x1 x3 x4 u) (h : I x1 x3 x4 u) : pw_areTerms_14 Q x1 x3 x4 u := ⟨I, s, h⟩
theorem mn_w_areTerms_14 {Q1 Q2 : Int → iST → Prop}  {x1 : Int} {x3 : Int} {x4 : Int} {u : iST} (hQ : ∀ r0 r1, Q1 r0 r1 → Q2 r0 r1) : pw_areTerms_14 Q1 x1 x3 x4 u → pw_areTerms_14 Q2 x1 x3 x4 u := fun ⟨R, s, h⟩ => ⟨R, fun r0 r1 r2 r3 a => mn_w_areTerms_14b (fun r0 r1 r2 r3 a => a) hQ (s r0 r1 r2 r3 a), h⟩
theorem un_w_areTerms_14  {Q : Int → iST → Prop} {x1 : Int} {x3 : Int} {x4 : Int} {u : iST} : pw_areTerms_14 Q x1 x3 x4 u → pw_areTerms_14b (fun x1 x3 x4 u => pw_areTerms_14 Q x1 x3 x4 u) Q x1 x3 x4 u := fun ⟨R, s, h⟩ => mn_w_areTerms_14b (fun r0 r1 r2 r3 a => ⟨R, s, a⟩) (fun _ _ h => h) (s _ _ _ _ h)
theorem fo_w_areTerms_14  {Q : Int → iST → Prop} {x1 : Int} {x3 : Int} {x4 : Int} {u : iST} : pw_areTerms_14b (fun x1 x3 x4 u => pw_areTerms_14 Q x1 x3 x4 u) Q x1 x3 x4 u → pw_areTerms_14 Q x1 x3 x4 u := fun h => ⟨fun x1 x3 x4 u => pw_areTerms_14b (fun x1 x3 x4 u => pw_areTerms_14 Q x1 x3 x4 u) Q x1 x3 x4 u, fun r0 r1 r2 r3 a => mn_w_areTerms_14b (fun r0 r1 r2 r3 a => un_w_areTerms_14 a) (fun _ _ h => h) a, h⟩
theorem wp_w_areTerms_14 {Q1 Q2 : Int → iST → Prop}  {x1 : Int} {x3 : Int} {x4 : Int} {u : iST} (hQ : ∀ r0 r1, Q1 r0 r1 → Q2 r0 r1) : w_areTerms_14 Q1 x1 x3 x4 u → pw_areTerms_14 Q2 x1 x3 x4 u := fun a => a (fun x1 x3 x4 u => pw_areTerms_14 Q2 x1 x3 x4 u) (fun x1 x3 x4 u b => fo_w_areTerms_14 (wp_w_areTerms_14b (fun r0 r1 r2 r3 a => a) hQ b))
def pw_areTerms (a0 : Int) (a1 : Int) (a2 : Int) (Q : Int → iST → Prop) (u : iST) : Prop :=
  pw_lengthOf a0 (fun v1 u => 
  br (v1 = a2) (
    pw_areTerms_14 Q a0 a2 a1 u) (
    ztp 0 (Q 0 u))) u
theorem cj_w_areTerms {Q1 Q2 Q3 : Int → iST → Prop}  {a0 : Int} {a1 : Int} {a2 : Int} {u : iST} (hQ : ∀ r0 r1, Q1 r0 r1 → Q2 r0 r1 → Q3 r0 r1) : w_areTerms a0 a1 a2 Q1 u → pw_areTerms a0 a1 a2 Q2 u → w_areTerms a0 a1 a2 Q3 u := (cj_w_lengthOf (fun _ _ => (br_cj (cj_w_areTerms_14  hQ) (zt_cj (hQ _ _)))))
theorem mn_w_areTerms {Q1 Q2 : Int → iST → Prop}  {a0 : Int} {a1 : Int} {a2 : Int} {u : iST} (hQ : ∀ r0 r1, Q1 r0 r1 → Q2 r0 r1) : pw_areTerms a0 a1 a2 Q1 u → pw_areTerms a0 a1 a2 Q2 u := (mn_w_lengthOf (fun _ _ => (br_mn (mn_w_areTerms_14  hQ) (zt_mn (hQ _ _)))))
theorem wp_w_areTerms {Q1 Q2 : Int → iST → Prop}  {a0 : Int} {a1 : Int} {a2 : Int} {u : iST} (hQ : ∀ r0 r1, Q1 r0 r1 → Q2 r0 r1) : w_areTerms a0 a1 a2 Q1 u → pw_areTerms a0 a1 a2 Q2 u := (wp_w_lengthOf (fun _ _ => (br_wp (wp_w_areTerms_14  hQ) (zt_wp (hQ _ _)))))
def pw_isTermList (a0 : Int) (Q : Int → iST → Prop) (u : iST) : Prop :=
  pw_lengthOf a0 (fun v1 u => 
  br (v1 = (-1)) (
    ztp 0 (Q 0 u)) (
    pw_areTerms a0 0 v1 (fun v2 u => 
    br (v2 = 0) (
      ztp 0 (Q 0 u)) (
      ztp 1 (Q 1 u))) u)) u
theorem cj_w_isTermList {Q1 Q2 Q3 : Int → iST → Prop}  {a0 : Int} {u : iST} (hQ : ∀ r0 r1, Q1 r0 r1 → Q2 r0 r1 → Q3 r0 r1) : w_isTermList a0 Q1 u → pw_isTermList a0 Q2 u → w_isTermList a0 Q3 u := (cj_w_lengthOf (fun _ _ => (br_cj (zt_cj (hQ _ _)) (cj_w_areTerms (fun _ _ => (br_cj (zt_cj (hQ _ _)) (zt_cj (hQ _ _))))))))
theorem mn_w_isTermList {Q1 Q2 : Int → iST → Prop}  {a0 : Int} {u : iST} (hQ : ∀ r0 r1, Q1 r0 r1 → Q2 r0 r1) : pw_isTermList a0 Q1 u → pw_isTermList a0 Q2 u := (mn_w_lengthOf (fun _ _ => (br_mn (zt_mn (hQ _ _)) (mn_w_areTerms (fun _ _ => (br_mn (zt_mn (hQ _ _)) (zt_mn (hQ _ _))))))))
theorem wp_w_isTermList {Q1 Q2 : Int → iST → Prop}  {a0 : Int} {u : iST} (hQ : ∀ r0 r1, Q1 r0 r1 → Q2 r0 r1) : w_isTermList a0 Q1 u → pw_isTermList a0 Q2 u := (wp_w_lengthOf (fun _ _ => (br_wp (zt_wp (hQ _ _)) (wp_w_areTerms (fun _ _ => (br_wp (zt_wp (hQ _ _)) (zt_wp (hQ _ _))))))))
def pw_told_60 (Q : Int → iST → Prop) (y2 : Int) (y3 : Int) (u : iST) : Prop :=
  pw_term y2 y3 (fun v9 u => 
  pw_valueOf v9 (fun v10 u => 
  Q v10 u) u) u
theorem cj_w_told_60 {Q1 Q2 Q3 : Int → iST → Prop}  {y2 : Int} {y3 : Int} {u : iST} (hQ : ∀ r0 r1, Q1 r0 r1 → Q2 r0 r1 → Q3 r0 r1) : w_told_60 Q1 y2 y3 u → pw_told_60 Q2 y2 y3 u → w_told_60 Q3 y2 y3 u := (cj_w_term (fun _ _ => (cj_w_valueOf (fun _ _ => (hQ _ _)))))
theorem mn_w_told_60 {Q1 Q2 : Int → iST → Prop}  {y2 : Int} {y3 : Int} {u : iST} (hQ : ∀ r0 r1, Q1 r0 r1 → Q2 r0 r1) : pw_told_60 Q1 y2 y3 u → pw_told_60 Q2 y2 y3 u := (mn_w_term (fun _ _ => (mn_w_valueOf (fun _ _ => (hQ _ _)))))
theorem wp_w_told_60 {Q1 Q2 : Int → iST → Prop}  {y2 : Int} {y3 : Int} {u : iST} (hQ : ∀ r0 r1, Q1 r0 r1 → Q2 r0 r1) : w_told_60 Q1 y2 y3 u → pw_told_60 Q2 y2 y3 u := (wp_w_term (fun _ _ => (wp_w_valueOf (fun _ _ => (hQ _ _)))))
def pw_told (a0 : Int) (Q : Int → iST → Prop) (u : iST) : Prop :=
  pw_isCall a0 (fun v1 u => 
  br (v1 = 0) (
    Q (-1) u) (
    bdp a0 452000 (rd (u.2.1 0 a0) (fun v2 => 
    br (16 < v2) (
      Q (-1) u) (
      pw_areConstants a0 (fun v3 u => 
      br (v3 ≠ 0) (
        bdp a0 452000 (rd (u.2.1 0 a0) (fun v4 => 
        br (v4 ≠ 3) (
          bdp a0 452000 (rd (u.2.1 0 a0) (fun v5 => 
          pw_constantValue a0 v5 (fun v6 u => 
          Q v6 u) u))) (
          pw_term a0 1 (fun v7 u => 
          pw_valueOf v7 (fun v8 u => 
          br (v8 ≠ 0) (
            pw_told_60 Q a0 2 u) (
            pw_told_60 Q a0 3 u)) u) u)))) (
        Q (-1) u)) u))))) u
theorem cj_w_told {Q1 Q2 Q3 : Int → iST → Prop}  {a0 : Int} {u : iST} (hQ : ∀ r0 r1, Q1 r0 r1 → Q2 r0 r1 → Q3 r0 r1) : w_told a0 Q1 u → pw_told a0 Q2 u → w_told a0 Q3 u := (cj_w_isCall (fun _ _ => (br_cj (hQ _ _) (bd_cj (rd_cj fun _ => (br_cj (hQ _ _) (cj_w_areConstants (fun _ _ => (br_cj (bd_cj (rd_cj fun _ => (br_cj (bd_cj (rd_cj fun _ => (cj_w_constantValue (fun _ _ => (hQ _ _))))) (cj_w_term (fun _ _ => (cj_w_valueOf (fun _ _ => (br_cj (cj_w_told_60  hQ) (cj_w_told_60  hQ))))))))) (hQ _ _))))))))))
theorem mn_w_told {Q1 Q2 : Int → iST → Prop}  {a0 : Int} {u : iST} (hQ : ∀ r0 r1, Q1 r0 r1 → Q2 r0 r1) : pw_told a0 Q1 u → pw_told a0 Q2 u := (mn_w_isCall (fun _ _ => (br_mn (hQ _ _) (bd_mn (rd_mn fun _ => (br_mn (hQ _ _) (mn_w_areConstants (fun _ _ => (br_mn (bd_mn (rd_mn fun _ => (br_mn (bd_mn (rd_mn fun _ => (mn_w_constantValue (fun _ _ => (hQ _ _))))) (mn_w_term (fun _ _ => (mn_w_valueOf (fun _ _ => (br_mn (mn_w_told_60  hQ) (mn_w_told_60  hQ))))))))) (hQ _ _))))))))))
theorem wp_w_told {Q1 Q2 : Int → iST → Prop}  {a0 : Int} {u : iST} (hQ : ∀ r0 r1, Q1 r0 r1 → Q2 r0 r1) : w_told a0 Q1 u → pw_told a0 Q2 u := (wp_w_isCall (fun _ _ => (br_wp (hQ _ _) (bd_wp (rd_wp fun _ => (br_wp (hQ _ _) (wp_w_areConstants (fun _ _ => (br_wp (bd_wp (rd_wp fun _ => (br_wp (bd_wp (rd_wp fun _ => (wp_w_constantValue (fun _ _ => (hQ _ _))))) (wp_w_term (fun _ _ => (wp_w_valueOf (fun _ _ => (br_wp (wp_w_told_60  hQ) (wp_w_told_60  hQ))))))))) (hQ _ _))))))))))
def pw_isInduction (a0 : Int) (Q : Int → iST → Prop) (u : iST) : Prop :=
  pw_lengthOf a0 (fun v1 u => 
  br (v1 < 3) (
    ztp 0 (Q 0 u)) (
    pw_nth a0 1 (fun v2 u => 
    pw_termOf v2 (fun v3 u => 
    br (v3 ≠ (-1)) (
      pw_nth a0 2 (fun v4 u => 
      pw_isPair v4 (fun v5 u => 
      br (v5 = 0) (
        ztp 0 (Q 0 u)) (
        bdp v4 452000 (rd (u.2.1 0 v4) (fun v6 => 
        pw_isNewName v6 (fun v7 u => 
        br (v7 = 0) (
          ztp 0 (Q 0 u)) (
          bdp v4 452000 (rd (u.2.1 1 v4) (fun v8 => 
          pw_areVariables v8 1000 (fun v9 u => 
          br (v9 ≠ 0) (
            bdp v4 452000 (rd (u.2.1 0 v4) (fun v10 => 
            pw_definition v10 (fun v11 u => 
            br (v11 = (-1)) (
              ztp 0 (Q 0 u)) (
              bdp v11 40 (rz (u.2.1 41 v11) (fun v12 => 
              br (v12 = 0) (
                ztp 0 (Q 0 u)) (
                bdp v4 452000 (rd (u.2.1 1 v4) (fun v13 => 
                pw_lengthOf v13 (fun v14 u => 
                bdp v11 40 (rd (u.2.1 37 v11) (fun v15 => 
                br (v14 = v15) (
                  bdp v11 40 (rd (u.2.1 39 v11) (fun v16 => 
                  pw_pathsOf v16 (fun u => 
                  rd (u.1 126) (fun v18 => 
                  ovp (3 + v18) (
                  br (v1 ≠ (3 + v18)) (
                    ztp 0 (Q 0 u)) (
                    ztp 1 (Q 1 u))))) u))) (
                  ztp 0 (Q 0 u))))) u))))))) u))) (
            ztp 0 (Q 0 u))) u)))) u)))) u) u) (
      ztp 0 (Q 0 u))) u) u)) u
theorem cj_w_isInduction {Q1 Q2 Q3 : Int → iST → Prop}  {a0 : Int} {u : iST} (hQ : ∀ r0 r1, Q1 r0 r1 → Q2 r0 r1 → Q3 r0 r1) : w_isInduction a0 Q1 u → pw_isInduction a0 Q2 u → w_isInduction a0 Q3 u := (cj_w_lengthOf (fun _ _ => (br_cj (zt_cj (hQ _ _)) (cj_w_nth (fun _ _ => (cj_w_termOf (fun _ _ => (br_cj (cj_w_nth (fun _ _ => (cj_w_isPair (fun _ _ => (br_cj (zt_cj (hQ _ _)) (bd_cj (rd_cj fun _ => (cj_w_isNewName (fun _ _ => (br_cj (zt_cj (hQ _ _)) (bd_cj (rd_cj fun _ => (cj_w_areVariables (fun _ _ => (br_cj (bd_cj (rd_cj fun _ => (cj_w_definition (fun _ _ => (br_cj (zt_cj (hQ _ _)) (bd_cj (rz_cj fun _ => (br_cj (zt_cj (hQ _ _)) (bd_cj (rd_cj fun _ => (cj_w_lengthOf (fun _ _ => (bd_cj (rd_cj fun _ => (br_cj (bd_cj (rd_cj fun _ => (cj_w_pathsOf (fun _ => (rd_cj fun _ => (ov_cj (br_cj (zt_cj (hQ _ _)) (zt_cj (hQ _ _))))))))) (zt_cj (hQ _ _))))))))))))))))) (zt_cj (hQ _ _))))))))))))))))) (zt_cj (hQ _ _))))))))))
theorem mn_w_isInduction {Q1 Q2 : Int → iST → Prop}  {a0 : Int} {u : iST} (hQ : ∀ r0 r1, Q1 r0 r1 → Q2 r0 r1) : pw_isInduction a0 Q1 u → pw_isInduction a0 Q2 u := (mn_w_lengthOf (fun _ _ => (br_mn (zt_mn (hQ _ _)) (mn_w_nth (fun _ _ => (mn_w_termOf (fun _ _ => (br_mn (mn_w_nth (fun _ _ => (mn_w_isPair (fun _ _ => (br_mn (zt_mn (hQ _ _)) (bd_mn (rd_mn fun _ => (mn_w_isNewName (fun _ _ => (br_mn (zt_mn (hQ _ _)) (bd_mn (rd_mn fun _ => (mn_w_areVariables (fun _ _ => (br_mn (bd_mn (rd_mn fun _ => (mn_w_definition (fun _ _ => (br_mn (zt_mn (hQ _ _)) (bd_mn (rz_mn fun _ => (br_mn (zt_mn (hQ _ _)) (bd_mn (rd_mn fun _ => (mn_w_lengthOf (fun _ _ => (bd_mn (rd_mn fun _ => (br_mn (bd_mn (rd_mn fun _ => (mn_w_pathsOf (fun _ => (rd_mn fun _ => (ov_mn (br_mn (zt_mn (hQ _ _)) (zt_mn (hQ _ _))))))))) (zt_mn (hQ _ _))))))))))))))))) (zt_mn (hQ _ _))))))))))))))))) (zt_mn (hQ _ _))))))))))
theorem wp_w_isInduction {Q1 Q2 : Int → iST → Prop}  {a0 : Int} {u : iST} (hQ : ∀ r0 r1, Q1 r0 r1 → Q2 r0 r1) : w_isInduction a0 Q1 u → pw_isInduction a0 Q2 u := (wp_w_lengthOf (fun _ _ => (br_wp (zt_wp (hQ _ _)) (wp_w_nth (fun _ _ => (wp_w_termOf (fun _ _ => (br_wp (wp_w_nth (fun _ _ => (wp_w_isPair (fun _ _ => (br_wp (zt_wp (hQ _ _)) (bd_wp (rd_wp fun _ => (wp_w_isNewName (fun _ _ => (br_wp (zt_wp (hQ _ _)) (bd_wp (rd_wp fun _ => (wp_w_areVariables (fun _ _ => (br_wp (bd_wp (rd_wp fun _ => (wp_w_definition (fun _ _ => (br_wp (zt_wp (hQ _ _)) (bd_wp (rz_wp fun _ => (br_wp (zt_wp (hQ _ _)) (bd_wp (rd_wp fun _ => (wp_w_lengthOf (fun _ _ => (bd_wp (rd_wp fun _ => (br_wp (bd_wp (rd_wp fun _ => (wp_w_pathsOf (fun _ => (rd_wp fun _ => (ov_wp (br_wp (zt_wp (hQ _ _)) (zt_wp (hQ _ _))))))))) (zt_wp (hQ _ _))))))))))))))))) (zt_wp (hQ _ _))))))))))))))))) (zt_wp (hQ _ _))))))))))
def pw_isForm (a0 : Int) (Q : Int → iST → Prop) (u : iST) : Prop :=
  pw_lengthOf a0 (fun v1 u => 
  br (1 ≤ v1) (
    bdp a0 452000 (rd (u.2.1 0 a0) (fun v2 => 
    br (v2 = 27) (
      pw_isInduction a0 (fun v3 u => 
      ztp v3 (Q v3 u)) u) (
    br (v2 = 28) (
      ztp 0 (Q 0 u)) (
    br (v2 = 29) (
      pw_areTerms a0 1 2 (fun v6 u => 
      ztp v6 (Q v6 u)) u) (
    br (v2 = 30) (
      pw_areTerms a0 1 2 (fun v8 u => 
      ztp v8 (Q v8 u)) u) (
    br (v2 = 31) (
      pw_areTerms a0 1 2 (fun v10 u => 
      br (v10 = 0) (
        ztp 0 (Q 0 u)) (
        pw_nth a0 1 (fun v11 u => 
        pw_termOf v11 (fun v12 u => 
        pw_told v12 (fun v13 u => 
        br (v13 = (-1)) (
          ztp 0 (Q 0 u)) (
          ztp 1 (Q 1 u))) u) u) u)) u) (
    br (v2 = 32) (
      pw_areTerms a0 1 3 (fun v15 u => 
      ztp v15 (Q v15 u)) u) (
    br (v2 = 33) (
      pw_areTerms a0 1 3 (fun v17 u => 
      ztp v17 (Q v17 u)) u) (
    br (v2 = 34) (
      pw_areTerms a0 1 3 (fun v19 u => 
      ztp v19 (Q v19 u)) u) (
    br (v2 = 35) (
      pw_areTerms a0 1 4 (fun v21 u => 
      ztp v21 (Q v21 u)) u) (
    br (v2 = 36) (
      pw_areTerms a0 1 4 (fun v23 u => 
      ztp v23 (Q v23 u)) u) (
    br (v2 = 37) (
      br (v1 ≠ 2) (
        ztp 0 (Q 0 u)) (
        pw_nth a0 1 (fun v25 u => 
        pw_definition v25 (fun v26 u => 
        br (v26 = (-1)) (
          ztp 0 (Q 0 u)) (
          ztp 1 (Q 1 u))) u) u)) (
    br (v2 = 38) (
      br (v1 ≠ 2) (
        ztp 0 (Q 0 u)) (
        pw_nth a0 1 (fun v28 u => 
        pw_theoremOf v28 (fun v29 u => 
        br (v29 = (-1)) (
          ztp 0 (Q 0 u)) (
          ztp 1 (Q 1 u))) u) u)) (
    br (v2 = 39) (
      br (v1 ≠ 3) (
        ztp 0 (Q 0 u)) (
        pw_nth a0 1 (fun v31 u => 
        pw_isTermList v31 (fun v32 u => 
        br (v32 = 0) (
          ztp 0 (Q 0 u)) (
          ztp 1 (Q 1 u))) u) u)) (
    br (v2 = 40) (
      br (v1 ≠ 4) (
        ztp 0 (Q 0 u)) (
        pw_nth a0 1 (fun v34 u => 
        pw_termOf v34 (fun v35 u => 
        br (v35 = (-1)) (
          ztp 0 (Q 0 u)) (
          ztp 1 (Q 1 u))) u) u)) (
    br (v2 = 41) (
      br (v1 < 2) (
        ztp 0 (Q 0 u)) (
        bdp a0 452000 (rd (u.2.1 1 a0) (fun v37 => 
        bdp v37 452000 (rd (u.2.1 1 v37) (fun v38 => 
        pw_arePairs v38 (fun v39 u => 
        br (v39 = 0) (
          ztp 0 (Q 0 u)) (
          ztp 1 (Q 1 u))) u)))))) (
    br (v2 = 42) (
      br (v1 ≠ 2) (
        ztp 0 (Q 0 u)) (
        ztp 1 (Q 1 u))) (
    br (v2 = 43) (
      br (v1 ≠ 3) (
        ztp 0 (Q 0 u)) (
        ztp 1 (Q 1 u))) (
    ztp 0 (Q 0 u))))))))))))))))))))) (
    ztp 0 (Q 0 u))) u
theorem cj_w_isForm {Q1 Q2 Q3 : Int → iST → Prop}  {a0 : Int} {u : iST} (hQ : ∀ r0 r1, Q1 r0 r1 → Q2 r0 r1 → Q3 r0 r1) : w_isForm a0 Q1 u → pw_isForm a0 Q2 u → w_isForm a0 Q3 u := (cj_w_lengthOf (fun _ _ => (br_cj (bd_cj (rd_cj fun _ => (br_cj (cj_w_isInduction (fun _ _ => (zt_cj (hQ _ _)))) (br_cj (zt_cj (hQ _ _)) (br_cj (cj_w_areTerms (fun _ _ => (zt_cj (hQ _ _)))) (br_cj (cj_w_areTerms (fun _ _ => (zt_cj (hQ _ _)))) (br_cj (cj_w_areTerms (fun _ _ => (br_cj (zt_cj (hQ _ _)) (cj_w_nth (fun _ _ => (cj_w_termOf (fun _ _ => (cj_w_told (fun _ _ => (br_cj (zt_cj (hQ _ _)) (zt_cj (hQ _ _)))))))))))) (br_cj (cj_w_areTerms (fun _ _ => (zt_cj (hQ _ _)))) (br_cj (cj_w_areTerms (fun _ _ => (zt_cj (hQ _ _)))) (br_cj (cj_w_areTerms (fun _ _ => (zt_cj (hQ _ _)))) (br_cj (cj_w_areTerms (fun _ _ => (zt_cj (hQ _ _)))) (br_cj (cj_w_areTerms (fun _ _ => (zt_cj (hQ _ _)))) (br_cj (br_cj (zt_cj (hQ _ _)) (cj_w_nth (fun _ _ => (cj_w_definition (fun _ _ => (br_cj (zt_cj (hQ _ _)) (zt_cj (hQ _ _)))))))) (br_cj (br_cj (zt_cj (hQ _ _)) (cj_w_nth (fun _ _ => (cj_w_theoremOf (fun _ _ => (br_cj (zt_cj (hQ _ _)) (zt_cj (hQ _ _)))))))) (br_cj (br_cj (zt_cj (hQ _ _)) (cj_w_nth (fun _ _ => (cj_w_isTermList (fun _ _ => (br_cj (zt_cj (hQ _ _)) (zt_cj (hQ _ _)))))))) (br_cj (br_cj (zt_cj (hQ _ _)) (cj_w_nth (fun _ _ => (cj_w_termOf (fun _ _ => (br_cj (zt_cj (hQ _ _)) (zt_cj (hQ _ _)))))))) (br_cj (br_cj (zt_cj (hQ _ _)) (bd_cj (rd_cj fun _ => (bd_cj (rd_cj fun _ => (cj_w_arePairs (fun _ _ => (br_cj (zt_cj (hQ _ _)) (zt_cj (hQ _ _)))))))))) (br_cj (br_cj (zt_cj (hQ _ _)) (zt_cj (hQ _ _))) (br_cj (br_cj (zt_cj (hQ _ _)) (zt_cj (hQ _ _))) (zt_cj (hQ _ _))))))))))))))))))))) (zt_cj (hQ _ _)))))
theorem mn_w_isForm {Q1 Q2 : Int → iST → Prop}  {a0 : Int} {u : iST} (hQ : ∀ r0 r1, Q1 r0 r1 → Q2 r0 r1) : pw_isForm a0 Q1 u → pw_isForm a0 Q2 u := (mn_w_lengthOf (fun _ _ => (br_mn (bd_mn (rd_mn fun _ => (br_mn (mn_w_isInduction (fun _ _ => (zt_mn (hQ _ _)))) (br_mn (zt_mn (hQ _ _)) (br_mn (mn_w_areTerms (fun _ _ => (zt_mn (hQ _ _)))) (br_mn (mn_w_areTerms (fun _ _ => (zt_mn (hQ _ _)))) (br_mn (mn_w_areTerms (fun _ _ => (br_mn (zt_mn (hQ _ _)) (mn_w_nth (fun _ _ => (mn_w_termOf (fun _ _ => (mn_w_told (fun _ _ => (br_mn (zt_mn (hQ _ _)) (zt_mn (hQ _ _)))))))))))) (br_mn (mn_w_areTerms (fun _ _ => (zt_mn (hQ _ _)))) (br_mn (mn_w_areTerms (fun _ _ => (zt_mn (hQ _ _)))) (br_mn (mn_w_areTerms (fun _ _ => (zt_mn (hQ _ _)))) (br_mn (mn_w_areTerms (fun _ _ => (zt_mn (hQ _ _)))) (br_mn (mn_w_areTerms (fun _ _ => (zt_mn (hQ _ _)))) (br_mn (br_mn (zt_mn (hQ _ _)) (mn_w_nth (fun _ _ => (mn_w_definition (fun _ _ => (br_mn (zt_mn (hQ _ _)) (zt_mn (hQ _ _)))))))) (br_mn (br_mn (zt_mn (hQ _ _)) (mn_w_nth (fun _ _ => (mn_w_theoremOf (fun _ _ => (br_mn (zt_mn (hQ _ _)) (zt_mn (hQ _ _)))))))) (br_mn (br_mn (zt_mn (hQ _ _)) (mn_w_nth (fun _ _ => (mn_w_isTermList (fun _ _ => (br_mn (zt_mn (hQ _ _)) (zt_mn (hQ _ _)))))))) (br_mn (br_mn (zt_mn (hQ _ _)) (mn_w_nth (fun _ _ => (mn_w_termOf (fun _ _ => (br_mn (zt_mn (hQ _ _)) (zt_mn (hQ _ _)))))))) (br_mn (br_mn (zt_mn (hQ _ _)) (bd_mn (rd_mn fun _ => (bd_mn (rd_mn fun _ => (mn_w_arePairs (fun _ _ => (br_mn (zt_mn (hQ _ _)) (zt_mn (hQ _ _)))))))))) (br_mn (br_mn (zt_mn (hQ _ _)) (zt_mn (hQ _ _))) (br_mn (br_mn (zt_mn (hQ _ _)) (zt_mn (hQ _ _))) (zt_mn (hQ _ _))))))))))))))))))))) (zt_mn (hQ _ _)))))
theorem wp_w_isForm {Q1 Q2 : Int → iST → Prop}  {a0 : Int} {u : iST} (hQ : ∀ r0 r1, Q1 r0 r1 → Q2 r0 r1) : w_isForm a0 Q1 u → pw_isForm a0 Q2 u := (wp_w_lengthOf (fun _ _ => (br_wp (bd_wp (rd_wp fun _ => (br_wp (wp_w_isInduction (fun _ _ => (zt_wp (hQ _ _)))) (br_wp (zt_wp (hQ _ _)) (br_wp (wp_w_areTerms (fun _ _ => (zt_wp (hQ _ _)))) (br_wp (wp_w_areTerms (fun _ _ => (zt_wp (hQ _ _)))) (br_wp (wp_w_areTerms (fun _ _ => (br_wp (zt_wp (hQ _ _)) (wp_w_nth (fun _ _ => (wp_w_termOf (fun _ _ => (wp_w_told (fun _ _ => (br_wp (zt_wp (hQ _ _)) (zt_wp (hQ _ _)))))))))))) (br_wp (wp_w_areTerms (fun _ _ => (zt_wp (hQ _ _)))) (br_wp (wp_w_areTerms (fun _ _ => (zt_wp (hQ _ _)))) (br_wp (wp_w_areTerms (fun _ _ => (zt_wp (hQ _ _)))) (br_wp (wp_w_areTerms (fun _ _ => (zt_wp (hQ _ _)))) (br_wp (wp_w_areTerms (fun _ _ => (zt_wp (hQ _ _)))) (br_wp (br_wp (zt_wp (hQ _ _)) (wp_w_nth (fun _ _ => (wp_w_definition (fun _ _ => (br_wp (zt_wp (hQ _ _)) (zt_wp (hQ _ _)))))))) (br_wp (br_wp (zt_wp (hQ _ _)) (wp_w_nth (fun _ _ => (wp_w_theoremOf (fun _ _ => (br_wp (zt_wp (hQ _ _)) (zt_wp (hQ _ _)))))))) (br_wp (br_wp (zt_wp (hQ _ _)) (wp_w_nth (fun _ _ => (wp_w_isTermList (fun _ _ => (br_wp (zt_wp (hQ _ _)) (zt_wp (hQ _ _)))))))) (br_wp (br_wp (zt_wp (hQ _ _)) (wp_w_nth (fun _ _ => (wp_w_termOf (fun _ _ => (br_wp (zt_wp (hQ _ _)) (zt_wp (hQ _ _)))))))) (br_wp (br_wp (zt_wp (hQ _ _)) (bd_wp (rd_wp fun _ => (bd_wp (rd_wp fun _ => (wp_w_arePairs (fun _ _ => (br_wp (zt_wp (hQ _ _)) (zt_wp (hQ _ _)))))))))) (br_wp (br_wp (zt_wp (hQ _ _)) (zt_wp (hQ _ _))) (br_wp (br_wp (zt_wp (hQ _ _)) (zt_wp (hQ _ _))) (zt_wp (hQ _ _))))))))))))))))))))) (zt_wp (hQ _ _)))))
