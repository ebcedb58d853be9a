def pw_beginProof (a0 : Int) (Q : iST → Prop) (u : iST) : Prop :=
  rd (u.1 61) (fun v1 => 
  br (v1 = 0) (
    rd (u.1 144) (fun v2 => 
    br (v2 ≠ 40) (
      pw_isStep (fun v3 u => 
      br (v3 ≠ 0) (
        pw_isForm a0 (fun v4 u => 
        br (v4 ≠ 0) (
          rd (u.1 144) (fun v5 => 
          bdp v5 40 (sw (iA u 141 v5 a0) (fun u => 
          rd (u.1 144) (fun v6 => 
          bdp a0 452000 (rd (u.2.1 0 a0) (fun v7 => 
          pw_partsFrom v7 (fun v8 u => 
          bdp v6 40 (sw (iA u 142 v6 v8) (fun u => 
          rd (u.1 144) (fun v9 => 
          rd (u.1 147) (fun v10 => 
          bdp v9 40 (sw (iA u 143 v9 v10) (fun u => 
          rd (u.1 144) (fun v11 => 
          ovp (v11 + 1) (
          sw (iI u 144 (v11 + 1)) (fun u => 
          Q u)))))))))) u))))))) (
          sw (iI u 148 a0) (fun u => 
          Q u))) u) (
        Q u)) u) (
      pw_fail 2 (fun u => 
      Q u) u))) (
    Q u))
theorem cj_w_beginProof {Q1 Q2 Q3 : iST → Prop}  {a0 : Int} {u : iST} (hQ : ∀ r0, Q1 r0 → Q2 r0 → Q3 r0) : w_beginProof a0 Q1 u → pw_beginProof a0 Q2 u → w_beginProof a0 Q3 u := (rd_cj fun _ => (br_cj (rd_cj fun _ => (br_cj (cj_w_isStep (fun _ _ => (br_cj (cj_w_isForm (fun _ _ => (br_cj (rd_cj fun _ => (bd_cj (sw_cj fun _ => (rd_cj fun _ => (bd_cj (rd_cj fun _ => (cj_w_partsFrom (fun _ _ => (bd_cj (sw_cj fun _ => (rd_cj fun _ => (rd_cj fun _ => (bd_cj (sw_cj fun _ => (rd_cj fun _ => (ov_cj (sw_cj fun _ => (hQ _)))))))))))))))))) (sw_cj fun _ => (hQ _))))) (hQ _)))) (cj_w_fail (fun _ => (hQ _))))) (hQ _)))
theorem mn_w_beginProof {Q1 Q2 : iST → Prop}  {a0 : Int} {u : iST} (hQ : ∀ r0, Q1 r0 → Q2 r0) : pw_beginProof a0 Q1 u → pw_beginProof a0 Q2 u := (rd_mn fun _ => (br_mn (rd_mn fun _ => (br_mn (mn_w_isStep (fun _ _ => (br_mn (mn_w_isForm (fun _ _ => (br_mn (rd_mn fun _ => (bd_mn (sw_mn fun _ => (rd_mn fun _ => (bd_mn (rd_mn fun _ => (mn_w_partsFrom (fun _ _ => (bd_mn (sw_mn fun _ => (rd_mn fun _ => (rd_mn fun _ => (bd_mn (sw_mn fun _ => (rd_mn fun _ => (ov_mn (sw_mn fun _ => (hQ _)))))))))))))))))) (sw_mn fun _ => (hQ _))))) (hQ _)))) (mn_w_fail (fun _ => (hQ _))))) (hQ _)))
theorem wp_w_beginProof {Q1 Q2 : iST → Prop}  {a0 : Int} {u : iST} (hQ : ∀ r0, Q1 r0 → Q2 r0) : w_beginProof a0 Q1 u → pw_beginProof a0 Q2 u := (rd_wp fun _ => (br_wp (rd_wp fun _ => (br_wp (wp_w_isStep (fun _ _ => (br_wp (wp_w_isForm (fun _ _ => (br_wp (rd_wp fun _ => (bd_wp (sw_wp fun _ => (rd_wp fun _ => (bd_wp (rd_wp fun _ => (wp_w_partsFrom (fun _ _ => (bd_wp (sw_wp fun _ => (rd_wp fun _ => (rd_wp fun _ => (bd_wp (sw_wp fun _ => (rd_wp fun _ => (ov_wp (sw_wp fun _ => (hQ _)))))))))))))))))) (sw_wp fun _ => (hQ _))))) (hQ _)))) (wp_w_fail (fun _ => (hQ _))))) (hQ _)))
def pw_pour_2b (R2 : Int → Int → Int → iST → Prop) (Q : iST → Prop) (x1 : Int) (x2 : Int) (x3 : Int) (u : iST) : Prop :=
  bdp x1 350 (rd (u.2.1 146 x1) (fun v1 => 
  br (v1 ≤ x3) (
    Q u) (
    ovp (30 * x1) (
    ovp ((30 * x1) + x3) (
    bdp ((30 * x1) + x3) 10500 (rd (u.2.1 145 ((30 * x1) + x3)) (fun v4 => 
    br (v4 = x2) (
      ovp (x3 + 1) (
      R2 x1 x2 (x3 + 1) u)) (
      ovp (30 * x1) (
      ovp ((30 * x1) + x3) (
      bdp ((30 * x1) + x3) 10500 (rd (u.2.1 145 ((30 * x1) + x3)) (fun v8 => 
      pw_put v8 (fun u => 
      ovp (x3 + 1) (
      R2 x1 x2 (x3 + 1) u)) u))))))))))))
theorem cj_w_pour_2b {Q1 Q2 Q3 : iST → Prop} {R21 R22 R23 : Int → Int → Int → iST → Prop} {x1 : Int} {x2 : Int} {x3 : Int} {u : iST} (hR2 : ∀ r0 r1 r2 r3, R21 r0 r1 r2 r3 → R22 r0 r1 r2 r3 → R23 r0 r1 r2 r3) (hQ : ∀ r0, Q1 r0 → Q2 r0 → Q3 r0) : w_pour_2b R21 Q1 x1 x2 x3 u → pw_pour_2b R22 Q2 x1 x2 x3 u → w_pour_2b R23 Q3 x1 x2 x3 u := (bd_cj (rd_cj fun _ => (br_cj (hQ _) (ov_cj (ov_cj (bd_cj (rd_cj fun _ => (br_cj (ov_cj (hR2 _ _ _ _)) (ov_cj (ov_cj (bd_cj (rd_cj fun _ => (cj_w_put (fun _ => (ov_cj (hR2 _ _ _ _))))))))))))))))
theorem mn_w_pour_2b {Q1 Q2 : iST → Prop} {R21 R22 : Int → Int → Int → iST → Prop} {x1 : Int} {x2 : Int} {x3 : Int} {u : iST} (hR2 : ∀ r0 r1 r2 r3, R21 r0 r1 r2 r3 → R22 r0 r1 r2 r3) (hQ : ∀ r0, Q1 r0 → Q2 r0) : pw_pour_2b R21 Q1 x1 x2 x3 u → pw_pour_2b R22 Q2 x1 x2 x3 u := (bd_mn (rd_mn fun _ => (br_mn (hQ _) (ov_mn (ov_mn (bd_mn (rd_mn fun _ => (br_mn (ov_mn (hR2 _ _ _ _)) (ov_mn (ov_mn (bd_mn (rd_mn fun _ => (mn_w_put (fun _ => (ov_mn (hR2 _ _ _ _))))))))))))))))
theorem wp_w_pour_2b {Q1 Q2 : iST → Prop} {R21 R22 : Int → Int → Int → iST → Prop} {x1 : Int} {x2 : Int} {x3 : Int} {u : iST} (hR2 : ∀ r0 r1 r2 r3, R21 r0 r1 r2 r3 → R22 r0 r1 r2 r3) (hQ : ∀ r0, Q1 r0 → Q2 r0) : w_pour_2b R21 Q1 x1 x2 x3 u → pw_pour_2b R22 Q2 x1 x2 x3 u := (bd_wp (rd_wp fun _ => (br_wp (hQ _) (ov_wp (ov_wp (bd_wp (rd_wp fun _ => (br_wp (ov_wp (hR2 _ _ _ _)) (ov_wp (ov_wp (bd_wp (rd_wp fun _ => (wp_w_put (fun _ => (ov_wp (hR2 _ _ _ _))))))))))))))))
def pw_pour_2 (Q : iST → Prop) (x1 : Int) (x2 : Int) (x3 : Int) (u : iST) : Prop := ∃ R2 : Int → Int → Int → iST → Prop, (∀ (x1 : Int) (x2 : Int) (x3 : Int) (u : iST), R2 x1 x2 x3 u → pw_pour_2b R2 Q x1 x2 x3 u) ∧ R2 x1 x2 x3 u
theorem cj_w_pour_2 {Q1 Q2 Q3 : iST → Prop}  {x1 : Int} {x2 : Int} {x3 : Int} {u : iST} (hQ : ∀ r0, Q1 r0 → Q2 r0 → Q3 r0) : w_pour_2 Q1 x1 x2 x3 u → pw_pour_2 Q2 x1 x2 x3 u → w_pour_2 Q3 x1 x2 x3 u := by
  intro a b R3 c3
  obtain ⟨R2, c2, b2⟩ := b
  exact a (fun r0 r1 r2 r3 => R2 r0 r1 r2 r3 → R3 r0 r1 r2 r3) (fun r0 r1 r2 r3 a b => c3 r0 r1 r2 r3 (cj_w_pour_2b (fun r0 r1 r2 r3 a b => a b) hQ a (c2 r0 r1 r2 r3 b))) b2
theorem pw_pour_2_i  {Q : iST → Prop} {x1 : Int} {x2 : Int} {x3 : Int} {u : iST} (I : Int → Int → Int → iST → Prop) (s : ∀ (x1 : Int) (x2 : Int) (x3 : Int) (u : iST), I x1 x2 x3 u → pw_pour_2b I Q x1 x2 x3 u) (h : I x1 x2 x3 u) : pw_pour_2 Q x1 x2 x3 u := ⟨I, s, h⟩
theorem mn_w_pour_2 {Q1 Q2 : iST → Prop}  {x1 : Int} {x2 : Int} {x3 : Int} {u : iST} (hQ : ∀ r0, Q1 r0 → Q2 r0) : pw_pour_2 Q1 x1 x2 x3 u → pw_pour_2 Q2 x1 x2 x3 u := fun ⟨R, s, h⟩ => ⟨R, fun r0 r1 r2 r3 a => mn_w_pour_2b (fun r0 r1 r2 r3 a => a) hQ (s r0 r1 r2 r3 a), h⟩
theorem un_w_pour_2  {Q : iST → Prop} {x1 : Int} {x2 : Int} {x3 : Int} {u : iST} : pw_pour_2 Q x1 x2 x3 u → pw_pour_2b (fun x1 x2 x3 u => pw_pour_2 Q x1 x2 x3 u) Q x1 x2 x3 u := fun ⟨R, s, h⟩ => mn_w_pour_2b (fun r0 r1 r2 r3 a => ⟨R, s, a⟩) (fun _ h => h) (s _ _ _ _ h)
theorem fo_w_pour_2  {Q : iST → Prop} {x1 : Int} {x2 : Int} {x3 : Int} {u : iST} : pw_pour_2b (fun x1 x2 x3 u => pw_pour_2 Q x1 x2 x3 u) Q x1 x2 x3 u → pw_pour_2 Q x1 x2 x3 u := fun h => ⟨fun x1 x2 x3 u => pw_pour_2b (fun x1 x2 x3 u => pw_pour_2 Q x1 x2 x3 u) Q x1 x2 x3 u, fun r0 r1 r2 r3 a => mn_w_pour_2b (fun r0 r1 r2 r3 a => un_w_pour_2 a) (fun _ h => h) a, h⟩
theorem wp_w_pour_2 {Q1 Q2 : iST → Prop}  {x1 : Int} {x2 : Int} {x3 : Int} {u : iST} (hQ : ∀ r0, Q1 r0 → Q2 r0) : w_pour_2 Q1 x1 x2 x3 u → pw_pour_2 Q2 x1 x2 x3 u := fun a => a (fun x1 x2 x3 u => pw_pour_2 Q2 x1 x2 x3 u) (fun x1 x2 x3 u b => fo_w_pour_2 (wp_w_pour_2b (fun r0 r1 r2 r3 a => a) hQ b))
def pw_pour (a0 : Int) (a1 : Int) (Q : iST → Prop) (u : iST) : Prop :=
  pw_pour_2 Q a0 a1 0 u
theorem cj_w_pour {Q1 Q2 Q3 : iST → Prop}  {a0 : Int} {a1 : Int} {u : iST} (hQ : ∀ r0, Q1 r0 → Q2 r0 → Q3 r0) : w_pour a0 a1 Q1 u → pw_pour a0 a1 Q2 u → w_pour a0 a1 Q3 u := (cj_w_pour_2  hQ)
theorem mn_w_pour {Q1 Q2 : iST → Prop}  {a0 : Int} {a1 : Int} {u : iST} (hQ : ∀ r0, Q1 r0 → Q2 r0) : pw_pour a0 a1 Q1 u → pw_pour a0 a1 Q2 u := (mn_w_pour_2  hQ)
theorem wp_w_pour {Q1 Q2 : iST → Prop}  {a0 : Int} {a1 : Int} {u : iST} (hQ : ∀ r0, Q1 r0 → Q2 r0) : w_pour a0 a1 Q1 u → pw_pour a0 a1 Q2 u := (wp_w_pour_2  hQ)
def pw_has_2b (R2 : Int → Int → Int → iST → Prop) (Q : Int → iST → Prop) (x1 : Int) (x2 : Int) (x3 : Int) (u : iST) : Prop :=
  bdp x1 350 (rd (u.2.1 146 x1) (fun v1 => 
  br (v1 ≤ x3) (
    ztp 0 (Q 0 u)) (
    ovp (30 * x1) (
    ovp ((30 * x1) + x3) (
    bdp ((30 * x1) + x3) 10500 (rd (u.2.1 145 ((30 * x1) + x3)) (fun v4 => 
    br (v4 ≠ x2) (
      ovp (x3 + 1) (
      R2 x1 x2 (x3 + 1) u)) (
      ztp 1 (Q 1 u)))))))))
theorem cj_w_has_2b {Q1 Q2 Q3 : Int → iST → Prop} {R21 R22 R23 : Int → Int → Int → iST → Prop} {x1 : Int} {x2 : Int} {x3 : Int} {u : iST} (hR2 : ∀ r0 r1 r2 r3, R21 r0 r1 r2 r3 → R22 r0 r1 r2 r3 → R23 r0 r1 r2 r3) (hQ : ∀ r0 r1, Q1 r0 r1 → Q2 r0 r1 → Q3 r0 r1) : w_has_2b R21 Q1 x1 x2 x3 u → pw_has_2b R22 Q2 x1 x2 x3 u → w_has_2b R23 Q3 x1 x2 x3 u := (bd_cj (rd_cj fun _ => (br_cj (zt_cj (hQ _ _)) (ov_cj (ov_cj (bd_cj (rd_cj fun _ => (br_cj (ov_cj (hR2 _ _ _ _)) (zt_cj (hQ _ _))))))))))
theorem mn_w_has_2b {Q1 Q2 : Int → iST → Prop} {R21 R22 : Int → Int → Int → iST → Prop} {x1 : Int} {x2 : Int} {x3 : Int} {u : iST} (hR2 : ∀ r0 r1 r2 r3, R21 r0 r1 r2 r3 → R22 r0 r1 r2 r3) (hQ : ∀ r0 r1, Q1 r0 r1 → Q2 r0 r1) : pw_has_2b R21 Q1 x1 x2 x3 u → pw_has_2b R22 Q2 x1 x2 x3 u := (bd_mn (rd_mn fun _ => (br_mn (zt_mn (hQ _ _)) (ov_mn (ov_mn (bd_mn (rd_mn fun _ => (br_mn (ov_mn (hR2 _ _ _ _)) (zt_mn (hQ _ _))))))))))
theorem wp_w_has_2b {Q1 Q2 : Int → iST → Prop} {R21 R22 : Int → Int → Int → iST → Prop} {x1 : Int} {x2 : Int} {x3 : Int} {u : iST} (hR2 : ∀ r0 r1 r2 r3, R21 r0 r1 r2 r3 → R22 r0 r1 r2 r3) (hQ : ∀ r0 r1, Q1 r0 r1 → Q2 r0 r1) : w_has_2b R21 Q1 x1 x2 x3 u → pw_has_2b R22 Q2 x1 x2 x3 u := (bd_wp (rd_wp fun _ => (br_wp (zt_wp (hQ _ _)) (ov_wp (ov_wp (bd_wp (rd_wp fun _ => (br_wp (ov_wp (hR2 _ _ _ _)) (zt_wp (hQ _ _))))))))))
def pw_has_2 (Q : Int → iST → Prop) (x1 : Int) (x2 : Int) (x3 : Int) (u : iST) : Prop := ∃ R2 : Int → Int → Int → iST → Prop, (∀ (x1 : Int) (x2 : Int) (x3 : Int) (u : iST), R2 x1 x2 x3 u → pw_has_2b R2 Q x1 x2 x3 u) ∧ R2 x1 x2 x3 u
theorem cj_w_has_2 {Q1 Q2 Q3 : Int → iST → Prop}  {x1 : Int} {x2 : Int} {x3 : Int} {u : iST} (hQ : ∀ r0 r1, Q1 r0 r1 → Q2 r0 r1 → Q3 r0 r1) : w_has_2 Q1 x1 x2 x3 u → pw_has_2 Q2 x1 x2 x3 u → w_has_2 Q3 x1 x2 x3 u := by
  intro a b R3 c3
  obtain ⟨R2, c2, b2⟩ := b
  exact a (fun r0 r1 r2 r3 => R2 r0 r1 r2 r3 → R3 r0 r1 r2 r3) (fun r0 r1 r2 r3 a b => c3 r0 r1 r2 r3 (cj_w_has_2b (fun r0 r1 r2 r3 a b => a b) hQ a (c2 r0 r1 r2 r3 b))) b2
theorem pw_has_2_i  {Q : Int → iST → Prop} {x1 : Int} {x2 : Int} {x3 : Int} {u : iST} (I : Int → Int → Int → iST → Prop) (s : ∀ (x1 : Int) (x2 : Int) (x3 : Int) (u : iST), I x1 x2 x3 u → pw_has_2b I Q x1 x2 x3 u) (h : I x1 x2 x3 u) : pw_has_2 Q x1 x2 x3 u := ⟨I, s, h⟩
theorem mn_w_has_2 {Q1 Q2 : Int → iST → Prop}  {x1 : Int} {x2 : Int} {x3 : Int} {u : iST} (hQ : ∀ r0 r1, Q1 r0 r1 → Q2 r0 r1) : pw_has_2 Q1 x1 x2 x3 u → pw_has_2 Q2 x1 x2 x3 u := fun ⟨R, s, h⟩ => ⟨R, fun r0 r1 r2 r3 a => mn_w_has_2b (fun r0 r1 r2 r3 a => a) hQ (s r0 r1 r2 r3 a), h⟩
theorem un_w_has_2  {Q : Int → iST → Prop} {x1 : Int} {x2 : Int} {x3 : Int} {u : iST} : pw_has_2 Q x1 x2 x3 u → pw_has_2b (fun x1 x2 x3 u => pw_has_2 Q x1 x2 x3 u) Q x1 x2 x3 u := fun ⟨R, s, h⟩ => mn_w_has_2b (fun r0 r1 r2 r3 a => ⟨R, s, a⟩) (fun _ _ h => h) (s _ _ _ _ h)
theorem fo_w_has_2  {Q : Int → iST → Prop} {x1 : Int} {x2 : Int} {x3 : Int} {u : iST} : pw_has_2b (fun x1 x2 x3 u => pw_has_2 Q x1 x2 x3 u) Q x1 x2 x3 u → pw_has_2 Q x1 x2 x3 u := fun h => ⟨fun x1 x2 x3 u => pw_has_2b (fun x1 x2 x3 u => pw_has_2 Q x1 x2 x3 u) Q x1 x2 x3 u, fun r0 r1 r2 r3 a => mn_w_has_2b (fun r0 r1 r2 r3 a => un_w_has_2 a) (fun _ _ h => h) a, h⟩
theorem wp_w_has_2 {Q1 Q2 : Int → iST → Prop}  {x1 : Int} {x2 : Int} {x3 : Int} {u : iST} (hQ : ∀ r0 r1, Q1 r0 r1 → Q2 r0 r1) : w_has_2 Q1 x1 x2 x3 u → pw_has_2 Q2 x1 x2 x3 u := fun a => a (fun x1 x2 x3 u => pw_has_2 Q2 x1 x2 x3 u) (fun x1 x2 x3 u b => fo_w_has_2 (wp_w_has_2b (fun r0 r1 r2 r3 a => a) hQ b))
def pw_has (a0 : Int) (a1 : Int) (Q : Int → iST → Prop) (u : iST) : Prop :=
  pw_has_2 Q a0 a1 0 u
theorem cj_w_has {Q1 Q2 Q3 : Int → iST → Prop}  {a0 : Int} {a1 : Int} {u : iST} (hQ : ∀ r0 r1, Q1 r0 r1 → Q2 r0 r1 → Q3 r0 r1) : w_has a0 a1 Q1 u → pw_has a0 a1 Q2 u → w_has a0 a1 Q3 u := (cj_w_has_2  hQ)
theorem mn_w_has {Q1 Q2 : Int → iST → Prop}  {a0 : Int} {a1 : Int} {u : iST} (hQ : ∀ r0 r1, Q1 r0 r1 → Q2 r0 r1) : pw_has a0 a1 Q1 u → pw_has a0 a1 Q2 u := (mn_w_has_2  hQ)
theorem wp_w_has {Q1 Q2 : Int → iST → Prop}  {a0 : Int} {a1 : Int} {u : iST} (hQ : ∀ r0 r1, Q1 r0 r1 → Q2 r0 r1) : w_has a0 a1 Q1 u → pw_has a0 a1 Q2 u := (wp_w_has_2  hQ)
def pw_beginsEqual (a0 : Int) (Q : Int → iST → Prop) (u : iST) : Prop :=
  bdp a0 350 (rd (u.2.1 146 a0) (fun v1 => 
  br (v1 ≤ 0) (
    ztp 0 (Q 0 u)) (
    ovp (30 * a0) (
    bdp (30 * a0) 10500 (rd (u.2.1 145 (30 * a0)) (fun v3 => 
    pw_isCallOf v3 4 (fun v4 u => 
    br (v4 = 0) (
      ztp 0 (Q 0 u)) (
      ztp 1 (Q 1 u))) u))))))
theorem cj_w_beginsEqual {Q1 Q2 Q3 : Int → iST → Prop}  {a0 : Int} {u : iST} (hQ : ∀ r0 r1, Q1 r0 r1 → Q2 r0 r1 → Q3 r0 r1) : w_beginsEqual a0 Q1 u → pw_beginsEqual a0 Q2 u → w_beginsEqual a0 Q3 u := (bd_cj (rd_cj fun _ => (br_cj (zt_cj (hQ _ _)) (ov_cj (bd_cj (rd_cj fun _ => (cj_w_isCallOf (fun _ _ => (br_cj (zt_cj (hQ _ _)) (zt_cj (hQ _ _)))))))))))
theorem mn_w_beginsEqual {Q1 Q2 : Int → iST → Prop}  {a0 : Int} {u : iST} (hQ : ∀ r0 r1, Q1 r0 r1 → Q2 r0 r1) : pw_beginsEqual a0 Q1 u → pw_beginsEqual a0 Q2 u := (bd_mn (rd_mn fun _ => (br_mn (zt_mn (hQ _ _)) (ov_mn (bd_mn (rd_mn fun _ => (mn_w_isCallOf (fun _ _ => (br_mn (zt_mn (hQ _ _)) (zt_mn (hQ _ _)))))))))))
theorem wp_w_beginsEqual {Q1 Q2 : Int → iST → Prop}  {a0 : Int} {u : iST} (hQ : ∀ r0 r1, Q1 r0 r1 → Q2 r0 r1) : w_beginsEqual a0 Q1 u → pw_beginsEqual a0 Q2 u := (bd_wp (rd_wp fun _ => (br_wp (zt_wp (hQ _ _)) (ov_wp (bd_wp (rd_wp fun _ => (wp_w_isCallOf (fun _ _ => (br_wp (zt_wp (hQ _ _)) (zt_wp (hQ _ _)))))))))))
def pw_defined_7b (R7 : Int → Int → Int → iST → Prop) (Q : iST → Prop) (x1 : Int) (x2 : Int) (x3 : Int) (u : iST) : Prop :=
  bdp x1 40 (rd (u.2.1 37 x1) (fun v2 => 
  br (v2 ≤ x3) (
    bdp x1 40 (rd (u.2.1 36 x1) (fun v3 => 
    pw_callFrom v3 x2 (fun v4 u => 
    sw (iI u 71 x2) (fun u => 
    bdp x1 40 (rd (u.2.1 39 x1) (fun v5 => 
    pw_made2 4 v4 v5 (fun v6 u => 
    pw_put v6 (fun u => 
    Q u) u) u)))) u))) (
    ovp (6 * x1) (
    ovp ((6 * x1) + x3) (
    bdp ((6 * x1) + x3) 240 (rd (u.2.1 38 ((6 * x1) + x3)) (fun v10 => 
    pw_build v10 (fun u => 
    ovp (x3 + 1) (
    R7 x1 x2 (x3 + 1) u)) u)))))))
theorem cj_w_defined_7b {Q1 Q2 Q3 : iST → Prop} {R71 R72 R73 : Int → Int → Int → iST → Prop} {x1 : Int} {x2 : Int} {x3 : Int} {u : iST} (hR7 : ∀ r0 r1 r2 r3, R71 r0 r1 r2 r3 → R72 r0 r1 r2 r3 → R73 r0 r1 r2 r3) (hQ : ∀ r0, Q1 r0 → Q2 r0 → Q3 r0) : w_defined_7b R71 Q1 x1 x2 x3 u → pw_defined_7b R72 Q2 x1 x2 x3 u → w_defined_7b R73 Q3 x1 x2 x3 u := (bd_cj (rd_cj fun _ => (br_cj (bd_cj (rd_cj fun _ => (cj_w_callFrom (fun _ _ => (sw_cj fun _ => (bd_cj (rd_cj fun _ => (cj_w_made2 (fun _ _ => (cj_w_put (fun _ => (hQ _)))))))))))) (ov_cj (ov_cj (bd_cj (rd_cj fun _ => (cj_w_build (fun _ => (ov_cj (hR7 _ _ _ _)))))))))))
theorem mn_w_defined_7b {Q1 Q2 : iST → Prop} {R71 R72 : Int → Int → Int → iST → Prop} {x1 : Int} {x2 : Int} {x3 : Int} {u : iST} (hR7 : ∀ r0 r1 r2 r3, R71 r0 r1 r2 r3 → R72 r0 r1 r2 r3) (hQ : ∀ r0, Q1 r0 → Q2 r0) : pw_defined_7b R71 Q1 x1 x2 x3 u → pw_defined_7b R72 Q2 x1 x2 x3 u := (bd_mn (rd_mn fun _ => (br_mn (bd_mn (rd_mn fun _ => (mn_w_callFrom (fun _ _ => (sw_mn fun _ => (bd_mn (rd_mn fun _ => (mn_w_made2 (fun _ _ => (mn_w_put (fun _ => (hQ _)))))))))))) (ov_mn (ov_mn (bd_mn (rd_mn fun _ => (mn_w_build (fun _ => (ov_mn (hR7 _ _ _ _)))))))))))
theorem wp_w_defined_7b {Q1 Q2 : iST → Prop} {R71 R72 : Int → Int → Int → iST → Prop} {x1 : Int} {x2 : Int} {x3 : Int} {u : iST} (hR7 : ∀ r0 r1 r2 r3, R71 r0 r1 r2 r3 → R72 r0 r1 r2 r3) (hQ : ∀ r0, Q1 r0 → Q2 r0) : w_defined_7b R71 Q1 x1 x2 x3 u → pw_defined_7b R72 Q2 x1 x2 x3 u := (bd_wp (rd_wp fun _ => (br_wp (bd_wp (rd_wp fun _ => (wp_w_callFrom (fun _ _ => (sw_wp fun _ => (bd_wp (rd_wp fun _ => (wp_w_made2 (fun _ _ => (wp_w_put (fun _ => (hQ _)))))))))))) (ov_wp (ov_wp (bd_wp (rd_wp fun _ => (wp_w_build (fun _ => (ov_wp (hR7 _ _ _ _)))))))))))
def pw_defined_7 (Q : iST → Prop) (x1 : Int) (x2 : Int) (x3 : Int) (u : iST) : Prop := ∃ R7 : Int → Int → Int → iST → Prop, (∀ (x1 : Int) (x2 : Int) (x3 : Int) (u : iST), R7 x1 x2 x3 u → pw_defined_7b R7 Q x1 x2 x3 u) ∧ R7 x1 x2 x3 u
theorem cj_w_defined_7 {Q1 Q2 Q3 : iST → Prop}  {x1 : Int} {x2 : Int} {x3 : Int} {u : iST} (hQ : ∀ r0, Q1 r0 → Q2 r0 → Q3 r0) : w_defined_7 Q1 x1 x2 x3 u → pw_defined_7 Q2 x1 x2 x3 u → w_defined_7 Q3 x1 x2 x3 u := by
  intro a b R3 c3
  obtain ⟨R2, c2, b2⟩ := b
  exact a (fun r0 r1 r2 r3 => R2 r0 r1 r2 r3 → R3 r0 r1 r2 r3) (fun r0 r1 r2 r3 a b => c3 r0 r1 r2 r3 (cj_w_defined_7b (fun r0 r1 r2 r3 a b => a b) hQ a (c2 r0 r1 r2 r3 b))) b2
theorem pw_defined_7_i  {Q : iST → Prop} {x1 : Int} {x2 : Int} {x3 : Int} {u : iST} (I : Int → Int → Int → iST → Prop) (s : ∀ (x1 : Int) (x2 : Int) (x3 : Int) (u : iST), I x1 x2 x3 u → pw_defined_7b I Q x1 x2 x3 u) (h : I x1 x2 x3 u) : pw_defined_7 Q x1 x2 x3 u := ⟨I, s, h⟩
theorem mn_w_defined_7 {Q1 Q2 : iST → Prop}  {x1 : Int} {x2 : Int} {x3 : Int} {u : iST} (hQ : ∀ r0, Q1 r0 → Q2 r0) : pw_defined_7 Q1 x1 x2 x3 u → pw_defined_7 Q2 x1 x2 x3 u := fun ⟨R, s, h⟩ => ⟨R, fun r0 r1 r2 r3 a => mn_w_defined_7b (fun r0 r1 r2 r3 a => a) hQ (s r0 r1 r2 r3 a), h⟩
theorem un_w_defined_7  {Q : iST → Prop} {x1 : Int} {x2 : Int} {x3 : Int} {u : iST} : pw_defined_7 Q x1 x2 x3 u → pw_defined_7b (fun x1 x2 x3 u => pw_defined_7 Q x1 x2 x3 u) Q x1 x2 x3 u := fun ⟨R, s, h⟩ => mn_w_defined_7b (fun r0 r1 r2 r3 a => ⟨R, s, a⟩) (fun _ h => h) (s _ _ _ _ h)
theorem fo_w_defined_7  {Q : iST → Prop} {x1 : Int} {x2 : Int} {x3 : Int} {u : iST} : pw_defined_7b (fun x1 x2 x3 u => pw_defined_7 Q x1 x2 x3 u) Q x1 x2 x3 u → pw_defined_7 Q x1 x2 x3 u := fun h => ⟨fun x1 x2 x3 u => pw_defined_7b (fun x1 x2 x3 u => pw_defined_7 Q x1 x2 x3 u) Q x1 x2 x3 u, fun r0 r1 r2 r3 a => mn_w_defined_7b (fun r0 r1 r2 r3 a => un_w_defined_7 a) (fun _ h => h) a, h⟩
theorem wp_w_defined_7 {Q1 Q2 : iST → Prop}  {x1 : Int} {x2 : Int} {x3 : Int} {u : iST} (hQ : ∀ r0, Q1 r0 → Q2 r0) : w_defined_7 Q1 x1 x2 x3 u → pw_defined_7 Q2 x1 x2 x3 u := fun a => a (fun x1 x2 x3 u => pw_defined_7 Q2 x1 x2 x3 u) (fun x1 x2 x3 u b => fo_w_defined_7 (wp_w_defined_7b (fun r0 r1 r2 r3 a => a) hQ b))
def pw_defined (a0 : Int) (Q : iST → Prop) (u : iST) : Prop :=
  rd (u.1 71) (fun v1 => 
  pw_defined_7 Q a0 v1 0 u)
theorem cj_w_defined {Q1 Q2 Q3 : iST → Prop}  {a0 : Int} {u : iST} (hQ : ∀ r0, Q1 r0 → Q2 r0 → Q3 r0) : w_defined a0 Q1 u → pw_defined a0 Q2 u → w_defined a0 Q3 u := (rd_cj fun _ => (cj_w_defined_7  hQ))
theorem mn_w_defined {Q1 Q2 : iST → Prop}  {a0 : Int} {u : iST} (hQ : ∀ r0, Q1 r0 → Q2 r0) : pw_defined a0 Q1 u → pw_defined a0 Q2 u := (rd_mn fun _ => (mn_w_defined_7  hQ))
theorem wp_w_defined {Q1 Q2 : iST → Prop}  {a0 : Int} {u : iST} (hQ : ∀ r0, Q1 r0 → Q2 r0) : w_defined a0 Q1 u → pw_defined a0 Q2 u := (rd_wp fun _ => (wp_w_defined_7  hQ))
def pw_instanced_30b (R2 : Int → Int → Int → iST → Prop) (R30 : Int → Int → Int → Int → iST → Prop) (Q : Int → iST → Prop) (x1 : Int) (x2 : Int) (x3 : Int) (x4 : Int) (u : iST) : Prop :=
  br (x4 = 0) (
    ovp (30 * x2) (
    ovp ((30 * x2) + x3) (
    bdp ((30 * x2) + x3) 10500 (rd (u.2.1 145 ((30 * x2) + x3)) (fun v6 => 
    pw_instance v6 (fun v7 u => 
    pw_put v7 (fun u => 
    ovp (x3 + 1) (
    R2 x1 x2 (x3 + 1) u)) u) u))))) (
    bdp x4 452000 (rd (u.2.1 0 x4) (fun v10 => 
    pw_nth v10 1 (fun v11 u => 
    pw_termOf v11 (fun v12 u => 
    rd (u.1 74) (fun v13 => 
    bdp x4 452000 (rd (u.2.1 0 x4) (fun v14 => 
    bdp v14 452000 (rd (u.2.1 0 v14) (fun v15 => 
    bdp v13 400 (sw (iA u 72 v13 v15) (fun u => 
    rd (u.1 74) (fun v16 => 
    bdp v16 400 (sw (iA u 73 v16 v12) (fun u => 
    rd (u.1 74) (fun v17 => 
    ovp (v17 + 1) (
    sw (iI u 74 (v17 + 1)) (fun u => 
    bdp x4 452000 (rd (u.2.1 1 x4) (fun v19 => 
    R30 x1 x2 x3 v19 u)))))))))))))))) u) u)))
theorem cj_w_instanced_30b {Q1 Q2 Q3 : Int → iST → Prop} {R21 R22 R23 : Int → Int → Int → iST → Prop} {R301 R302 R303 : Int → Int → Int → Int → iST → Prop} {x1 : Int} {x2 : Int} {x3 : Int} {x4 : Int} {u : iST} (hR2 : ∀ r0 r1 r2 r3, R21 r0 r1 r2 r3 → R22 r0 r1 r2 r3 → R23 r0 r1 r2 r3) (hR30 : ∀ r0 r1 r2 r3 r4, R301 r0 r1 r2 r3 r4 → R302 r0 r1 r2 r3 r4 → R303 r0 r1 r2 r3 r4) (hQ : ∀ r0 r1, Q1 r0 r1 → Q2 r0 r1 → Q3 r0 r1) : w_instanced_30b R21 R301 Q1 x1 x2 x3 x4 u → pw_instanced_30b R22 R302 Q2 x1 x2 x3 x4 u → w_instanced_30b R23 R303 Q3 x1 x2 x3 x4 u := (br_cj (ov_cj (ov_cj (bd_cj (rd_cj fun _ => (cj_w_instance (fun _ _ => (cj_w_put (fun _ => (ov_cj (hR2 _ _ _ _)))))))))) (bd_cj (rd_cj fun _ => (cj_w_nth (fun _ _ => (cj_w_termOf (fun _ _ => (rd_cj fun _ => (bd_cj (rd_cj fun _ => (bd_cj (rd_cj fun _ => (bd_cj (sw_cj fun _ => (rd_cj fun _ => (bd_cj (sw_cj fun _ => (rd_cj fun _ => (ov_cj (sw_cj fun _ => (bd_cj (rd_cj fun _ => (hR30 _ _ _ _ _)))))))))))))))))))))))
theorem mn_w_instanced_30b {Q1 Q2 : Int → iST → Prop} {R21 R22 : Int → Int → Int → iST → Prop} {R301 R302 : Int → Int → Int → Int → iST → Prop} {x1 : Int} {x2 : Int} {x3 : Int} {x4 : Int} {u : iST} (hR2 : ∀ r0 r1 r2 r3, R21 r0 r1 r2 r3 → R22 r0 r1 r2 r3) (hR30 : ∀ r0 r1 r2 r3 r4, R301 r0 r1 r2 r3 r4 → R302 r0 r1 r2 r3 r4) (hQ : ∀ r0 r1, Q1 r0 r1 → Q2 r0 r1) : pw_instanced_30b R21 R301 Q1 x1 x2 x3 x4 u → pw_instanced_30b R22 R302 Q2 x1 x2 x3 x4 u := (br_mn (ov_mn (ov_mn (bd_mn (rd_mn fun _ => (mn_w_instance (fun _ _ => (mn_w_put (fun _ => (ov_mn (hR2 _ _ _ _)))))))))) (bd_mn (rd_mn fun _ => (mn_w_nth (fun _ _ => (mn_w_termOf (fun _ _ => (rd_mn fun _ => (bd_mn (rd_mn fun _ => (bd_mn (rd_mn fun _ => (bd_mn (sw_mn fun _ => (rd_mn fun _ => (bd_mn (sw_mn fun _ => (rd_mn fun _ => (ov_mn (sw_mn fun _ => (bd_mn (rd_mn fun _ => (hR30 _ _ _ _ _)))))))))))))))))))))))
theorem wp_w_instanced_30b {Q1 Q2 : Int → iST → Prop} {R21 R22 : Int → Int → Int → iST → Prop} {R301 R302 : Int → Int → Int → Int → iST → Prop} {x1 : Int} {x2 : Int} {x3 : Int} {x4 : Int} {u : iST} (hR2 : ∀ r0 r1 r2 r3, R21 r0 r1 r2 r3 → R22 r0 r1 r2 r3) (hR30 : ∀ r0 r1 r2 r3 r4, R301 r0 r1 r2 r3 r4 → R302 r0 r1 r2 r3 r4) (hQ : ∀ r0 r1, Q1 r0 r1 → Q2 r0 r1) : w_instanced_30b R21 R301 Q1 x1 x2 x3 x4 u → pw_instanced_30b R22 R302 Q2 x1 x2 x3 x4 u := (br_wp (ov_wp (ov_wp (bd_wp (rd_wp fun _ => (wp_w_instance (fun _ _ => (wp_w_put (fun _ => (ov_wp (hR2 _ _ _ _)))))))))) (bd_wp (rd_wp fun _ => (wp_w_nth (fun _ _ => (wp_w_termOf (fun _ _ => (rd_wp fun _ => (bd_wp (rd_wp fun _ => (bd_wp (rd_wp fun _ => (bd_wp (sw_wp fun _ => (rd_wp fun _ => (bd_wp (sw_wp fun _ => (rd_wp fun _ => (ov_wp (sw_wp fun _ => (bd_wp (rd_wp fun _ => (hR30 _ _ _ _ _)))))))))))))))))))))))
def pw_instanced_30 (R2 : Int → Int → Int → iST → Prop) (Q : Int → iST → Prop) (x1 : Int) (x2 : Int) (x3 : Int) (x4 : Int) (u : iST) : Prop := ∃ R30 : Int → Int → Int → Int → iST → Prop, (∀ (x1 : Int) (x2 : Int) (x3 : Int) (x4 : Int) (u : iST), R30 x1 x2 x3 x4 u → pw_instanced_30b R2 R30 Q x1 x2 x3 x4 u) ∧ R30 x1 x2 x3 x4 u
theorem cj_w_instanced_30 {Q1 Q2 Q3 : Int → iST → Prop} {R21 R22 R23 : Int → Int → Int → iST → Prop} {x1 : Int} {x2 : Int} {x3 : Int} {x4 : Int} {u : iST} (hR2 : ∀ r0 r1 r2 r3, R21 r0 r1 r2 r3 → R22 r0 r1 r2 r3 → R23 r0 r1 r2 r3) (hQ : ∀ r0 r1, Q1 r0 r1 → Q2 r0 r1 → Q3 r0 r1) : w_instanced_30 R21 Q1 x1 x2 x3 x4 u → pw_instanced_30 R22 Q2 x1 x2 x3 x4 u → w_instanced_30 R23 Q3 x1 x2 x3 x4 u := by
  intro a b R3 c3
  obtain ⟨R2, c2, b2⟩ := b
  exact a (fun r0 r1 r2 r3 r4 => R2 r0 r1 r2 r3 r4 → R3 r0 r1 r2 r3 r4) (fun r0 r1 r2 r3 r4 a b => c3 r0 r1 r2 r3 r4 (cj_w_instanced_30b hR2 (fun r0 r1 r2 r3 r4 a b => a b) hQ a (c2 r0 r1 r2 r3 r4 b))) b2
theorem pw_instanced_30_i {R2 : Int → Int → Int → iST → Prop} {Q : Int → iST → Prop} {x1 : Int} {x2 : Int} {x3 : Int} {x4 : Int} {u : iST} (I : Int → Int → Int → Int → iST → Prop) (s : ∀ (x1 : Int) (x2 : Int) (x3 : Int) (x4 : Int) (u : iST), I x1 x2 x3 x4 u → pw_instanced_30b R2 I Q x1 x2 x3 x4 u) (h : I x1 x2 x3 x4 u) : pw_instanced_30 R2 Q x1 x2 x3 x4 u := ⟨I, s, h⟩
theorem mn_w_instanced_30 {Q1 Q2 : Int → iST → Prop} {R21 R22 : Int → Int → Int → iST → Prop} {x1 : Int} {x2 : Int} {x3 : Int} {x4 : Int} {u : iST} (hR2 : ∀ r0 r1 r2 r3, R21 r0 r1 r2 r3 → R22 r0 r1 r2 r3) (hQ : ∀ r0 r1, Q1 r0 r1 → Q2 r0 r1) : pw_instanced_30 R21 Q1 x1 x2 x3 x4 u → pw_instanced_30 R22 Q2 x1 x2 x3 x4 u := fun ⟨R, s, h⟩ => ⟨R, fun r0 r1 r2 r3 r4 a => mn_w_instanced_30b hR2 (fun r0 r1 r2 r3 r4 a => a) hQ (s r0 r1 r2 r3 r4 a), h⟩
theorem un_w_instanced_30 {R2 : Int → Int → Int → iST → Prop} {Q : Int → iST → Prop} {x1 : Int} {x2 : Int} {x3 : Int} {x4 : Int} {u : iST} : pw_instanced_30 R2 Q x1 x2 x3 x4 u → pw_instanced_30b R2 (fun x1 x2 x3 x4 u => pw_instanced_30 R2 Q x1 x2 x3 x4 u) Q x1 x2 x3 x4 u := fun ⟨R, s, h⟩ => mn_w_instanced_30b (fun _ _ _ _ h => h) (fun r0 r1 r2 r3 r4 a => ⟨R, s, a⟩) (fun _ _ h => h) (s _ _ _ _ _ h)
theorem fo_w_instanced_30 {R2 : Int → Int → Int → iST → Prop} {Q : Int → iST → Prop} {x1 : Int} {x2 : Int} {x3 : Int} {x4 : Int} {u : iST} : pw_instanced_30b R2 (fun x1 x2 x3 x4 u => pw_instanced_30 R2 Q x1 x2 x3 x4 u) Q x1 x2 x3 x4 u → pw_instanced_30 R2 Q x1 x2 x3 x4 u := fun h => ⟨fun x1 x2 x3 x4 u => pw_instanced_30b R2 (fun x1 x2 x3 x4 u => pw_instanced_30 R2 Q x1 x2 x3 x4 u) Q x1 x2 x3 x4 u, fun r0 r1 r2 r3 r4 a => mn_w_instanced_30b (fun _ _ _ _ h => h) (fun r0 r1 r2 r3 r4 a => un_w_instanced_30 a) (fun _ _ h => h) a, h⟩
theorem wp_w_instanced_30 {Q1 Q2 : Int → iST → Prop} {R21 R22 : Int → Int → Int → iST → Prop} {x1 : Int} {x2 : Int} {x3 : Int} {x4 : Int} {u : iST} (hR2 : ∀ r0 r1 r2 r3, R21 r0 r1 r2 r3 → R22 r0 r1 r2 r3) (hQ : ∀ r0 r1, Q1 r0 r1 → Q2 r0 r1) : w_instanced_30 R21 Q1 x1 x2 x3 x4 u → pw_instanced_30 R22 Q2 x1 x2 x3 x4 u := fun a => a (fun x1 x2 x3 x4 u => pw_instanced_30 R22 Q2 x1 x2 x3 x4 u) (fun x1 x2 x3 x4 u b => fo_w_instanced_30 (wp_w_instanced_30b hR2 (fun r0 r1 r2 r3 r4 a => a) hQ b))
def pw_instanced_2b (R2 : Int → Int → Int → iST → Prop) (Q : Int → iST → Prop) (x1 : Int) (x2 : Int) (x3 : Int) (u : iST) : Prop :=
  bdp x2 350 (rd (u.2.1 146 x2) (fun v1 => 
  br (v1 ≤ x3) (
    ztp 1 (Q 1 u)) (
    sw (iI u 74 0) (fun u => 
    bdp x1 452000 (rd (u.2.1 1 x1) (fun v2 => 
    bdp v2 452000 (rd (u.2.1 1 v2) (fun v3 => 
    pw_instanced_30 R2 Q x1 x2 x3 v3 u))))))))
theorem cj_w_instanced_2b {Q1 Q2 Q3 : Int → iST → Prop} {R21 R22 R23 : Int → Int → Int → iST → Prop} {x1 : Int} {x2 : Int} {x3 : Int} {u : iST} (hR2 : ∀ r0 r1 r2 r3, R21 r0 r1 r2 r3 → R22 r0 r1 r2 r3 → R23 r0 r1 r2 r3) (hQ : ∀ r0 r1, Q1 r0 r1 → Q2 r0 r1 → Q3 r0 r1) : w_instanced_2b R21 Q1 x1 x2 x3 u → pw_instanced_2b R22 Q2 x1 x2 x3 u → w_instanced_2b R23 Q3 x1 x2 x3 u := (bd_cj (rd_cj fun _ => (br_cj (zt_cj (hQ _ _)) (sw_cj fun _ => (bd_cj (rd_cj fun _ => (bd_cj (rd_cj fun _ => (cj_w_instanced_30 hR2 hQ)))))))))
theorem mn_w_instanced_2b {Q1 Q2 : Int → iST → Prop} {R21 R22 : Int → Int → Int → iST → Prop} {x1 : Int} {x2 : Int} {x3 : Int} {u : iST} (hR2 : ∀ r0 r1 r2 r3, R21 r0 r1 r2 r3 → R22 r0 r1 r2 r3) (hQ : ∀ r0 r1, Q1 r0 r1 → Q2 r0 r1) : pw_instanced_2b R21 Q1 x1 x2 x3 u → pw_instanced_2b R22 Q2 x1 x2 x3 u := (bd_mn (rd_mn fun _ => (br_mn (zt_mn (hQ _ _)) (sw_mn fun _ => (bd_mn (rd_mn fun _ => (bd_mn (rd_mn fun _ => (mn_w_instanced_30 hR2 hQ)))))))))
theorem wp_w_instanced_2b {Q1 Q2 : Int → iST → Prop} {R21 R22 : Int → Int → Int → iST → Prop} {x1 : Int} {x2 : Int} {x3 : Int} {u : iST} (hR2 : ∀ r0 r1 r2 r3, R21 r0 r1 r2 r3 → R22 r0 r1 r2 r3) (hQ : ∀ r0 r1, Q1 r0 r1 → Q2 r0 r1) : w_instanced_2b R21 Q1 x1 x2 x3 u → pw_instanced_2b R22 Q2 x1 x2 x3 u := (bd_wp (rd_wp fun _ => (br_wp (zt_wp (hQ _ _)) (sw_wp fun _ => (bd_wp (rd_wp fun _ => (bd_wp (rd_wp fun _ => (wp_w_instanced_30 hR2 hQ)))))))))
def pw_instanced_2 (Q : Int → iST → Prop) (x1 : Int) (x2 : Int) (x3 : Int) (u : iST) : Prop := ∃ R2 : Int → Int → Int → iST → Prop, (∀ (x1 : Int) (x2 : Int) (x3 : Int) (u : iST), R2 x1 x2 x3 u → pw_instanced_2b R2 Q x1 x2 x3 u) ∧ R2 x1 x2 x3 u
theorem cj_w_instanced_2 {Q1 Q2 Q3 : Int → iST → Prop}  {x1 : Int} {x2 : Int} {x3 : Int} {u : iST} (hQ : ∀ r0 r1, Q1 r0 r1 → Q2 r0 r1 → Q3 r0 r1) : w_instanced_2 Q1 x1 x2 x3 u → pw_instanced_2 Q2 x1 x2 x3 u → w_instanced_2 Q3 x1 x2 x3 u := by
  intro a b R3 c3
  obtain ⟨R2, c2, b2⟩ := b
  exact a (fun r0 r1 r2 r3 => R2 r0 r1 r2 r3 → R3 r0 r1 r2 r3) (fun r0 r1 r2 r3 a b => c3 r0 r1 r2 r3 (cj_w_instanced_2b (fun r0 r1 r2 r3 a b => a b) hQ a (c2 r0 r1 r2 r3 b))) b2
theorem pw_instanced_2_i  {Q : Int → iST → Prop} {x1 : Int} {x2 : Int} {x3 : Int} {u : iST} (I : Int → Int → Int → iST → Prop) (s : ∀ (x1 : Int) (x2 : Int) (x3 : Int) (u : iST), I x1 x2 x3 u → pw_instanced_2b I Q x1 x2 x3 u) (h : I x1 x2 x3 u) : pw_instanced_2 Q x1 x2 x3 u := ⟨I, s, h⟩
theorem mn_w_instanced_2 {Q1 Q2 : Int → iST → Prop}  {x1 : Int} {x2 : Int} {x3 : Int} {u : iST} (hQ : ∀ r0 r1, Q1 r0 r1 → Q2 r0 r1) : pw_instanced_2 Q1 x1 x2 x3 u → pw_instanced_2 Q2 x1 x2 x3 u := fun ⟨R, s, h⟩ => ⟨R, fun r0 r1 r2 r3 a => mn_w_instanced_2b (fun r0 r1 r2 r3 a => a) hQ (s r0 r1 r2 r3 a), h⟩
theorem un_w_instanced_2  {Q : Int → iST → Prop} {x1 : Int} {x2 : Int} {x3 : Int} {u : iST} : pw_instanced_2 Q x1 x2 x3 u → pw_instanced_2b (fun x1 x2 x3 u => pw_instanced_2 Q x1 x2 x3 u) Q x1 x2 x3 u := fun ⟨R, s, h⟩ => mn_w_instanced_2b (fun r0 r1 r2 r3 a => ⟨R, s, a⟩) (fun _ _ h => h) (s _ _ _ _ h)
theorem fo_w_instanced_2  {Q : Int → iST → Prop} {x1 : Int} {x2 : Int} {x3 : Int} {u : iST} : pw_instanced_2b (fun x1 x2 x3 u => pw_instanced_2 Q x1 x2 x3 u) Q x1 x2 x3 u → pw_instanced_2 Q x1 x2 x3 u := fun h => ⟨fun x1 x2 x3 u => pw_instanced_2b (fun x1 x2 x3 u => pw_instanced_2 Q x1 x2 x3 u) Q x1 x2 x3 u, fun r0 r1 r2 r3 a => mn_w_instanced_2b (fun r0 r1 r2 r3 a => un_w_instanced_2 a) (fun _ _ h => h) a, h⟩
theorem wp_w_instanced_2 {Q1 Q2 : Int → iST → Prop}  {x1 : Int} {x2 : Int} {x3 : Int} {u : iST} (hQ : ∀ r0 r1, Q1 r0 r1 → Q2 r0 r1) : w_instanced_2 Q1 x1 x2 x3 u → pw_instanced_2 Q2 x1 x2 x3 u := fun a => a (fun x1 x2 x3 u => pw_instanced_2 Q2 x1 x2 x3 u) (fun x1 x2 x3 u b => fo_w_instanced_2 (wp_w_instanced_2b (fun r0 r1 r2 r3 a => a) hQ b))
def pw_instanced (a0 : Int) (a1 : Int) (Q : Int → iST → Prop) (u : iST) : Prop :=
  pw_instanced_2 Q a0 a1 0 u
theorem cj_w_instanced {Q1 Q2 Q3 : Int → iST → Prop}  {a0 : Int} {a1 : Int} {u : iST} (hQ : ∀ r0 r1, Q1 r0 r1 → Q2 r0 r1 → Q3 r0 r1) : w_instanced a0 a1 Q1 u → pw_instanced a0 a1 Q2 u → w_instanced a0 a1 Q3 u := (cj_w_instanced_2  hQ)
theorem mn_w_instanced {Q1 Q2 : Int → iST → Prop}  {a0 : Int} {a1 : Int} {u : iST} (hQ : ∀ r0 r1, Q1 r0 r1 → Q2 r0 r1) : pw_instanced a0 a1 Q1 u → pw_instanced a0 a1 Q2 u := (mn_w_instanced_2  hQ)
theorem wp_w_instanced {Q1 Q2 : Int → iST → Prop}  {a0 : Int} {a1 : Int} {u : iST} (hQ : ∀ r0 r1, Q1 r0 r1 → Q2 r0 r1) : w_instanced a0 a1 Q1 u → pw_instanced a0 a1 Q2 u := (wp_w_instanced_2  hQ)
def pw_replaced_43b (R43 : Int → Int → Int → Int → iST → Prop) (Q : Int → iST → Prop) (x1 : Int) (x2 : Int) (x3 : Int) (x4 : Int) (u : iST) : Prop :=
  ovp (x1 + 1) (
  bdp (x1 + 1) 350 (rd (u.2.1 146 (x1 + 1)) (fun v9 => 
  br (v9 ≤ x4) (
    ovp (30 * x1) (
    bdp (30 * x1) 10500 (rd (u.2.1 145 (30 * x1)) (fun v11 => 
    pw_pour x1 v11 (fun u => 
    ztp 1 (Q 1 u)) u)))) (
    sw (iI u 74 0) (fun u => 
    ovp (x1 + 1) (
    ovp (30 * (x1 + 1)) (
    ovp ((30 * (x1 + 1)) + x4) (
    bdp ((30 * (x1 + 1)) + x4) 10500 (rd (u.2.1 145 ((30 * (x1 + 1)) + x4)) (fun v16 => 
    pw_anew v16 x2 x3 (fun v17 u => 
    pw_put v17 (fun u => 
    ovp (x4 + 1) (
    R43 x1 x2 x3 (x4 + 1) u)) u) u))))))))))
theorem cj_w_replaced_43b {Q1 Q2 Q3 : Int → iST → Prop} {R431 R432 R433 : Int → Int → Int → Int → iST → Prop} {x1 : Int} {x2 : Int} {x3 : Int} {x4 : Int} {u : iST} (hR43 : ∀ r0 r1 r2 r3 r4, R431 r0 r1 r2 r3 r4 → R432 r0 r1 r2 r3 r4 → R433 r0 r1 r2 r3 r4) (hQ : ∀ r0 r1, Q1 r0 r1 → Q2 r0 r1 → Q3 r0 r1) : w_replaced_43b R431 Q1 x1 x2 x3 x4 u → pw_replaced_43b R432 Q2 x1 x2 x3 x4 u → w_replaced_43b R433 Q3 x1 x2 x3 x4 u := (ov_cj (bd_cj (rd_cj fun _ => (br_cj (ov_cj (bd_cj (rd_cj fun _ => (cj_w_pour (fun _ => (zt_cj (hQ _ _))))))) (sw_cj fun _ => (ov_cj (ov_cj (ov_cj (bd_cj (rd_cj fun _ => (cj_w_anew (fun _ _ => (cj_w_put (fun _ => (ov_cj (hR43 _ _ _ _ _))))))))))))))))
theorem mn_w_replaced_43b {Q1 Q2 : Int → iST → Prop} {R431 R432 : Int → Int → Int → Int → iST → Prop} {x1 : Int} {x2 : Int} {x3 : Int} {x4 : Int} {u : iST} (hR43 : ∀ r0 r1 r2 r3 r4, R431 r0 r1 r2 r3 r4 → R432 r0 r1 r2 r3 r4) (hQ : ∀ r0 r1, Q1 r0 r1 → Q2 r0 r1) : pw_replaced_43b R431 Q1 x1 x2 x3 x4 u → pw_replaced_43b R432 Q2 x1 x2 x3 x4 u := (ov_mn (bd_mn (rd_mn fun _ => (br_mn (ov_mn (bd_mn (rd_mn fun _ => (mn_w_pour (fun _ => (zt_mn (hQ _ _))))))) (sw_mn fun _ => (ov_mn (ov_mn (ov_mn (bd_mn (rd_mn fun _ => (mn_w_anew (fun _ _ => (mn_w_put (fun _ => (ov_mn (hR43 _ _ _ _ _))))))))))))))))
theorem wp_w_replaced_43b {Q1 Q2 : Int → iST → Prop} {R431 R432 : Int → Int → Int → Int → iST → Prop} {x1 : Int} {x2 : Int} {x3 : Int} {x4 : Int} {u : iST} (hR43 : ∀ r0 r1 r2 r3 r4, R431 r0 r1 r2 r3 r4 → R432 r0 r1 r2 r3 r4) (hQ : ∀ r0 r1, Q1 r0 r1 → Q2 r0 r1) : w_replaced_43b R431 Q1 x1 x2 x3 x4 u → pw_replaced_43b R432 Q2 x1 x2 x3 x4 u := (ov_wp (bd_wp (rd_wp fun _ => (br_wp (ov_wp (bd_wp (rd_wp fun _ => (wp_w_pour (fun _ => (zt_wp (hQ _ _))))))) (sw_wp fun _ => (ov_wp (ov_wp (ov_wp (bd_wp (rd_wp fun _ => (wp_w_anew (fun _ _ => (wp_w_put (fun _ => (ov_wp (hR43 _ _ _ _ _))))))))))))))))
def pw_replaced_43 (Q : Int → iST → Prop) (x1 : Int) (x2 : Int) (x3 : Int) (x4 : Int) (u : iST) : Prop := ∃ R43 : Int → Int → Int → Int → iST → Prop, (∀ (x1 : Int) (x2 : Int) (x3 : Int) (x4 : Int) (u : iST), R43 x1 x2 x3 x4 u → pw_replaced_43b R43 Q x1 x2 x3 x4 u) ∧ R43 x1 x2 x3 x4 u
theorem cj_w_replaced_43 {Q1 Q2 Q3 : Int → iST → Prop}  {x1 : Int} {x2 : Int} {x3 : Int} {x4 : Int} {u : iST} (hQ : ∀ r0 r1, Q1 r0 r1 → Q2 r0 r1 → Q3 r0 r1) : w_replaced_43 Q1 x1 x2 x3 x4 u → pw_replaced_43 Q2 x1 x2 x3 x4 u → w_replaced_43 Q3 x1 x2 x3 x4 u := by
  intro a b R3 c3
  obtain ⟨R2, c2, b2⟩ := b
  exact a (fun r0 r1 r2 r3 r4 => R2 r0 r1 r2 r3 r4 → R3 r0 r1 r2 r3 r4) (fun r0 r1 r2 r3 r4 a b => c3 r0 r1 r2 r3 r4 (cj_w_replaced_43b (fun r0 r1 r2 r3 r4 a b => a b) hQ a (c2 r0 r1 r2 r3 r4 b))) b2
theorem pw_replaced_43_i  {Q : Int → iST → Prop} {x1 : Int} {x2 : Int} {x3 : Int} {x4 : Int} {u : iST} (I : Int → Int → Int → Int → iST → Prop) (s : ∀ (x1 : Int) (x2 : Int) (x3 : Int) (x4 : Int) (u : iST), I x1 x2 x3 x4 u → pw_replaced_43b I Q x1 x2 x3 x4 u) (h : I x1 x2 x3 x4 u) : pw_replaced_43 Q x1 x2 x3 x4 u := ⟨I, s, h⟩
theorem mn_w_replaced_43 {Q1 Q2 : Int → iST → Prop}  {x1 : Int} {x2 : Int} {x3 : Int} {x4 : Int} {u : iST} (hQ : ∀ r0 r1, Q1 r0 r1 → Q2 r0 r1) : pw_replaced_43 Q1 x1 x2 x3 x4 u → pw_replaced_43 Q2 x1 x2 x3 x4 u := fun ⟨R, s, h⟩ => ⟨R, fun r0 r1 r2 r3 r4 a => mn_w_replaced_43b (fun r0 r1 r2 r3 r4 a => a) hQ (s r0 r1 r2 r3 r4 a), h⟩
theorem un_w_replaced_43  {Q : Int → iST → Prop} {x1 : Int} {x2 : Int} {x3 : Int} {x4 : Int} {u : iST} : pw_replaced_43 Q x1 x2 x3 x4 u → pw_replaced_43b (fun x1 x2 x3 x4 u => pw_replaced_43 Q x1 x2 x3 x4 u) Q x1 x2 x3 x4 u := fun ⟨R, s, h⟩ => mn_w_replaced_43b (fun r0 r1 r2 r3 r4 a => ⟨R, s, a⟩) (fun _ _ h => h) (s _ _ _ _ _ h)
theorem fo_w_replaced_43  {Q : Int → iST → Prop} {x1 : Int} {x2 : Int} {x3 : Int} {x4 : Int} {u : iST} : pw_replaced_43b (fun x1 x2 x3 x4 u => pw_replaced_43 Q x1 x2 x3 x4 u) Q x1 x2 x3 x4 u → pw_replaced_43 Q x1 x2 x3 x4 u := fun h => ⟨fun x1 x2 x3 x4 u => pw_replaced_43b (fun x1 x2 x3 x4 u => pw_replaced_43 Q x1 x2 x3 x4 u) Q x1 x2 x3 x4 u, fun r0 r1 r2 r3 r4 a => mn_w_replaced_43b (fun r0 r1 r2 r3 r4 a => un_w_replaced_43 a) (fun _ _ h => h) a, h⟩
theorem wp_w_replaced_43 {Q1 Q2 : Int → iST → Prop}  {x1 : Int} {x2 : Int} {x3 : Int} {x4 : Int} {u : iST} (hQ : ∀ r0 r1, Q1 r0 r1 → Q2 r0 r1) : w_replaced_43 Q1 x1 x2 x3 x4 u → pw_replaced_43 Q2 x1 x2 x3 x4 u := fun a => a (fun x1 x2 x3 x4 u => pw_replaced_43 Q2 x1 x2 x3 x4 u) (fun x1 x2 x3 x4 u b => fo_w_replaced_43 (wp_w_replaced_43b (fun r0 r1 r2 r3 r4 a => a) hQ b))
def pw_replaced (a0 : Int) (Q : Int → iST → Prop) (u : iST) : Prop :=
  pw_beginsEqual a0 (fun v1 u => 
  br (v1 ≠ 0) (
    ovp (30 * a0) (
    bdp (30 * a0) 10500 (rd (u.2.1 145 (30 * a0)) (fun v3 => 
    pw_term v3 1 (fun v4 u => 
    ovp (30 * a0) (
    bdp (30 * a0) 10500 (rd (u.2.1 145 (30 * a0)) (fun v6 => 
    pw_term v6 2 (fun v7 u => 
    pw_replaced_43 Q a0 v4 v7 0 u) u)))) u)))) (
    ztp 0 (Q 0 u))) u
theorem cj_w_replaced {Q1 Q2 Q3 : Int → iST → Prop}  {a0 : Int} {u : iST} (hQ : ∀ r0 r1, Q1 r0 r1 → Q2 r0 r1 → Q3 r0 r1) : w_replaced a0 Q1 u → pw_replaced a0 Q2 u → w_replaced a0 Q3 u := (cj_w_beginsEqual (fun _ _ => (br_cj (ov_cj (bd_cj (rd_cj fun _ => (cj_w_term (fun _ _ => (ov_cj (bd_cj (rd_cj fun _ => (cj_w_term (fun _ _ => (cj_w_replaced_43  hQ))))))))))) (zt_cj (hQ _ _)))))
theorem mn_w_replaced {Q1 Q2 : Int → iST → Prop}  {a0 : Int} {u : iST} (hQ : ∀ r0 r1, Q1 r0 r1 → Q2 r0 r1) : pw_replaced a0 Q1 u → pw_replaced a0 Q2 u := (mn_w_beginsEqual (fun _ _ => (br_mn (ov_mn (bd_mn (rd_mn fun _ => (mn_w_term (fun _ _ => (ov_mn (bd_mn (rd_mn fun _ => (mn_w_term (fun _ _ => (mn_w_replaced_43  hQ))))))))))) (zt_mn (hQ _ _)))))
theorem wp_w_replaced {Q1 Q2 : Int → iST → Prop}  {a0 : Int} {u : iST} (hQ : ∀ r0 r1, Q1 r0 r1 → Q2 r0 r1) : w_replaced a0 Q1 u → pw_replaced a0 Q2 u := (wp_w_beginsEqual (fun _ _ => (br_wp (ov_wp (bd_wp (rd_wp fun _ => (wp_w_term (fun _ _ => (ov_wp (bd_wp (rd_wp fun _ => (wp_w_term (fun _ _ => (wp_w_replaced_43  hQ))))))))))) (zt_wp (hQ _ _)))))
def pw_inducts_177 (Q : Int → iST → Prop) (x3 : Int) (u : iST) : Prop :=
  sw (iI u 122 0) (fun u => 
  pw_put x3 (fun u => 
  ztp 1 (Q 1 u)) u)
theorem cj_w_inducts_177 {Q1 Q2 Q3 : Int → iST → Prop}  {x3 : Int} {u : iST} (hQ : ∀ r0 r1, Q1 r0 r1 → Q2 r0 r1 → Q3 r0 r1) : w_inducts_177 Q1 x3 u → pw_inducts_177 Q2 x3 u → w_inducts_177 Q3 x3 u := (sw_cj fun _ => (cj_w_put (fun _ => (zt_cj (hQ _ _)))))
theorem mn_w_inducts_177 {Q1 Q2 : Int → iST → Prop}  {x3 : Int} {u : iST} (hQ : ∀ r0 r1, Q1 r0 r1 → Q2 r0 r1) : pw_inducts_177 Q1 x3 u → pw_inducts_177 Q2 x3 u := (sw_mn fun _ => (mn_w_put (fun _ => (zt_mn (hQ _ _)))))
theorem wp_w_inducts_177 {Q1 Q2 : Int → iST → Prop}  {x3 : Int} {u : iST} (hQ : ∀ r0 r1, Q1 r0 r1 → Q2 r0 r1) : w_inducts_177 Q1 x3 u → pw_inducts_177 Q2 x3 u := (sw_wp fun _ => (wp_w_put (fun _ => (zt_wp (hQ _ _)))))
def pw_inducts_145 (R35 : Int → Int → Int → Int → Int → iST → Prop) (R79 : Int → Int → Int → Int → Int → Int → iST → Prop) (R106 : Int → Int → Int → Int → Int → Int → Int → Int → iST → Prop) (Q : Int → iST → Prop) (x2 : Int) (x3 : Int) (x4 : Int) (x5 : Int) (x6 : Int) (x7 : Int) (x9 : Int) (u : iST) : Prop :=
  ovp (x9 + 1) (
  R106 x2 x3 x4 x5 x6 x7 1 (x9 + 1) u)
theorem cj_w_inducts_145 {Q1 Q2 Q3 : Int → iST → Prop} {R351 R352 R353 : Int → Int → Int → Int → Int → iST → Prop} {R791 R792 R793 : Int → Int → Int → Int → Int → Int → iST → Prop} {R1061 R1062 R1063 : Int → Int → Int → Int → Int → Int → Int → Int → iST → Prop} {x2 : Int} {x3 : Int} {x4 : Int} {x5 : Int} {x6 : Int} {x7 : Int} {x9 : Int} {u : iST} (hR35 : ∀ r0 r1 r2 r3 r4 r5, R351 r0 r1 r2 r3 r4 r5 → R352 r0 r1 r2 r3 r4 r5 → R353 r0 r1 r2 r3 r4 r5) (hR79 : ∀ r0 r1 r2 r3 r4 r5 r6, R791 r0 r1 r2 r3 r4 r5 r6 → R792 r0 r1 r2 r3 r4 r5 r6 → R793 r0 r1 r2 r3 r4 r5 r6) (hR106 : ∀ r0 r1 r2 r3 r4 r5 r6 r7 r8, R1061 r0 r1 r2 r3 r4 r5 r6 r7 r8 → R1062 r0 r1 r2 r3 r4 r5 r6 r7 r8 → R1063 r0 r1 r2 r3 r4 r5 r6 r7 r8) (hQ : ∀ r0 r1, Q1 r0 r1 → Q2 r0 r1 → Q3 r0 r1) : w_inducts_145 R351 R791 R1061 Q1 x2 x3 x4 x5 x6 x7 x9 u → pw_inducts_145 R352 R792 R1062 Q2 x2 x3 x4 x5 x6 x7 x9 u → w_inducts_145 R353 R793 R1063 Q3 x2 x3 x4 x5 x6 x7 x9 u := (ov_cj (hR106 _ _ _ _ _ _ _ _ _))
theorem mn_w_inducts_145 {Q1 Q2 : Int → iST → Prop} {R351 R352 : Int → Int → Int → Int → Int → iST → Prop} {R791 R792 : Int → Int → Int → Int → Int → Int → iST → Prop} {R1061 R1062 : Int → Int → Int → Int → Int → Int → Int → Int → iST → Prop} {x2 : Int} {x3 : Int} {x4 : Int} {x5 : Int} {x6 : Int} {x7 : Int} {x9 : Int} {u : iST} (hR35 : ∀ r0 r1 r2 r3 r4 r5, R351 r0 r1 r2 r3 r4 r5 → R352 r0 r1 r2 r3 r4 r5) (hR79 : ∀ r0 r1 r2 r3 r4 r5 r6, R791 r0 r1 r2 r3 r4 r5 r6 → R792 r0 r1 r2 r3 r4 r5 r6) (hR106 : ∀ r0 r1 r2 r3 r4 r5 r6 r7 r8, R1061 r0 r1 r2 r3 r4 r5 r6 r7 r8 → R1062 r0 r1 r2 r3 r4 r5 r6 r7 r8) (hQ : ∀ r0 r1, Q1 r0 r1 → Q2 r0 r1) : pw_inducts_145 R351 R791 R1061 Q1 x2 x3 x4 x5 x6 x7 x9 u → pw_inducts_145 R352 R792 R1062 Q2 x2 x3 x4 x5 x6 x7 x9 u := (ov_mn (hR106 _ _ _ _ _ _ _ _ _))
theorem wp_w_inducts_145 {Q1 Q2 : Int → iST → Prop} {R351 R352 : Int → Int → Int → Int → Int → iST → Prop} {R791 R792 : Int → Int → Int → Int → Int → Int → iST → Prop} {R1061 R1062 : Int → Int → Int → Int → Int → Int → Int → Int → iST → Prop} {x2 : Int} {x3 : Int} {x4 : Int} {x5 : Int} {x6 : Int} {x7 : Int} {x9 : Int} {u : iST} (hR35 : ∀ r0 r1 r2 r3 r4 r5, R351 r0 r1 r2 r3 r4 r5 → R352 r0 r1 r2 r3 r4 r5) (hR79 : ∀ r0 r1 r2 r3 r4 r5 r6, R791 r0 r1 r2 r3 r4 r5 r6 → R792 r0 r1 r2 r3 r4 r5 r6) (hR106 : ∀ r0 r1 r2 r3 r4 r5 r6 r7 r8, R1061 r0 r1 r2 r3 r4 r5 r6 r7 r8 → R1062 r0 r1 r2 r3 r4 r5 r6 r7 r8) (hQ : ∀ r0 r1, Q1 r0 r1 → Q2 r0 r1) : w_inducts_145 R351 R791 R1061 Q1 x2 x3 x4 x5 x6 x7 x9 u → pw_inducts_145 R352 R792 R1062 Q2 x2 x3 x4 x5 x6 x7 x9 u := (ov_wp (hR106 _ _ _ _ _ _ _ _ _))
def pw_inducts_106b (R35 : Int → Int → Int → Int → Int → iST → Prop) (R79 : Int → Int → Int → Int → Int → Int → iST → Prop) (R106 : Int → Int → Int → Int → Int → Int → Int → Int → iST → Prop) (Q : Int → iST → Prop) (x2 : Int) (x3 : Int) (x4 : Int) (x5 : Int) (x6 : Int) (x7 : Int) (x8 : Int) (x9 : Int) (u : iST) : Prop :=
  rd (u.1 122) (fun v17 => 
  br (v17 ≤ x9) (
    br (x8 ≠ 0) (
      ovp (x7 + 1) (
      R79 x2 x3 x4 x5 x6 (x7 + 1) u)) (
      ztp 0 (Q 0 u))) (
    br (x8 ≠ 0) (
      pw_inducts_145 R35 R79 R106 Q x2 x3 x4 x5 x6 x7 x9 u) (
      bdp x9 1200 (rd (u.2.1 121 x9) (fun v20 => 
      ovp (x2 + x6) (
      ovp (30 * (x2 + x6)) (
      ovp ((30 * (x2 + x6)) + x7) (
      bdp ((30 * (x2 + x6)) + x7) 10500 (rd (u.2.1 145 ((30 * (x2 + x6)) + x7)) (fun v24 => 
      br (v20 ≠ v24) (
        ovp (x9 + 1) (
        R106 x2 x3 x4 x5 x6 x7 0 (x9 + 1) u)) (
        pw_inducts_145 R35 R79 R106 Q x2 x3 x4 x5 x6 x7 x9 u)))))))))))
theorem cj_w_inducts_106b {Q1 Q2 Q3 : Int → iST → Prop} {R351 R352 R353 : Int → Int → Int → Int → Int → iST → Prop} {R791 R792 R793 : Int → Int → Int → Int → Int → Int → iST → Prop} {R1061 R1062 R1063 : Int → Int → Int → Int → Int → Int → Int → Int → iST → Prop} {x2 : Int} {x3 : Int} {x4 : Int} {x5 : Int} {x6 : Int} {x7 : Int} {x8 : Int} {x9 : Int} {u : iST} (hR35 : ∀ r0 r1 r2 r3 r4 r5, R351 r0 r1 r2 r3 r4 r5 → R352 r0 r1 r2 r3 r4 r5 → R353 r0 r1 r2 r3 r4 r5) (hR79 : ∀ r0 r1 r2 r3 r4 r5 r6, R791 r0 r1 r2 r3 r4 r5 r6 → R792 r0 r1 r2 r3 r4 r5 r6 → R793 r0 r1 r2 r3 r4 r5 r6) (hR106 : ∀ r0 r1 r2 r3 r4 r5 r6 r7 r8, R1061 r0 r1 r2 r3 r4 r5 r6 r7 r8 → R1062 r0 r1 r2 r3 r4 r5 r6 r7 r8 → R1063 r0 r1 r2 r3 r4 r5 r6 r7 r8) (hQ : ∀ r0 r1, Q1 r0 r1 → Q2 r0 r1 → Q3 r0 r1) : w_inducts_106b R351 R791 R1061 Q1 x2 x3 x4 x5 x6 x7 x8 x9 u → pw_inducts_106b R352 R792 R1062 Q2 x2 x3 x4 x5 x6 x7 x8 x9 u → w_inducts_106b R353 R793 R1063 Q3 x2 x3 x4 x5 x6 x7 x8 x9 u := (rd_cj fun _ => (br_cj (br_cj (ov_cj (hR79 _ _ _ _ _ _ _)) (zt_cj (hQ _ _))) (br_cj (cj_w_inducts_145 hR35 hR79 hR106 hQ) (bd_cj (rd_cj fun _ => (ov_cj (ov_cj (ov_cj (bd_cj (rd_cj fun _ => (br_cj (ov_cj (hR106 _ _ _ _ _ _ _ _ _)) (cj_w_inducts_145 hR35 hR79 hR106 hQ))))))))))))
theorem mn_w_inducts_106b {Q1 Q2 : Int → iST → Prop} {R351 R352 : Int → Int → Int → Int → Int → iST → Prop} {R791 R792 : Int → Int → Int → Int → Int → Int → iST → Prop} {R1061 R1062 : Int → Int → Int → Int → Int → Int → Int → Int → iST → Prop} {x2 : Int} {x3 : Int} {x4 : Int} {x5 : Int} {x6 : Int} {x7 : Int} {x8 : Int} {x9 : Int} {u : iST} (hR35 : ∀ r0 r1 r2 r3 r4 r5, R351 r0 r1 r2 r3 r4 r5 → R352 r0 r1 r2 r3 r4 r5) (hR79 : ∀ r0 r1 r2 r3 r4 r5 r6, R791 r0 r1 r2 r3 r4 r5 r6 → R792 r0 r1 r2 r3 r4 r5 r6) (hR106 : ∀ r0 r1 r2 r3 r4 r5 r6 r7 r8, R1061 r0 r1 r2 r3 r4 r5 r6 r7 r8 → R1062 r0 r1 r2 r3 r4 r5 r6 r7 r8) (hQ : ∀ r0 r1, Q1 r0 r1 → Q2 r0 r1) : pw_inducts_106b R351 R791 R1061 Q1 x2 x3 x4 x5 x6 x7 x8 x9 u → pw_inducts_106b R352 R792 R1062 Q2 x2 x3 x4 x5 x6 x7 x8 x9 u := (rd_mn fun _ => (br_mn (br_mn (ov_mn (hR79 _ _ _ _ _ _ _)) (zt_mn (hQ _ _))) (br_mn (mn_w_inducts_145 hR35 hR79 hR106 hQ) (bd_mn (rd_mn fun _ => (ov_mn (ov_mn (ov_mn (bd_mn (rd_mn fun _ => (br_mn (ov_mn (hR106 _ _ _ _ _ _ _ _ _)) (mn_w_inducts_145 hR35 hR79 hR106 hQ))))))))))))
theorem wp_w_inducts_106b {Q1 Q2 : Int → iST → Prop} {R351 R352 : Int → Int → Int → Int → Int → iST → Prop} {R791 R792 : Int → Int → Int → Int → Int → Int → iST → Prop} {R1061 R1062 : Int → Int → Int → Int → Int → Int → Int → Int → iST → Prop} {x2 : Int} {x3 : Int} {x4 : Int} {x5 : Int} {x6 : Int} {x7 : Int} {x8 : Int} {x9 : Int} {u : iST} (hR35 : ∀ r0 r1 r2 r3 r4 r5, R351 r0 r1 r2 r3 r4 r5 → R352 r0 r1 r2 r3 r4 r5) (hR79 : ∀ r0 r1 r2 r3 r4 r5 r6, R791 r0 r1 r2 r3 r4 r5 r6 → R792 r0 r1 r2 r3 r4 r5 r6) (hR106 : ∀ r0 r1 r2 r3 r4 r5 r6 r7 r8, R1061 r0 r1 r2 r3 r4 r5 r6 r7 r8 → R1062 r0 r1 r2 r3 r4 r5 r6 r7 r8) (hQ : ∀ r0 r1, Q1 r0 r1 → Q2 r0 r1) : w_inducts_106b R351 R791 R1061 Q1 x2 x3 x4 x5 x6 x7 x8 x9 u → pw_inducts_106b R352 R792 R1062 Q2 x2 x3 x4 x5 x6 x7 x8 x9 u := (rd_wp fun _ => (br_wp (br_wp (ov_wp (hR79 _ _ _ _ _ _ _)) (zt_wp (hQ _ _))) (br_wp (wp_w_inducts_145 hR35 hR79 hR106 hQ) (bd_wp (rd_wp fun _ => (ov_wp (ov_wp (ov_wp (bd_wp (rd_wp fun _ => (br_wp (ov_wp (hR106 _ _ _ _ _ _ _ _ _)) (wp_w_inducts_145 hR35 hR79 hR106 hQ))))))))))))
def pw_inducts_106 (R35 : Int → Int → Int → Int → Int → iST → Prop) (R79 : Int → Int → Int → Int → Int → Int → iST → Prop) (Q : Int → iST → Prop) (x2 : Int) (x3 : Int) (x4 : Int) (x5 : Int) (x6 : Int) (x7 : Int) (x8 : Int) (x9 : Int) (u : iST) : Prop := ∃ R106 : Int → Int → Int → Int → Int → Int → Int → Int → iST → Prop, (∀ (x2 : Int) (x3 : Int) (x4 : Int) (x5 : Int) (x6 : Int) (x7 : Int) (x8 : Int) (x9 : Int) (u : iST), R106 x2 x3 x4 x5 x6 x7 x8 x9 u → pw_inducts_106b R35 R79 R106 Q x2 x3 x4 x5 x6 x7 x8 x9 u) ∧ R106 x2 x3 x4 x5 x6 x7 x8 x9 u
theorem cj_w_inducts_106 {Q1 Q2 Q3 : Int → iST → Prop} {R351 R352 R353 : Int → Int → Int → Int → Int → iST → Prop} {R791 R792 R793 : Int → Int → Int → Int → Int → Int → iST → Prop} {x2 : Int} {x3 : Int} {x4 : Int} {x5 : Int} {x6 : Int} {x7 : Int} {x8 : Int} {x9 : Int} {u : iST} (hR35 : ∀ r0 r1 r2 r3 r4 r5, R351 r0 r1 r2 r3 r4 r5 → R352 r0 r1 r2 r3 r4 r5 → R353 r0 r1 r2 r3 r4 r5) (hR79 : ∀ r0 r1 r2 r3 r4 r5 r6, R791 r0 r1 r2 r3 r4 r5 r6 → R792 r0 r1 r2 r3 r4 r5 r6 → R793 r0 r1 r2 r3 r4 r5 r6) (hQ : ∀ r0 r1, Q1 r0 r1 → Q2 r0 r1 → Q3 r0 r1) : w_inducts_106 R351 R791 Q1 x2 x3 x4 x5 x6 x7 x8 x9 u → pw_inducts_106 R352 R792 Q2 x2 x3 x4 x5 x6 x7 x8 x9 u → w_inducts_106 R353 R793 Q3 x2 x3 x4 x5 x6 x7 x8 x9 u := by
  intro a b R3 c3
  obtain ⟨R2, c2, b2⟩ := b
  exact a (fun r0 r1 r2 r3 r4 r5 r6 r7 r8 => R2 r0 r1 r2 r3 r4 r5 r6 r7 r8 → R3 r0 r1 r2 r3 r4 r5 r6 r7 r8) (fun r0 r1 r2 r3 r4 r5 r6 r7 r8 a b => c3 r0 r1 r2 r3 r4 r5 r6 r7 r8 (cj_w_inducts_106b hR35 hR79 (fun r0 r1 r2 r3 r4 r5 r6 r7 r8 a b => a b) hQ a (c2 r0 r1 r2 r3 r4 r5 r6 r7 r8 b))) b2
theorem pw_inducts_106_i {R35 : Int → Int → Int → Int → Int → iST → Prop} {R79 : Int → Int → Int → Int → Int → Int → iST → Prop} {Q : Int → iST → Prop} {x2 : Int} {x3 : Int} {x4 : Int} {x5 : Int} {x6 : Int} {x7 : Int} {x8 : Int} {x9 : Int} {u : iST} (I : Int → Int → Int → Int → Int → Int → Int → Int → iST → Prop) (s : ∀ (x2 : Int) (x3 : Int) (x4 : Int) (x5 : Int) (x6 : Int) (x7 : Int) (x8 : Int) (x9 : Int) (u : iST), I x2 x3 x4 x5 x6 x7 x8 x9 u → pw_inducts_106b R35 R79 I Q x2 x3 x4 x5 x6 x7 x8 x9 u) (h : I x2 x3 x4 x5 x6 x7 x8 x9 u) : pw_inducts_106 R35 R79 Q x2 x3 x4 x5 x6 x7 x8 x9 u := ⟨I, s, h⟩
theorem mn_w_inducts_106 {Q1 Q2 : Int → iST → Prop} {R351 R352 : Int → Int → Int → Int → Int → iST → Prop} {R791 R792 : Int → Int → Int → Int → Int → Int → iST → Prop} {x2 : Int} {x3 : Int} {x4 : Int} {x5 : Int} {x6 : Int} {x7 : Int} {x8 : Int} {x9 : Int} {u : iST} (hR35 : ∀ r0 r1 r2 r3 r4 r5, R351 r0 r1 r2 r3 r4 r5 → R352 r0 r1 r2 r3 r4 r5) (hR79 : ∀ r0 r1 r2 r3 r4 r5 r6, R791 r0 r1 r2 r3 r4 r5 r6 → R792 r0 r1 r2 r3 r4 r5 r6) (hQ : ∀ r0 r1, Q1 r0 r1 → Q2 r0 r1) : pw_inducts_106 R351 R791 Q1 x2 x3 x4 x5 x6 x7 x8 x9 u → pw_inducts_106 R352 R792 Q2 x2 x3 x4 x5 x6 x7 x8 x9 u := fun ⟨R, s, h⟩ => ⟨R, fun r0 r1 r2 r3 r4 r5 r6 r7 r8 a => mn_w_inducts_106b hR35 hR79 (fun r0 r1 r2 r3 r4 r5 r6 r7 r8 a => a) hQ (s r0 r1 r2 r3 r4 r5 r6 r7 r8 a), h⟩
theorem un_w_inducts_106 {R35 : Int → Int → Int → Int → Int → iST → Prop} {R79 : Int → Int → Int → Int → Int → Int → iST → Prop} {Q : Int → iST → Prop} {x2 : Int} {x3 : Int} {x4 : Int} {x5 : Int} {x6 : Int} {x7 : Int} {x8 : Int} {x9 : Int} {u : iST} : pw_inducts_106 R35 R79 Q x2 x3 x4 x5 x6 x7 x8 x9 u → pw_inducts_106b R35 R79 (fun x2 x3 x4 x5 x6 x7 x8 x9 u => pw_inducts_106 R35 R79 Q x2 x3 x4 x5 x6 x7 x8 x9 u) Q x2 x3 x4 x5 x6 x7 x8 x9 u := fun ⟨R, s, h⟩ => mn_w_inducts_106b (fun _ _ _ _ _ _ h => h) (fun _ _ _ _ _ _ _ h => h) (fun r0 r1 r2 r3 r4 r5 r6 r7 r8 a => ⟨R, s, a⟩) (fun _ _ h => h) (s _ _ _ _ _ _ _ _ _ h)
theorem fo_w_inducts_106 {R35 : Int → Int → Int → Int → Int → iST → Prop} {R79 : Int → Int → Int → Int → Int → Int → iST → Prop} {Q : Int → iST → Prop} {x2 : Int} {x3 : Int} {x4 : Int} {x5 : Int} {x6 : Int} {x7 : Int} {x8 : Int} {x9 : Int} {u : iST} : pw_inducts_106b R35 R79 (fun x2 x3 x4 x5 x6 x7 x8 x9 u => pw_inducts_106 R35 R79 Q x2 x3 x4 x5 x6 x7 x8 x9 u) Q x2 x3 x4 x5 x6 x7 x8 x9 u → pw_inducts_106 R35 R79 Q x2 x3 x4 x5 x6 x7 x8 x9 u := fun h => ⟨fun x2 x3 x4 x5 x6 x7 x8 x9 u => pw_inducts_106b R35 R79 (fun x2 x3 x4 x5 x6 x7 x8 x9 u => pw_inducts_106 R35 R79 Q x2 x3 x4 x5 x6 x7 x8 x9 u) Q x2 x3 x4 x5 x6 x7 x8 x9 u, fun r0 r1 r2 r3 r4 r5 r6 r7 r8 a => mn_w_inducts_106b (fun _ _ _ _ _ _ h => h) (fun _ _ _ _ _ _ _ h => h) (fun r0 r1 r2 r3 r4 r5 r6 r7 r8 a => un_w_inducts_106 a) (fun _ _ h => h) a, h⟩
theorem wp_w_inducts_106 {Q1 Q2 : Int → iST → Prop} {R351 R352 : Int → Int → Int → Int → Int → iST → Prop} {R791 R792 : Int → Int → Int → Int → Int → Int → iST → Prop} {x2 : Int} {x3 : Int} {x4 : Int} {x5 : Int} {x6 : Int} {x7 : Int} {x8 : Int} {x9 : Int} {u : iST} (hR35 : ∀ r0 r1 r2 r3 r4 r5, R351 r0 r1 r2 r3 r4 r5 → R352 r0 r1 r2 r3 r4 r5) (hR79 : ∀ r0 r1 r2 r3 r4 r5 r6, R791 r0 r1 r2 r3 r4 r5 r6 → R792 r0 r1 r2 r3 r4 r5 r6) (hQ : ∀ r0 r1, Q1 r0 r1 → Q2 r0 r1) : w_inducts_106 R351 R791 Q1 x2 x3 x4 x5 x6 x7 x8 x9 u → pw_inducts_106 R352 R792 Q2 x2 x3 x4 x5 x6 x7 x8 x9 u := fun a => a (fun x2 x3 x4 x5 x6 x7 x8 x9 u => pw_inducts_106 R352 R792 Q2 x2 x3 x4 x5 x6 x7 x8 x9 u) (fun x2 x3 x4 x5 x6 x7 x8 x9 u b => fo_w_inducts_106 (wp_w_inducts_106b hR35 hR79 (fun r0 r1 r2 r3 r4 r5 r6 r7 r8 a => a) hQ b))
def pw_inducts_79b (R35 : Int → Int → Int → Int → Int → iST → Prop) (R79 : Int → Int → Int → Int → Int → Int → iST → Prop) (Q : Int → iST → Prop) (x2 : Int) (x3 : Int) (x4 : Int) (x5 : Int) (x6 : Int) (x7 : Int) (u : iST) : Prop :=
  ovp (x2 + x6) (
  bdp (x2 + x6) 350 (rd (u.2.1 146 (x2 + x6)) (fun v13 => 
  br (v13 ≤ x7) (
    ovp (x6 + 1) (
    R35 x2 x3 x4 x5 (x6 + 1) u)) (
    rd (u.1 61) (fun v15 => 
    br (v15 ≠ 0) (
      ovp (x6 + 1) (
      R35 x2 x3 x4 x5 (x6 + 1) u)) (
      pw_inducts_106 R35 R79 Q x2 x3 x4 x5 x6 x7 0 0 u))))))
theorem cj_w_inducts_79b {Q1 Q2 Q3 : Int → iST → Prop} {R351 R352 R353 : Int → Int → Int → Int → Int → iST → Prop} {R791 R792 R793 : Int → Int → Int → Int → Int → Int → iST → Prop} {x2 : Int} {x3 : Int} {x4 : Int} {x5 : Int} {x6 : Int} {x7 : Int} {u : iST} (hR35 : ∀ r0 r1 r2 r3 r4 r5, R351 r0 r1 r2 r3 r4 r5 → R352 r0 r1 r2 r3 r4 r5 → R353 r0 r1 r2 r3 r4 r5) (hR79 : ∀ r0 r1 r2 r3 r4 r5 r6, R791 r0 r1 r2 r3 r4 r5 r6 → R792 r0 r1 r2 r3 r4 r5 r6 → R793 r0 r1 r2 r3 r4 r5 r6) (hQ : ∀ r0 r1, Q1 r0 r1 → Q2 r0 r1 → Q3 r0 r1) : w_inducts_79b R351 R791 Q1 x2 x3 x4 x5 x6 x7 u → pw_inducts_79b R352 R792 Q2 x2 x3 x4 x5 x6 x7 u → w_inducts_79b R353 R793 Q3 x2 x3 x4 x5 x6 x7 u := (ov_cj (bd_cj (rd_cj fun _ => (br_cj (ov_cj (hR35 _ _ _ _ _ _)) (rd_cj fun _ => (br_cj (ov_cj (hR35 _ _ _ _ _ _)) (cj_w_inducts_106 hR35 hR79 hQ)))))))
theorem mn_w_inducts_79b {Q1 Q2 : Int → iST → Prop} {R351 R352 : Int → Int → Int → Int → Int → iST → Prop} {R791 R792 : Int → Int → Int → Int → Int → Int → iST → Prop} {x2 : Int} {x3 : Int} {x4 : Int} {x5 : Int} {x6 : Int} {x7 : Int} {u : iST} (hR35 : ∀ r0 r1 r2 r3 r4 r5, R351 r0 r1 r2 r3 r4 r5 → R352 r0 r1 r2 r3 r4 r5) (hR79 : ∀ r0 r1 r2 r3 r4 r5 r6, R791 r0 r1 r2 r3 r4 r5 r6 → R792 r0 r1 r2 r3 r4 r5 r6) (hQ : ∀ r0 r1, Q1 r0 r1 → Q2 r0 r1) : pw_inducts_79b R351 R791 Q1 x2 x3 x4 x5 x6 x7 u → pw_inducts_79b R352 R792 Q2 x2 x3 x4 x5 x6 x7 u := (ov_mn (bd_mn (rd_mn fun _ => (br_mn (ov_mn (hR35 _ _ _ _ _ _)) (rd_mn fun _ => (br_mn (ov_mn (hR35 _ _ _ _ _ _)) (mn_w_inducts_106 hR35 hR79 hQ)))))))
theorem wp_w_inducts_79b {Q1 Q2 : Int → iST → Prop} {R351 R352 : Int → Int → Int → Int → Int → iST → Prop} {R791 R792 : Int → Int → Int → Int → Int → Int → iST → Prop} {x2 : Int} {x3 : Int} {x4 : Int} {x5 : Int} {x6 : Int} {x7 : Int} {u : iST} (hR35 : ∀ r0 r1 r2 r3 r4 r5, R351 r0 r1 r2 r3 r4 r5 → R352 r0 r1 r2 r3 r4 r5) (hR79 : ∀ r0 r1 r2 r3 r4 r5 r6, R791 r0 r1 r2 r3 r4 r5 r6 → R792 r0 r1 r2 r3 r4 r5 r6) (hQ : ∀ r0 r1, Q1 r0 r1 → Q2 r0 r1) : w_inducts_79b R351 R791 Q1 x2 x3 x4 x5 x6 x7 u → pw_inducts_79b R352 R792 Q2 x2 x3 x4 x5 x6 x7 u := (ov_wp (bd_wp (rd_wp fun _ => (br_wp (ov_wp (hR35 _ _ _ _ _ _)) (rd_wp fun _ => (br_wp (ov_wp (hR35 _ _ _ _ _ _)) (wp_w_inducts_106 hR35 hR79 hQ)))))))
def pw_inducts_79 (R35 : Int → Int → Int → Int → Int → iST → Prop) (Q : Int → iST → Prop) (x2 : Int) (x3 : Int) (x4 : Int) (x5 : Int) (x6 : Int) (x7 : Int) (u : iST) : Prop := ∃ R79 : Int → Int → Int → Int → Int → Int → iST → Prop, (∀ (x2 : Int) (x3 : Int) (x4 : Int) (x5 : Int) (x6 : Int) (x7 : Int) (u : iST), R79 x2 x3 x4 x5 x6 x7 u → pw_inducts_79b R35 R79 Q x2 x3 x4 x5 x6 x7 u) ∧ R79 x2 x3 x4 x5 x6 x7 u
theorem cj_w_inducts_79 {Q1 Q2 Q3 : Int → iST → Prop} {R351 R352 R353 : Int → Int → Int → Int → Int → iST → Prop} {x2 : Int} {x3 : Int} {x4 : Int} {x5 : Int} {x6 : Int} {x7 : Int} {u : iST} (hR35 : ∀ r0 r1 r2 r3 r4 r5, R351 r0 r1 r2 r3 r4 r5 → R352 r0 r1 r2 r3 r4 r5 → R353 r0 r1 r2 r3 r4 r5) (hQ : ∀ r0 r1, Q1 r0 r1 → Q2 r0 r1 → Q3 r0 r1) : w_inducts_79 R351 Q1 x2 x3 x4 x5 x6 x7 u → pw_inducts_79 R352 Q2 x2 x3 x4 x5 x6 x7 u → w_inducts_79 R353 Q3 x2 x3 x4 x5 x6 x7 u := by
  intro a b R3 c3
  obtain ⟨R2, c2, b2⟩ := b
  exact a (fun r0 r1 r2 r3 r4 r5 r6 => R2 r0 r1 r2 r3 r4 r5 r6 → R3 r0 r1 r2 r3 r4 r5 r6) (fun r0 r1 r2 r3 r4 r5 r6 a b => c3 r0 r1 r2 r3 r4 r5 r6 (cj_w_inducts_79b hR35 (fun r0 r1 r2 r3 r4 r5 r6 a b => a b) hQ a (c2 r0 r1 r2 r3 r4 r5 r6 b))) b2
theorem pw_inducts_79_i {R35 : Int → Int → Int → Int → Int → iST → Prop} {Q : Int → iST → Prop} {x2 : Int} {x3 : Int} {x4 : Int} {x5 : Int} {x6 : Int} {x7 : Int} {u : iST} (I : Int → Int → Int → Int → Int → Int → iST → Prop) (s : ∀ (x2 : Int) (x3 : Int) (x4 : Int) (x5 : Int) (x6 : Int) (x7 : Int) (u : iST), I x2 x3 x4 x5 x6 x7 u → pw_inducts_79b R35 I Q x2 x3 x4 x5 x6 x7 u) (h : I x2 x3 x4 x5 x6 x7 u) : pw_inducts_79 R35 Q x2 x3 x4 x5 x6 x7 u := ⟨I, s, h⟩
theorem mn_w_inducts_79 {Q1 Q2 : Int → iST → Prop} {R351 R352 : Int → Int → Int → Int → Int → iST → Prop} {x2 : Int} {x3 : Int} {x4 : Int} {x5 : Int} {x6 : Int} {x7 : Int} {u : iST} (hR35 : ∀ r0 r1 r2 r3 r4 r5, R351 r0 r1 r2 r3 r4 r5 → R352 r0 r1 r2 r3 r4 r5) (hQ : ∀ r0 r1, Q1 r0 r1 → Q2 r0 r1) : pw_inducts_79 R351 Q1 x2 x3 x4 x5 x6 x7 u → pw_inducts_79 R352 Q2 x2 x3 x4 x5 x6 x7 u := fun ⟨R, s, h⟩ => ⟨R, fun r0 r1 r2 r3 r4 r5 r6 a => mn_w_inducts_79b hR35 (fun r0 r1 r2 r3 r4 r5 r6 a => a) hQ (s r0 r1 r2 r3 r4 r5 r6 a), h⟩
theorem un_w_inducts_79 {R35 : Int → Int → Int → Int → Int → iST → Prop} {Q : Int → iST → Prop} {x2 : Int} {x3 : Int} {x4 : Int} {x5 : Int} {x6 : Int} {x7 : Int} {u : iST} : pw_inducts_79 R35 Q x2 x3 x4 x5 x6 x7 u → pw_inducts_79b R35 (fun x2 x3 x4 x5 x6 x7 u => pw_inducts_79 R35 Q x2 x3 x4 x5 x6 x7 u) Q x2 x3 x4 x5 x6 x7 u := fun ⟨R, s, h⟩ => mn_w_inducts_79b (fun _ _ _ _ _ _ h => h) (fun r0 r1 r2 r3 r4 r5 r6 a => ⟨R, s, a⟩) (fun _ _ h => h) (s _ _ _ _ _ _ _ h)
theorem fo_w_inducts_79 {R35 : Int → Int → Int → Int → Int → iST → Prop} {Q : Int → iST → Prop} {x2 : Int} {x3 : Int} {x4 : Int} {x5 : Int} {x6 : Int} {x7 : Int} {u : iST} : pw_inducts_79b R35 (fun x2 x3 x4 x5 x6 x7 u => pw_inducts_79 R35 Q x2 x3 x4 x5 x6 x7 u) Q x2 x3 x4 x5 x6 x7 u → pw_inducts_79 R35 Q x2 x3 x4 x5 x6 x7 u := fun h => ⟨fun x2 x3 x4 x5 x6 x7 u => pw_inducts_79b R35 (fun x2 x3 x4 x5 x6 x7 u => pw_inducts_79 R35 Q x2 x3 x4 x5 x6 x7 u) Q x2 x3 x4 x5 x6 x7 u, fun r0 r1 r2 r3 r4 r5 r6 a => mn_w_inducts_79b (fun _ _ _ _ _ _ h => h) (fun r0 r1 r2 r3 r4 r5 r6 a => un_w_inducts_79 a) (fun _ _ h => h) a, h⟩
theorem wp_w_inducts_79 {Q1 Q2 : Int → iST → Prop} {R351 R352 : Int → Int → Int → Int → Int → iST → Prop} {x2 : Int} {x3 : Int} {x4 : Int} {x5 : Int} {x6 : Int} {x7 : Int} {u : iST} (hR35 : ∀ r0 r1 r2 r3 r4 r5, R351 r0 r1 r2 r3 r4 r5 → R352 r0 r1 r2 r3 r4 r5) (hQ : ∀ r0 r1, Q1 r0 r1 → Q2 r0 r1) : w_inducts_79 R351 Q1 x2 x3 x4 x5 x6 x7 u → pw_inducts_79 R352 Q2 x2 x3 x4 x5 x6 x7 u := fun a => a (fun x2 x3 x4 x5 x6 x7 u => pw_inducts_79 R352 Q2 x2 x3 x4 x5 x6 x7 u) (fun x2 x3 x4 x5 x6 x7 u b => fo_w_inducts_79 (wp_w_inducts_79b hR35 (fun r0 r1 r2 r3 r4 r5 r6 a => a) hQ b))
def pw_inducts_35b (R35 : Int → Int → Int → Int → Int → iST → Prop) (Q : Int → iST → Prop) (x2 : Int) (x3 : Int) (x4 : Int) (x5 : Int) (x6 : Int) (u : iST) : Prop :=
  rd (u.1 126) (fun v6 => 
  br (v6 ≤ x6) (
    pw_inducts_177 Q x3 u) (
    rd (u.1 61) (fun v8 => 
    br (v8 ≠ 0) (
      pw_inducts_177 Q x3 u) (
      sw (iI u 122 0) (fun u => 
      bdp x4 452000 (rd (u.2.1 1 x4) (fun v9 => 
      pw_inductionRow x5 v9 x6 x3 (fun u => 
      pw_bounded (fun u => 
      pw_inducts_79 R35 Q x2 x3 x4 x5 x6 0 u) u) u)))))))
theorem cj_w_inducts_35b {Q1 Q2 Q3 : Int → iST → Prop} {R351 R352 R353 : Int → Int → Int → Int → Int → iST → Prop} {x2 : Int} {x3 : Int} {x4 : Int} {x5 : Int} {x6 : Int} {u : iST} (hR35 : ∀ r0 r1 r2 r3 r4 r5, R351 r0 r1 r2 r3 r4 r5 → R352 r0 r1 r2 r3 r4 r5 → R353 r0 r1 r2 r3 r4 r5) (hQ : ∀ r0 r1, Q1 r0 r1 → Q2 r0 r1 → Q3 r0 r1) : w_inducts_35b R351 Q1 x2 x3 x4 x5 x6 u → pw_inducts_35b R352 Q2 x2 x3 x4 x5 x6 u → w_inducts_35b R353 Q3 x2 x3 x4 x5 x6 u := (rd_cj fun _ => (br_cj (cj_w_inducts_177  hQ) (rd_cj fun _ => (br_cj (cj_w_inducts_177  hQ) (sw_cj fun _ => (bd_cj (rd_cj fun _ => (cj_w_inductionRow (fun _ => (cj_w_bounded (fun _ => (cj_w_inducts_79 hR35 hQ))))))))))))
theorem mn_w_inducts_35b {Q1 Q2 : Int → iST → Prop} {R351 R352 : Int → Int → Int → Int → Int → iST → Prop} {x2 : Int} {x3 : Int} {x4 : Int} {x5 : Int} {x6 : Int} {u : iST} (hR35 : ∀ r0 r1 r2 r3 r4 r5, R351 r0 r1 r2 r3 r4 r5 → R352 r0 r1 r2 r3 r4 r5) (hQ : ∀ r0 r1, Q1 r0 r1 → Q2 r0 r1) : pw_inducts_35b R351 Q1 x2 x3 x4 x5 x6 u → pw_inducts_35b R352 Q2 x2 x3 x4 x5 x6 u := (rd_mn fun _ => (br_mn (mn_w_inducts_177  hQ) (rd_mn fun _ => (br_mn (mn_w_inducts_177  hQ) (sw_mn fun _ => (bd_mn (rd_mn fun _ => (mn_w_inductionRow (fun _ => (mn_w_bounded (fun _ => (mn_w_inducts_79 hR35 hQ))))))))))))
theorem wp_w_inducts_35b {Q1 Q2 : Int → iST → Prop} {R351 R352 : Int → Int → Int → Int → Int → iST → Prop} {x2 : Int} {x3 : Int} {x4 : Int} {x5 : Int} {x6 : Int} {u : iST} (hR35 : ∀ r0 r1 r2 r3 r4 r5, R351 r0 r1 r2 r3 r4 r5 → R352 r0 r1 r2 r3 r4 r5) (hQ : ∀ r0 r1, Q1 r0 r1 → Q2 r0 r1) : w_inducts_35b R351 Q1 x2 x3 x4 x5 x6 u → pw_inducts_35b R352 Q2 x2 x3 x4 x5 x6 u := (rd_wp fun _ => (br_wp (wp_w_inducts_177  hQ) (rd_wp fun _ => (br_wp (wp_w_inducts_177  hQ) (sw_wp fun _ => (bd_wp (rd_wp fun _ => (wp_w_inductionRow (fun _ => (wp_w_bounded (fun _ => (wp_w_inducts_79 hR35 hQ))))))))))))
def pw_inducts_35 (Q : Int → iST → Prop) (x2 : Int) (x3 : Int) (x4 : Int) (x5 : Int) (x6 : Int) (u : iST) : Prop := ∃ R35 : Int → Int → Int → Int → Int → iST → Prop, (∀ (x2 : Int) (x3 : Int) (x4 : Int) (x5 : Int) (x6 : Int) (u : iST), R35 x2 x3 x4 x5 x6 u → pw_inducts_35b R35 Q x2 x3 x4 x5 x6 u) ∧ R35 x2 x3 x4 x5 x6 u
theorem cj_w_inducts_35 {Q1 Q2 Q3 : Int → iST → Prop}  {x2 : Int} {x3 : Int} {x4 : Int} {x5 : Int} {x6 : Int} {u : iST} (hQ : ∀ r0 r1, Q1 r0 r1 → Q2 r0 r1 → Q3 r0 r1) : w_inducts_35 Q1 x2 x3 x4 x5 x6 u → pw_inducts_35 Q2 x2 x3 x4 x5 x6 u → w_inducts_35 Q3 x2 x3 x4 x5 x6 u := by
  intro a b R3 c3
  obtain ⟨R2, c2, b2⟩ := b
  exact a (fun r0 r1 r2 r3 r4 r5 => R2 r0 r1 r2 r3 r4 r5 → R3 r0 r1 r2 r3 r4 r5) (fun r0 r1 r2 r3 r4 r5 a b => c3 r0 r1 r2 r3 r4 r5 (cj_w_inducts_35b (fun r0 r1 r2 r3 r4 r5 a b => a b) hQ a (c2 r0 r1 r2 r3 r4 r5 b))) b2
theorem pw_inducts_35_i  {Q : Int → iST → Prop} {x2 : Int} {x3 : Int} {x4 : Int} {x5 : Int} {x6 : Int} {u : iST} (I : Int → Int → Int → Int → Int → iST → Prop) (s : ∀ (x2 : Int) (x3 : Int) (x4 : Int) (x5 : Int) (x6 : Int) (u : iST), I x2 x3 x4 x5 x6 u → pw_inducts_35b I Q x2 x3 x4 x5 x6 u) (h : I x2 x3 x4 x5 x6 u) : pw_inducts_35 Q x2 x3 x4 x5 x6 u := ⟨I, s, h⟩
theorem mn_w_inducts_35 {Q1 Q2 : Int → iST → Prop}  {x2 : Int} {x3 : Int} {x4 : Int} {x5 : Int} {x6 : Int} {u : iST} (hQ : ∀ r0 r1, Q1 r0 r1 → Q2 r0 r1) : pw_inducts_35 Q1 x2 x3 x4 x5 x6 u → pw_inducts_35 Q2 x2 x3 x4 x5 x6 u := fun ⟨R, s, h⟩ => ⟨R, fun r0 r1 r2 r3 r4 r5 a => mn_w_inducts_35b (fun r0 r1 r2 r3 r4 r5 a => a) hQ (s r0 r1 r2 r3 r4 r5 a), h⟩
theorem un_w_inducts_35  {Q : Int → iST → Prop} {x2 : Int} {x3 : Int} {x4 : Int} {x5 : Int} {x6 : Int} {u : iST} : pw_inducts_35 Q x2 x3 x4 x5 x6 u → pw_inducts_35b (fun x2 x3 x4 x5 x6 u => pw_inducts_35 Q x2 x3 x4 x5 x6 u) Q x2 x3 x4 x5 x6 u := fun ⟨R, s, h⟩ => mn_w_inducts_35b (fun r0 r1 r2 r3 r4 r5 a => ⟨R, s, a⟩) (fun _ _ h => h) (s _ _ _ _ _ _ h)
theorem fo_w_inducts_35  {Q : Int → iST → Prop} {x2 : Int} {x3 : Int} {x4 : Int} {x5 : Int} {x6 : Int} {u : iST} : pw_inducts_35b (fun x2 x3 x4 x5 x6 u => pw_inducts_35 Q x2 x3 x4 x5 x6 u) Q x2 x3 x4 x5 x6 u → pw_inducts_35 Q x2 x3 x4 x5 x6 u := fun h => ⟨fun x2 x3 x4 x5 x6 u => pw_inducts_35b (fun x2 x3 x4 x5 x6 u => pw_inducts_35 Q x2 x3 x4 x5 x6 u) Q x2 x3 x4 x5 x6 u, fun r0 r1 r2 r3 r4 r5 a => mn_w_inducts_35b (fun r0 r1 r2 r3 r4 r5 a => un_w_inducts_35 a) (fun _ _ h => h) a, h⟩
theorem wp_w_inducts_35 {Q1 Q2 : Int → iST → Prop}  {x2 : Int} {x3 : Int} {x4 : Int} {x5 : Int} {x6 : Int} {u : iST} (hQ : ∀ r0 r1, Q1 r0 r1 → Q2 r0 r1) : w_inducts_35 Q1 x2 x3 x4 x5 x6 u → pw_inducts_35 Q2 x2 x3 x4 x5 x6 u := fun a => a (fun x2 x3 x4 x5 x6 u => pw_inducts_35 Q2 x2 x3 x4 x5 x6 u) (fun x2 x3 x4 x5 x6 u b => fo_w_inducts_35 (wp_w_inducts_35b (fun r0 r1 r2 r3 r4 r5 a => a) hQ b))
def pw_inducts (a0 : Int) (a1 : Int) (a2 : Int) (Q : Int → iST → Prop) (u : iST) : Prop :=
  pw_nth a0 2 (fun v1 u => 
  bdp v1 452000 (rd (u.2.1 0 v1) (fun v2 => 
  pw_definition v2 (fun v3 u => 
  bdp v3 40 (rd (u.2.1 39 v3) (fun v4 => 
  pw_pathsOf v4 (fun u => 
  pw_inducts_35 Q a1 a2 v1 v3 0 u) u))) u))) u
theorem cj_w_inducts {Q1 Q2 Q3 : Int → iST → Prop}  {a0 : Int} {a1 : Int} {a2 : Int} {u : iST} (hQ : ∀ r0 r1, Q1 r0 r1 → Q2 r0 r1 → Q3 r0 r1) : w_inducts a0 a1 a2 Q1 u → pw_inducts a0 a1 a2 Q2 u → w_inducts a0 a1 a2 Q3 u := (cj_w_nth (fun _ _ => (bd_cj (rd_cj fun _ => (cj_w_definition (fun _ _ => (bd_cj (rd_cj fun _ => (cj_w_pathsOf (fun _ => (cj_w_inducts_35  hQ)))))))))))
theorem mn_w_inducts {Q1 Q2 : Int → iST → Prop}  {a0 : Int} {a1 : Int} {a2 : Int} {u : iST} (hQ : ∀ r0 r1, Q1 r0 r1 → Q2 r0 r1) : pw_inducts a0 a1 a2 Q1 u → pw_inducts a0 a1 a2 Q2 u := (mn_w_nth (fun _ _ => (bd_mn (rd_mn fun _ => (mn_w_definition (fun _ _ => (bd_mn (rd_mn fun _ => (mn_w_pathsOf (fun _ => (mn_w_inducts_35  hQ)))))))))))
theorem wp_w_inducts {Q1 Q2 : Int → iST → Prop}  {a0 : Int} {a1 : Int} {a2 : Int} {u : iST} (hQ : ∀ r0 r1, Q1 r0 r1 → Q2 r0 r1) : w_inducts a0 a1 a2 Q1 u → pw_inducts a0 a1 a2 Q2 u := (wp_w_nth (fun _ _ => (bd_wp (rd_wp fun _ => (wp_w_definition (fun _ _ => (bd_wp (rd_wp fun _ => (wp_w_pathsOf (fun _ => (wp_w_inducts_35  hQ)))))))))))
def pw_concludes_522b (R522 : Int → iST → Prop) (Q : Int → iST → Prop) (x7 : Int) (u : iST) : Prop :=
  br (x7 = 0) (
    ztp 1 (Q 1 u)) (
    bdp x7 452000 (rd (u.2.1 0 x7) (fun v57 => 
    pw_termOf v57 (fun v58 u => 
    pw_put v58 (fun u => 
    bdp x7 452000 (rd (u.2.1 1 x7) (fun v60 => 
    R522 v60 u))) u) u)))
theorem cj_w_concludes_522b {Q1 Q2 Q3 : Int → iST → Prop} {R5221 R5222 R5223 : Int → iST → Prop} {x7 : Int} {u : iST} (hR522 : ∀ r0 r1, R5221 r0 r1 → R5222 r0 r1 → R5223 r0 r1) (hQ : ∀ r0 r1, Q1 r0 r1 → Q2 r0 r1 → Q3 r0 r1) : w_concludes_522b R5221 Q1 x7 u → pw_concludes_522b R5222 Q2 x7 u → w_concludes_522b R5223 Q3 x7 u := (br_cj (zt_cj (hQ _ _)) (bd_cj (rd_cj fun _ => (cj_w_termOf (fun _ _ => (cj_w_put (fun _ => (bd_cj (rd_cj fun _ => (hR522 _ _))))))))))
theorem mn_w_concludes_522b {Q1 Q2 : Int → iST → Prop} {R5221 R5222 : Int → iST → Prop} {x7 : Int} {u : iST} (hR522 : ∀ r0 r1, R5221 r0 r1 → R5222 r0 r1) (hQ : ∀ r0 r1, Q1 r0 r1 → Q2 r0 r1) : pw_concludes_522b R5221 Q1 x7 u → pw_concludes_522b R5222 Q2 x7 u := (br_mn (zt_mn (hQ _ _)) (bd_mn (rd_mn fun _ => (mn_w_termOf (fun _ _ => (mn_w_put (fun _ => (bd_mn (rd_mn fun _ => (hR522 _ _))))))))))
theorem wp_w_concludes_522b {Q1 Q2 : Int → iST → Prop} {R5221 R5222 : Int → iST → Prop} {x7 : Int} {u : iST} (hR522 : ∀ r0 r1, R5221 r0 r1 → R5222 r0 r1) (hQ : ∀ r0 r1, Q1 r0 r1 → Q2 r0 r1) : w_concludes_522b R5221 Q1 x7 u → pw_concludes_522b R5222 Q2 x7 u := (br_wp (zt_wp (hQ _ _)) (bd_wp (rd_wp fun _ => (wp_w_termOf (fun _ _ => (wp_w_put (fun _ => (bd_wp (rd_wp fun _ => (hR522 _ _))))))))))
def pw_concludes_522 (Q : Int → iST → Prop) (x7 : Int) (u : iST) : Prop := ∃ R522 : Int → iST → Prop, (∀ (x7 : Int) (u : iST), R522 x7 u → pw_concludes_522b R522 Q x7 u) ∧ R522 x7 u
theorem cj_w_concludes_522 {Q1 Q2 Q3 : Int → iST → Prop}  {x7 : Int} {u : iST} (hQ : ∀ r0 r1, Q1 r0 r1 → Q2 r0 r1 → Q3 r0 r1) : w_concludes_522 Q1 x7 u → pw_concludes_522 Q2 x7 u → w_concludes_522 Q3 x7 u := by
  intro a b R3 c3
  obtain ⟨R2, c2, b2⟩ := b
  exact a (fun r0 r1 => R2 r0 r1 → R3 r0 r1) (fun r0 r1 a b => c3 r0 r1 (cj_w_concludes_522b (fun r0 r1 a b => a b) hQ a (c2 r0 r1 b))) b2
theorem pw_concludes_522_i  {Q : Int → iST → Prop} {x7 : Int} {u : iST} (I : Int → iST → Prop) (s : ∀ (x7 : Int) (u : iST), I x7 u → pw_concludes_522b I Q x7 u) (h : I x7 u) : pw_concludes_522 Q x7 u := ⟨I, s, h⟩
theorem mn_w_concludes_522 {Q1 Q2 : Int → iST → Prop}  {x7 : Int} {u : iST} (hQ : ∀ r0 r1, Q1 r0 r1 → Q2 r0 r1) : pw_concludes_522 Q1 x7 u → pw_concludes_522 Q2 x7 u := fun ⟨R, s, h⟩ => ⟨R, fun r0 r1 a => mn_w_concludes_522b (fun r0 r1 a => a) hQ (s r0 r1 a), h⟩
theorem un_w_concludes_522  {Q : Int → iST → Prop} {x7 : Int} {u : iST} : pw_concludes_522 Q x7 u → pw_concludes_522b (fun x7 u => pw_concludes_522 Q x7 u) Q x7 u := fun ⟨R, s, h⟩ => mn_w_concludes_522b (fun r0 r1 a => ⟨R, s, a⟩) (fun _ _ h => h) (s _ _ h)
theorem fo_w_concludes_522  {Q : Int → iST → Prop} {x7 : Int} {u : iST} : pw_concludes_522b (fun x7 u => pw_concludes_522 Q x7 u) Q x7 u → pw_concludes_522 Q x7 u := fun h => ⟨fun x7 u => pw_concludes_522b (fun x7 u => pw_concludes_522 Q x7 u) Q x7 u, fun r0 r1 a => mn_w_concludes_522b (fun r0 r1 a => un_w_concludes_522 a) (fun _ _ h => h) a, h⟩
theorem wp_w_concludes_522 {Q1 Q2 : Int → iST → Prop}  {x7 : Int} {u : iST} (hQ : ∀ r0 r1, Q1 r0 r1 → Q2 r0 r1) : w_concludes_522 Q1 x7 u → pw_concludes_522 Q2 x7 u := fun a => a (fun x7 u => pw_concludes_522 Q2 x7 u) (fun x7 u b => fo_w_concludes_522 (wp_w_concludes_522b (fun r0 r1 a => a) hQ b))
def pw_concludes_184 (Q : Int → iST → Prop) (x2 : Int) (x3 : Int) (x4 : Int) (x5 : Int) (y0 : Int) (u : iST) : Prop :=
  bdp x2 452000 (rd (u.2.1 0 x2) (fun v8 => 
  br (v8 = 29) (
    pw_put x4 (fun u => 
    pw_notOf x4 (fun v10 u => 
    pw_put v10 (fun u => 
    ztp 1 (Q 1 u)) u) u) u) (
  br (v8 = 30) (
    pw_made2 4 x4 x4 (fun v13 u => 
    pw_put v13 (fun u => 
    ztp 1 (Q 1 u)) u) u) (
  br (v8 = 31) (
    pw_told x4 (fun v16 u => 
    pw_constantOf v16 (fun v17 u => 
    pw_made2 4 x4 v17 (fun v18 u => 
    pw_put v18 (fun u => 
    ztp 1 (Q 1 u)) u) u) u) u) (
  br (v8 = 32) (
    pw_made2 5 x4 x5 (fun v21 u => 
    pw_made 11 v21 (-1) (-1) (fun v22 u => 
    pw_made2 4 v22 x4 (fun v23 u => 
    pw_put v23 (fun u => 
    ztp 1 (Q 1 u)) u) u) u) u) (
  br (v8 = 33) (
    pw_made2 5 x4 x5 (fun v26 u => 
    pw_made 12 v26 (-1) (-1) (fun v27 u => 
    pw_made2 4 v27 x5 (fun v28 u => 
    pw_put v28 (fun u => 
    ztp 1 (Q 1 u)) u) u) u) u) (
  br (v8 = 34) (
    pw_made2 5 x4 x5 (fun v31 u => 
    pw_made 10 v31 (-1) (-1) (fun v32 u => 
    pw_put v32 (fun u => 
    ztp 1 (Q 1 u)) u) u) u) (
  br (v8 = 35) (
    pw_notOf x4 (fun v35 u => 
    pw_put v35 (fun u => 
    pw_made 3 x4 x5 y0 (fun v37 u => 
    pw_made2 4 v37 x5 (fun v38 u => 
    pw_put v38 (fun u => 
    ztp 1 (Q 1 u)) u) u) u) u) u) (
  br (v8 = 36) (
    pw_put x4 (fun u => 
    pw_made 3 x4 x5 y0 (fun v42 u => 
    pw_made2 4 v42 y0 (fun v43 u => 
    pw_put v43 (fun u => 
    ztp 1 (Q 1 u)) u) u) u) u) (
  br (v8 = 37) (
    pw_nth x2 1 (fun v46 u => 
    pw_definition v46 (fun v47 u => 
    pw_defined v47 (fun u => 
    ztp 1 (Q 1 u)) u) u) u) (
  br (v8 = 38) (
    pw_nth x2 1 (fun v50 u => 
    pw_theoremOf v50 (fun v51 u => 
    bdp v51 60 (rd (u.2.1 44 v51) (fun v52 => 
    pw_put v52 (fun u => 
    ztp 1 (Q 1 u)) u))) u) u) (
  br (v8 = 39) (
    pw_pour x3 (-1) (fun u => 
    pw_nth x2 1 (fun v56 u => 
    pw_concludes_522 Q v56 u) u) u) (
  br (v8 = 40) (
    pw_notOf x4 (fun v62 u => 
    pw_has x3 x4 (fun v63 u => 
    br (v63 = 0) (
      ztp 0 (Q 0 u)) (
      ovp (x3 + 1) (
      pw_has (x3 + 1) v62 (fun v65 u => 
      br (v65 ≠ 0) (
        pw_pour x3 x4 (fun u => 
        ovp (x3 + 1) (
        pw_pour (x3 + 1) v62 (fun u => 
        ztp 1 (Q 1 u)) u)) u) (
        ztp 0 (Q 0 u))) u))) u) u) (
  br (v8 = 41) (
    pw_instanced x2 x3 (fun v70 u => 
    ztp v70 (Q v70 u)) u) (
  br (v8 = 42) (
    pw_beginsEqual x3 (fun v72 u => 
    br (v72 ≠ 0) (
      ovp (30 * x3) (
      bdp (30 * x3) 10500 (rd (u.2.1 145 (30 * x3)) (fun v74 => 
      pw_term v74 2 (fun v75 u => 
      ovp (30 * x3) (
      bdp (30 * x3) 10500 (rd (u.2.1 145 (30 * x3)) (fun v77 => 
      pw_term v77 1 (fun v78 u => 
      pw_made2 4 v75 v78 (fun v79 u => 
      pw_put v79 (fun u => 
      ovp (30 * x3) (
      bdp (30 * x3) 10500 (rd (u.2.1 145 (30 * x3)) (fun v82 => 
      pw_pour x3 v82 (fun u => 
      ztp 1 (Q 1 u)) u)))) u) u) u)))) u)))) (
      ztp 0 (Q 0 u))) u) (
  br (v8 = 43) (
    pw_replaced x3 (fun v85 u => 
    ztp v85 (Q v85 u)) u) (
  pw_inducts x2 x3 x4 (fun v87 u => 
  ztp v87 (Q v87 u)) u)))))))))))))))))
theorem cj_w_concludes_184 {Q1 Q2 Q3 : Int → iST → Prop}  {x2 : Int} {x3 : Int} {x4 : Int} {x5 : Int} {y0 : Int} {u : iST} (hQ : ∀ r0 r1, Q1 r0 r1 → Q2 r0 r1 → Q3 r0 r1) : w_concludes_184 Q1 x2 x3 x4 x5 y0 u → pw_concludes_184 Q2 x2 x3 x4 x5 y0 u → w_concludes_184 Q3 x2 x3 x4 x5 y0 u := (bd_cj (rd_cj fun _ => (br_cj (cj_w_put (fun _ => (cj_w_notOf (fun _ _ => (cj_w_put (fun _ => (zt_cj (hQ _ _)))))))) (br_cj (cj_w_made2 (fun _ _ => (cj_w_put (fun _ => (zt_cj (hQ _ _)))))) (br_cj (cj_w_told (fun _ _ => (cj_w_constantOf (fun _ _ => (cj_w_made2 (fun _ _ => (cj_w_put (fun _ => (zt_cj (hQ _ _)))))))))) (br_cj (cj_w_made2 (fun _ _ => (cj_w_made (fun _ _ => (cj_w_made2 (fun _ _ => (cj_w_put (fun _ => (zt_cj (hQ _ _)))))))))) (br_cj (cj_w_made2 (fun _ _ => (cj_w_made (fun _ _ => (cj_w_made2 (fun _ _ => (cj_w_put (fun _ => (zt_cj (hQ _ _)))))))))) (br_cj (cj_w_made2 (fun _ _ => (cj_w_made (fun _ _ => (cj_w_put (fun _ => (zt_cj (hQ _ _)))))))) (br_cj (cj_w_notOf (fun _ _ => (cj_w_put (fun _ => (cj_w_made (fun _ _ => (cj_w_made2 (fun _ _ => (cj_w_put (fun _ => (zt_cj (hQ _ _)))))))))))) (br_cj (cj_w_put (fun _ => (cj_w_made (fun _ _ => (cj_w_made2 (fun _ _ => (cj_w_put (fun _ => (zt_cj (hQ _ _)))))))))) (br_cj (cj_w_nth (fun _ _ => (cj_w_definition (fun _ _ => (cj_w_defined (fun _ => (zt_cj (hQ _ _)))))))) (br_cj (cj_w_nth (fun _ _ => (cj_w_theoremOf (fun _ _ => (bd_cj (rd_cj fun _ => (cj_w_put (fun _ => (zt_cj (hQ _ _)))))))))) (br_cj (cj_w_pour (fun _ => (cj_w_nth (fun _ _ => (cj_w_concludes_522  hQ))))) (br_cj (cj_w_notOf (fun _ _ => (cj_w_has (fun _ _ => (br_cj (zt_cj (hQ _ _)) (ov_cj (cj_w_has (fun _ _ => (br_cj (cj_w_pour (fun _ => (ov_cj (cj_w_pour (fun _ => (zt_cj (hQ _ _))))))) (zt_cj (hQ _ _))))))))))) (br_cj (cj_w_instanced (fun _ _ => (zt_cj (hQ _ _)))) (br_cj (cj_w_beginsEqual (fun _ _ => (br_cj (ov_cj (bd_cj (rd_cj fun _ => (cj_w_term (fun _ _ => (ov_cj (bd_cj (rd_cj fun _ => (cj_w_term (fun _ _ => (cj_w_made2 (fun _ _ => (cj_w_put (fun _ => (ov_cj (bd_cj (rd_cj fun _ => (cj_w_pour (fun _ => (zt_cj (hQ _ _))))))))))))))))))))) (zt_cj (hQ _ _))))) (br_cj (cj_w_replaced (fun _ _ => (zt_cj (hQ _ _)))) (cj_w_inducts (fun _ _ => (zt_cj (hQ _ _)))))))))))))))))))))
theorem mn_w_concludes_184 {Q1 Q2 : Int → iST → Prop}  {x2 : Int} {x3 : Int} {x4 : Int} {x5 : Int} {y0 : Int} {u : iST} (hQ : ∀ r0 r1, Q1 r0 r1 → Q2 r0 r1) : pw_concludes_184 Q1 x2 x3 x4 x5 y0 u → pw_concludes_184 Q2 x2 x3 x4 x5 y0 u := (bd_mn (rd_mn fun _ => (br_mn (mn_w_put (fun _ => (mn_w_notOf (fun _ _ => (mn_w_put (fun _ => (zt_mn (hQ _ _)))))))) (br_mn (mn_w_made2 (fun _ _ => (mn_w_put (fun _ => (zt_mn (hQ _ _)))))) (br_mn (mn_w_told (fun _ _ => (mn_w_constantOf (fun _ _ => (mn_w_made2 (fun _ _ => (mn_w_put (fun _ => (zt_mn (hQ _ _)))))))))) (br_mn (mn_w_made2 (fun _ _ => (mn_w_made (fun _ _ => (mn_w_made2 (fun _ _ => (mn_w_put (fun _ => (zt_mn (hQ _ _)))))))))) (br_mn (mn_w_made2 (fun _ _ => (mn_w_made (fun _ _ => (mn_w_made2 (fun _ _ => (mn_w_put (fun _ => (zt_mn (hQ _ _)))))))))) (br_mn (mn_w_made2 (fun _ _ => (mn_w_made (fun _ _ => (mn_w_put (fun _ => (zt_mn (hQ _ _)))))))) (br_mn (mn_w_notOf (fun _ _ => (mn_w_put (fun _ => (mn_w_made (fun _ _ => (mn_w_made2 (fun _ _ => (mn_w_put (fun _ => (zt_mn (hQ _ _)))))))))))) (br_mn (mn_w_put (fun _ => (mn_w_made (fun _ _ => (mn_w_made2 (fun _ _ => (mn_w_put (fun _ => (zt_mn (hQ _ _)))))))))) (br_mn (mn_w_nth (fun _ _ => (mn_w_definition (fun _ _ => (mn_w_defined (fun _ => (zt_mn (hQ _ _)))))))) (br_mn (mn_w_nth (fun _ _ => (mn_w_theoremOf (fun _ _ => (bd_mn (rd_mn fun _ => (mn_w_put (fun _ => (zt_mn (hQ _ _)))))))))) (br_mn (mn_w_pour (fun _ => (mn_w_nth (fun _ _ => (mn_w_concludes_522  hQ))))) (br_mn (mn_w_notOf (fun _ _ => (mn_w_has (fun _ _ => (br_mn (zt_mn (hQ _ _)) (ov_mn (mn_w_has (fun _ _ => (br_mn (mn_w_pour (fun _ => (ov_mn (mn_w_pour (fun _ => (zt_mn (hQ _ _))))))) (zt_mn (hQ _ _))))))))))) (br_mn (mn_w_instanced (fun _ _ => (zt_mn (hQ _ _)))) (br_mn (mn_w_beginsEqual (fun _ _ => (br_mn (ov_mn (bd_mn (rd_mn fun _ => (mn_w_term (fun _ _ => (ov_mn (bd_mn (rd_mn fun _ => (mn_w_term (fun _ _ => (mn_w_made2 (fun _ _ => (mn_w_put (fun _ => (ov_mn (bd_mn (rd_mn fun _ => (mn_w_pour (fun _ => (zt_mn (hQ _ _))))))))))))))))))))) (zt_mn (hQ _ _))))) (br_mn (mn_w_replaced (fun _ _ => (zt_mn (hQ _ _)))) (mn_w_inducts (fun _ _ => (zt_mn (hQ _ _)))))))))))))))))))))
theorem wp_w_concludes_184 {Q1 Q2 : Int → iST → Prop}  {x2 : Int} {x3 : Int} {x4 : Int} {x5 : Int} {y0 : Int} {u : iST} (hQ : ∀ r0 r1, Q1 r0 r1 → Q2 r0 r1) : w_concludes_184 Q1 x2 x3 x4 x5 y0 u → pw_concludes_184 Q2 x2 x3 x4 x5 y0 u := (bd_wp (rd_wp fun _ => (br_wp (wp_w_put (fun _ => (wp_w_notOf (fun _ _ => (wp_w_put (fun _ => (zt_wp (hQ _ _)))))))) (br_wp (wp_w_made2 (fun _ _ => (wp_w_put (fun _ => (zt_wp (hQ _ _)))))) (br_wp (wp_w_told (fun _ _ => (wp_w_constantOf (fun _ _ => (wp_w_made2 (fun _ _ => (wp_w_put (fun _ => (zt_wp (hQ _ _)))))))))) (br_wp (wp_w_made2 (fun _ _ => (wp_w_made (fun _ _ => (wp_w_made2 (fun _ _ => (wp_w_put (fun _ => (zt_wp (hQ _ _)))))))))) (br_wp (wp_w_made2 (fun _ _ => (wp_w_made (fun _ _ => (wp_w_made2 (fun _ _ => (wp_w_put (fun _ => (zt_wp (hQ _ _)))))))))) (br_wp (wp_w_made2 (fun _ _ => (wp_w_made (fun _ _ => (wp_w_put (fun _ => (zt_wp (hQ _ _)))))))) (br_wp (wp_w_notOf (fun _ _ => (wp_w_put (fun _ => (wp_w_made (fun _ _ => (wp_w_made2 (fun _ _ => (wp_w_put (fun _ => (zt_wp (hQ _ _)))))))))))) (br_wp (wp_w_put (fun _ => (wp_w_made (fun _ _ => (wp_w_made2 (fun _ _ => (wp_w_put (fun _ => (zt_wp (hQ _ _)))))))))) (br_wp (wp_w_nth (fun _ _ => (wp_w_definition (fun _ _ => (wp_w_defined (fun _ => (zt_wp (hQ _ _)))))))) (br_wp (wp_w_nth (fun _ _ => (wp_w_theoremOf (fun _ _ => (bd_wp (rd_wp fun _ => (wp_w_put (fun _ => (zt_wp (hQ _ _)))))))))) (br_wp (wp_w_pour (fun _ => (wp_w_nth (fun _ _ => (wp_w_concludes_522  hQ))))) (br_wp (wp_w_notOf (fun _ _ => (wp_w_has (fun _ _ => (br_wp (zt_wp (hQ _ _)) (ov_wp (wp_w_has (fun _ _ => (br_wp (wp_w_pour (fun _ => (ov_wp (wp_w_pour (fun _ => (zt_wp (hQ _ _))))))) (zt_wp (hQ _ _))))))))))) (br_wp (wp_w_instanced (fun _ _ => (zt_wp (hQ _ _)))) (br_wp (wp_w_beginsEqual (fun _ _ => (br_wp (ov_wp (bd_wp (rd_wp fun _ => (wp_w_term (fun _ _ => (ov_wp (bd_wp (rd_wp fun _ => (wp_w_term (fun _ _ => (wp_w_made2 (fun _ _ => (wp_w_put (fun _ => (ov_wp (bd_wp (rd_wp fun _ => (wp_w_pour (fun _ => (zt_wp (hQ _ _))))))))))))))))))))) (zt_wp (hQ _ _))))) (br_wp (wp_w_replaced (fun _ _ => (zt_wp (hQ _ _)))) (wp_w_inducts (fun _ _ => (zt_wp (hQ _ _)))))))))))))))))))))
def pw_concludes_170 (Q : Int → iST → Prop) (x2 : Int) (x3 : Int) (x4 : Int) (x5 : Int) (u : iST) : Prop :=
  pw_nth x2 3 (fun v6 u => 
  pw_termOf v6 (fun v7 u => 
  pw_concludes_184 Q x2 x3 x4 x5 v7 u) u) u
theorem cj_w_concludes_170 {Q1 Q2 Q3 : Int → iST → Prop}  {x2 : Int} {x3 : Int} {x4 : Int} {x5 : Int} {u : iST} (hQ : ∀ r0 r1, Q1 r0 r1 → Q2 r0 r1 → Q3 r0 r1) : w_concludes_170 Q1 x2 x3 x4 x5 u → pw_concludes_170 Q2 x2 x3 x4 x5 u → w_concludes_170 Q3 x2 x3 x4 x5 u := (cj_w_nth (fun _ _ => (cj_w_termOf (fun _ _ => (cj_w_concludes_184  hQ)))))
theorem mn_w_concludes_170 {Q1 Q2 : Int → iST → Prop}  {x2 : Int} {x3 : Int} {x4 : Int} {x5 : Int} {u : iST} (hQ : ∀ r0 r1, Q1 r0 r1 → Q2 r0 r1) : pw_concludes_170 Q1 x2 x3 x4 x5 u → pw_concludes_170 Q2 x2 x3 x4 x5 u := (mn_w_nth (fun _ _ => (mn_w_termOf (fun _ _ => (mn_w_concludes_184  hQ)))))
theorem wp_w_concludes_170 {Q1 Q2 : Int → iST → Prop}  {x2 : Int} {x3 : Int} {x4 : Int} {x5 : Int} {u : iST} (hQ : ∀ r0 r1, Q1 r0 r1 → Q2 r0 r1) : w_concludes_170 Q1 x2 x3 x4 x5 u → pw_concludes_170 Q2 x2 x3 x4 x5 u := (wp_w_nth (fun _ _ => (wp_w_termOf (fun _ _ => (wp_w_concludes_184  hQ)))))
def pw_concludes_146 (Q : Int → iST → Prop) (x2 : Int) (x3 : Int) (x4 : Int) (y0 : Int) (u : iST) : Prop :=
  bdp x2 452000 (rd (u.2.1 0 x2) (fun v5 => 
  br (v5 = 35) (
    pw_concludes_170 Q x2 x3 x4 y0 u) (
    bdp x2 452000 (rd (u.2.1 0 x2) (fun v88 => 
    br (v88 ≠ 36) (
      pw_concludes_184 Q x2 x3 x4 y0 (-1) u) (
      pw_concludes_170 Q x2 x3 x4 y0 u))))))
theorem cj_w_concludes_146 {Q1 Q2 Q3 : Int → iST → Prop}  {x2 : Int} {x3 : Int} {x4 : Int} {y0 : Int} {u : iST} (hQ : ∀ r0 r1, Q1 r0 r1 → Q2 r0 r1 → Q3 r0 r1) : w_concludes_146 Q1 x2 x3 x4 y0 u → pw_concludes_146 Q2 x2 x3 x4 y0 u → w_concludes_146 Q3 x2 x3 x4 y0 u := (bd_cj (rd_cj fun _ => (br_cj (cj_w_concludes_170  hQ) (bd_cj (rd_cj fun _ => (br_cj (cj_w_concludes_184  hQ) (cj_w_concludes_170  hQ)))))))
theorem mn_w_concludes_146 {Q1 Q2 : Int → iST → Prop}  {x2 : Int} {x3 : Int} {x4 : Int} {y0 : Int} {u : iST} (hQ : ∀ r0 r1, Q1 r0 r1 → Q2 r0 r1) : pw_concludes_146 Q1 x2 x3 x4 y0 u → pw_concludes_146 Q2 x2 x3 x4 y0 u := (bd_mn (rd_mn fun _ => (br_mn (mn_w_concludes_170  hQ) (bd_mn (rd_mn fun _ => (br_mn (mn_w_concludes_184  hQ) (mn_w_concludes_170  hQ)))))))
theorem wp_w_concludes_146 {Q1 Q2 : Int → iST → Prop}  {x2 : Int} {x3 : Int} {x4 : Int} {y0 : Int} {u : iST} (hQ : ∀ r0 r1, Q1 r0 r1 → Q2 r0 r1) : w_concludes_146 Q1 x2 x3 x4 y0 u → pw_concludes_146 Q2 x2 x3 x4 y0 u := (bd_wp (rd_wp fun _ => (br_wp (wp_w_concludes_170  hQ) (bd_wp (rd_wp fun _ => (br_wp (wp_w_concludes_184  hQ) (wp_w_concludes_170  hQ)))))))
def pw_concludes_145 (Q : Int → iST → Prop) (x2 : Int) (x3 : Int) (x4 : Int) (u : iST) : Prop :=
  pw_concludes_146 Q x2 x3 x4 (-1) u
theorem cj_w_concludes_145 {Q1 Q2 Q3 : Int → iST → Prop}  {x2 : Int} {x3 : Int} {x4 : Int} {u : iST} (hQ : ∀ r0 r1, Q1 r0 r1 → Q2 r0 r1 → Q3 r0 r1) : w_concludes_145 Q1 x2 x3 x4 u → pw_concludes_145 Q2 x2 x3 x4 u → w_concludes_145 Q3 x2 x3 x4 u := (cj_w_concludes_146  hQ)
theorem mn_w_concludes_145 {Q1 Q2 : Int → iST → Prop}  {x2 : Int} {x3 : Int} {x4 : Int} {u : iST} (hQ : ∀ r0 r1, Q1 r0 r1 → Q2 r0 r1) : pw_concludes_145 Q1 x2 x3 x4 u → pw_concludes_145 Q2 x2 x3 x4 u := (mn_w_concludes_146  hQ)
theorem wp_w_concludes_145 {Q1 Q2 : Int → iST → Prop}  {x2 : Int} {x3 : Int} {x4 : Int} {u : iST} (hQ : ∀ r0 r1, Q1 r0 r1 → Q2 r0 r1) : w_concludes_145 Q1 x2 x3 x4 u → pw_concludes_145 Q2 x2 x3 x4 u := (wp_w_concludes_146  hQ)
def pw_concludes_108 (Q : Int → iST → Prop) (x2 : Int) (x3 : Int) (y0 : Int) (u : iST) : Prop :=
  bdp x2 452000 (rd (u.2.1 0 x2) (fun v4 => 
  br (v4 < 32) (
    pw_concludes_145 Q x2 x3 y0 u) (
    bdp x2 452000 (rd (u.2.1 0 x2) (fun v89 => 
    br (36 < v89) (
      pw_concludes_145 Q x2 x3 y0 u) (
      pw_nth x2 2 (fun v90 u => 
      pw_termOf v90 (fun v91 u => 
      pw_concludes_146 Q x2 x3 y0 v91 u) u) u))))))
theorem cj_w_concludes_108 {Q1 Q2 Q3 : Int → iST → Prop}  {x2 : Int} {x3 : Int} {y0 : Int} {u : iST} (hQ : ∀ r0 r1, Q1 r0 r1 → Q2 r0 r1 → Q3 r0 r1) : w_concludes_108 Q1 x2 x3 y0 u → pw_concludes_108 Q2 x2 x3 y0 u → w_concludes_108 Q3 x2 x3 y0 u := (bd_cj (rd_cj fun _ => (br_cj (cj_w_concludes_145  hQ) (bd_cj (rd_cj fun _ => (br_cj (cj_w_concludes_145  hQ) (cj_w_nth (fun _ _ => (cj_w_termOf (fun _ _ => (cj_w_concludes_146  hQ)))))))))))
theorem mn_w_concludes_108 {Q1 Q2 : Int → iST → Prop}  {x2 : Int} {x3 : Int} {y0 : Int} {u : iST} (hQ : ∀ r0 r1, Q1 r0 r1 → Q2 r0 r1) : pw_concludes_108 Q1 x2 x3 y0 u → pw_concludes_108 Q2 x2 x3 y0 u := (bd_mn (rd_mn fun _ => (br_mn (mn_w_concludes_145  hQ) (bd_mn (rd_mn fun _ => (br_mn (mn_w_concludes_145  hQ) (mn_w_nth (fun _ _ => (mn_w_termOf (fun _ _ => (mn_w_concludes_146  hQ)))))))))))
theorem wp_w_concludes_108 {Q1 Q2 : Int → iST → Prop}  {x2 : Int} {x3 : Int} {y0 : Int} {u : iST} (hQ : ∀ r0 r1, Q1 r0 r1 → Q2 r0 r1) : w_concludes_108 Q1 x2 x3 y0 u → pw_concludes_108 Q2 x2 x3 y0 u := (bd_wp (rd_wp fun _ => (br_wp (wp_w_concludes_145  hQ) (bd_wp (rd_wp fun _ => (br_wp (wp_w_concludes_145  hQ) (wp_w_nth (fun _ _ => (wp_w_termOf (fun _ _ => (wp_w_concludes_146  hQ)))))))))))
def pw_concludes_107 (Q : Int → iST → Prop) (x2 : Int) (x3 : Int) (u : iST) : Prop :=
  pw_concludes_108 Q x2 x3 (-1) u
theorem cj_w_concludes_107 {Q1 Q2 Q3 : Int → iST → Prop}  {x2 : Int} {x3 : Int} {u : iST} (hQ : ∀ r0 r1, Q1 r0 r1 → Q2 r0 r1 → Q3 r0 r1) : w_concludes_107 Q1 x2 x3 u → pw_concludes_107 Q2 x2 x3 u → w_concludes_107 Q3 x2 x3 u := (cj_w_concludes_108  hQ)
theorem mn_w_concludes_107 {Q1 Q2 : Int → iST → Prop}  {x2 : Int} {x3 : Int} {u : iST} (hQ : ∀ r0 r1, Q1 r0 r1 → Q2 r0 r1) : pw_concludes_107 Q1 x2 x3 u → pw_concludes_107 Q2 x2 x3 u := (mn_w_concludes_108  hQ)
theorem wp_w_concludes_107 {Q1 Q2 : Int → iST → Prop}  {x2 : Int} {x3 : Int} {u : iST} (hQ : ∀ r0 r1, Q1 r0 r1 → Q2 r0 r1) : w_concludes_107 Q1 x2 x3 u → pw_concludes_107 Q2 x2 x3 u := (wp_w_concludes_108  hQ)
def pw_concludes (a0 : Int) (Q : Int → iST → Prop) (u : iST) : Prop :=
  bdp a0 40 (rd (u.2.1 141 a0) (fun v1 => 
  bdp a0 40 (rd (u.2.1 143 a0) (fun v2 => 
  sw (iI u 122 0) (fun u => 
  pw_lengthOf v1 (fun v3 u => 
  br (v3 ≤ 1) (
    pw_concludes_107 Q v1 v2 u) (
    bdp v1 452000 (rd (u.2.1 0 v1) (fun v92 => 
    br (v92 = 37) (
      pw_concludes_107 Q v1 v2 u) (
      bdp v1 452000 (rd (u.2.1 0 v1) (fun v93 => 
      br (v93 = 38) (
        pw_concludes_107 Q v1 v2 u) (
        bdp v1 452000 (rd (u.2.1 0 v1) (fun v94 => 
        br (v94 = 39) (
          pw_concludes_107 Q v1 v2 u) (
          bdp v1 452000 (rd (u.2.1 0 v1) (fun v95 => 
          br (v95 = 41) (
            pw_concludes_107 Q v1 v2 u) (
            bdp v1 452000 (rd (u.2.1 0 v1) (fun v96 => 
            br (v96 = 42) (
              pw_concludes_107 Q v1 v2 u) (
              bdp v1 452000 (rd (u.2.1 0 v1) (fun v97 => 
              br (v97 = 43) (
                pw_concludes_107 Q v1 v2 u) (
                pw_nth v1 1 (fun v98 u => 
                pw_termOf v98 (fun v99 u => 
                pw_concludes_108 Q v1 v2 v99 u) u) u)))))))))))))))))))) u)))))
theorem cj_w_concludes {Q1 Q2 Q3 : Int → iST → Prop}  {a0 : Int} {u : iST} (hQ : ∀ r0 r1, Q1 r0 r1 → Q2 r0 r1 → Q3 r0 r1) : w_concludes a0 Q1 u → pw_concludes a0 Q2 u → w_concludes a0 Q3 u := (bd_cj (rd_cj fun _ => (bd_cj (rd_cj fun _ => (sw_cj fun _ => (cj_w_lengthOf (fun _ _ => (br_cj (cj_w_concludes_107  hQ) (bd_cj (rd_cj fun _ => (br_cj (cj_w_concludes_107  hQ) (bd_cj (rd_cj fun _ => (br_cj (cj_w_concludes_107  hQ) (bd_cj (rd_cj fun _ => (br_cj (cj_w_concludes_107  hQ) (bd_cj (rd_cj fun _ => (br_cj (cj_w_concludes_107  hQ) (bd_cj (rd_cj fun _ => (br_cj (cj_w_concludes_107  hQ) (bd_cj (rd_cj fun _ => (br_cj (cj_w_concludes_107  hQ) (cj_w_nth (fun _ _ => (cj_w_termOf (fun _ _ => (cj_w_concludes_108  hQ)))))))))))))))))))))))))))))))
theorem mn_w_concludes {Q1 Q2 : Int → iST → Prop}  {a0 : Int} {u : iST} (hQ : ∀ r0 r1, Q1 r0 r1 → Q2 r0 r1) : pw_concludes a0 Q1 u → pw_concludes a0 Q2 u := (bd_mn (rd_mn fun _ => (bd_mn (rd_mn fun _ => (sw_mn fun _ => (mn_w_lengthOf (fun _ _ => (br_mn (mn_w_concludes_107  hQ) (bd_mn (rd_mn fun _ => (br_mn (mn_w_concludes_107  hQ) (bd_mn (rd_mn fun _ => (br_mn (mn_w_concludes_107  hQ) (bd_mn (rd_mn fun _ => (br_mn (mn_w_concludes_107  hQ) (bd_mn (rd_mn fun _ => (br_mn (mn_w_concludes_107  hQ) (bd_mn (rd_mn fun _ => (br_mn (mn_w_concludes_107  hQ) (bd_mn (rd_mn fun _ => (br_mn (mn_w_concludes_107  hQ) (mn_w_nth (fun _ _ => (mn_w_termOf (fun _ _ => (mn_w_concludes_108  hQ)))))))))))))))))))))))))))))))
theorem wp_w_concludes {Q1 Q2 : Int → iST → Prop}  {a0 : Int} {u : iST} (hQ : ∀ r0 r1, Q1 r0 r1 → Q2 r0 r1) : w_concludes a0 Q1 u → pw_concludes a0 Q2 u := (bd_wp (rd_wp fun _ => (bd_wp (rd_wp fun _ => (sw_wp fun _ => (wp_w_lengthOf (fun _ _ => (br_wp (wp_w_concludes_107  hQ) (bd_wp (rd_wp fun _ => (br_wp (wp_w_concludes_107  hQ) (bd_wp (rd_wp fun _ => (br_wp (wp_w_concludes_107  hQ) (bd_wp (rd_wp fun _ => (br_wp (wp_w_concludes_107  hQ) (bd_wp (rd_wp fun _ => (br_wp (wp_w_concludes_107  hQ) (bd_wp (rd_wp fun _ => (br_wp (wp_w_concludes_107  hQ) (bd_wp (rd_wp fun _ => (br_wp (wp_w_concludes_107  hQ) (wp_w_nth (fun _ _ => (wp_w_termOf (fun _ _ => (wp_w_concludes_108  hQ)))))))))))))))))))))))))))))))
def pw_goProof_115b (R115 : Int → iST → Prop) (Q : iST → Prop) (x4 : Int) (u : iST) : Prop :=
  rd (u.1 122) (fun v13 => 
  br (v13 ≤ x4) (
    rd (u.1 147) (fun v14 => 
    rd (u.1 122) (fun v15 => 
    bdp v14 350 (sw (iA u 146 v14 v15) (fun u => 
    rd (u.1 147) (fun v16 => 
    ovp (v16 + 1) (
    sw (iI u 147 (v16 + 1)) (fun u => 
    Q u)))))))) (
    rd (u.1 147) (fun v18 => 
    ovp (30 * v18) (
    ovp ((30 * v18) + x4) (
    bdp x4 1200 (rd (u.2.1 121 x4) (fun v21 => 
    bdp ((30 * v18) + x4) 10500 (sw (iA u 145 ((30 * v18) + x4) v21) (fun u => 
    ovp (x4 + 1) (
    R115 (x4 + 1) u))))))))))
theorem cj_w_goProof_115b {Q1 Q2 Q3 : iST → Prop} {R1151 R1152 R1153 : Int → iST → Prop} {x4 : Int} {u : iST} (hR115 : ∀ r0 r1, R1151 r0 r1 → R1152 r0 r1 → R1153 r0 r1) (hQ : ∀ r0, Q1 r0 → Q2 r0 → Q3 r0) : w_goProof_115b R1151 Q1 x4 u → pw_goProof_115b R1152 Q2 x4 u → w_goProof_115b R1153 Q3 x4 u := (rd_cj fun _ => (br_cj (rd_cj fun _ => (rd_cj fun _ => (bd_cj (sw_cj fun _ => (rd_cj fun _ => (ov_cj (sw_cj fun _ => (hQ _)))))))) (rd_cj fun _ => (ov_cj (ov_cj (bd_cj (rd_cj fun _ => (bd_cj (sw_cj fun _ => (ov_cj (hR115 _ _)))))))))))
theorem mn_w_goProof_115b {Q1 Q2 : iST → Prop} {R1151 R1152 : Int → iST → Prop} {x4 : Int} {u : iST} (hR115 : ∀ r0 r1, R1151 r0 r1 → R1152 r0 r1) (hQ : ∀ r0, Q1 r0 → Q2 r0) : pw_goProof_115b R1151 Q1 x4 u → pw_goProof_115b R1152 Q2 x4 u := (rd_mn fun _ => (br_mn (rd_mn fun _ => (rd_mn fun _ => (bd_mn (sw_mn fun _ => (rd_mn fun _ => (ov_mn (sw_mn fun _ => (hQ _)))))))) (rd_mn fun _ => (ov_mn (ov_mn (bd_mn (rd_mn fun _ => (bd_mn (sw_mn fun _ => (ov_mn (hR115 _ _)))))))))))
theorem wp_w_goProof_115b {Q1 Q2 : iST → Prop} {R1151 R1152 : Int → iST → Prop} {x4 : Int} {u : iST} (hR115 : ∀ r0 r1, R1151 r0 r1 → R1152 r0 r1) (hQ : ∀ r0, Q1 r0 → Q2 r0) : w_goProof_115b R1151 Q1 x4 u → pw_goProof_115b R1152 Q2 x4 u := (rd_wp fun _ => (br_wp (rd_wp fun _ => (rd_wp fun _ => (bd_wp (sw_wp fun _ => (rd_wp fun _ => (ov_wp (sw_wp fun _ => (hQ _)))))))) (rd_wp fun _ => (ov_wp (ov_wp (bd_wp (rd_wp fun _ => (bd_wp (sw_wp fun _ => (ov_wp (hR115 _ _)))))))))))
def pw_goProof_115 (Q : iST → Prop) (x4 : Int) (u : iST) : Prop := ∃ R115 : Int → iST → Prop, (∀ (x4 : Int) (u : iST), R115 x4 u → pw_goProof_115b R115 Q x4 u) ∧ R115 x4 u
theorem cj_w_goProof_115 {Q1 Q2 Q3 : iST → Prop}  {x4 : Int} {u : iST} (hQ : ∀ r0, Q1 r0 → Q2 r0 → Q3 r0) : w_goProof_115 Q1 x4 u → pw_goProof_115 Q2 x4 u → w_goProof_115 Q3 x4 u := by
  intro a b R3 c3
  obtain ⟨R2, c2, b2⟩ := b
  exact a (fun r0 r1 => R2 r0 r1 → R3 r0 r1) (fun r0 r1 a b => c3 r0 r1 (cj_w_goProof_115b (fun r0 r1 a b => a b) hQ a (c2 r0 r1 b))) b2
theorem pw_goProof_115_i  {Q : iST → Prop} {x4 : Int} {u : iST} (I : Int → iST → Prop) (s : ∀ (x4 : Int) (u : iST), I x4 u → pw_goProof_115b I Q x4 u) (h : I x4 u) : pw_goProof_115 Q x4 u := ⟨I, s, h⟩
theorem mn_w_goProof_115 {Q1 Q2 : iST → Prop}  {x4 : Int} {u : iST} (hQ : ∀ r0, Q1 r0 → Q2 r0) : pw_goProof_115 Q1 x4 u → pw_goProof_115 Q2 x4 u := fun ⟨R, s, h⟩ => ⟨R, fun r0 r1 a => mn_w_goProof_115b (fun r0 r1 a => a) hQ (s r0 r1 a), h⟩
theorem un_w_goProof_115  {Q : iST → Prop} {x4 : Int} {u : iST} : pw_goProof_115 Q x4 u → pw_goProof_115b (fun x4 u => pw_goProof_115 Q x4 u) Q x4 u := fun ⟨R, s, h⟩ => mn_w_goProof_115b (fun r0 r1 a => ⟨R, s, a⟩) (fun _ h => h) (s _ _ h)
theorem fo_w_goProof_115  {Q : iST → Prop} {x4 : Int} {u : iST} : pw_goProof_115b (fun x4 u => pw_goProof_115 Q x4 u) Q x4 u → pw_goProof_115 Q x4 u := fun h => ⟨fun x4 u => pw_goProof_115b (fun x4 u => pw_goProof_115 Q x4 u) Q x4 u, fun r0 r1 a => mn_w_goProof_115b (fun r0 r1 a => un_w_goProof_115 a) (fun _ h => h) a, h⟩
theorem wp_w_goProof_115 {Q1 Q2 : iST → Prop}  {x4 : Int} {u : iST} (hQ : ∀ r0, Q1 r0 → Q2 r0) : w_goProof_115 Q1 x4 u → pw_goProof_115 Q2 x4 u := fun a => a (fun x4 u => pw_goProof_115 Q2 x4 u) (fun x4 u b => fo_w_goProof_115 (wp_w_goProof_115b (fun r0 r1 a => a) hQ b))
def pw_goProof (Q : iST → Prop) (u : iST) : Prop :=
  rd (u.1 144) (fun v1 => 
  ovp (v1 - 1) (
  bdp (v1 - 1) 40 (rd (u.2.1 141 (v1 - 1)) (fun v3 => 
  bdp (v1 - 1) 40 (rd (u.2.1 142 (v1 - 1)) (fun v4 => 
  pw_partsTo v3 (fun v5 u => 
  br (v5 ≤ v4) (
    pw_concludes (v1 - 1) (fun v6 u => 
    rd (u.1 61) (fun v7 => 
    br (v7 = 0) (
      br (v6 ≠ 0) (
        pw_bounded (fun u => 
        rd (u.1 61) (fun v9 => 
        br (v9 = 0) (
          rd (u.1 144) (fun v10 => 
          ovp (v10 - 1) (
          sw (iI u 144 (v10 - 1)) (fun u => 
          bdp (v1 - 1) 40 (rd (u.2.1 143 (v1 - 1)) (fun v12 => 
          sw (iI u 147 v12) (fun u => 
          pw_goProof_115 Q 0 u))))))) (
          Q u))) u) (
        sw (iI u 148 v3) (fun u => 
        Q u))) (
      Q u))) u) (
    bdp (v1 - 1) 40 (rd (u.2.1 142 (v1 - 1)) (fun v23 => 
    ovp (v23 + 1) (
    bdp (v1 - 1) 40 (sw (iA u 142 (v1 - 1) (v23 + 1)) (fun u => 
    bdp (v1 - 1) 40 (rd (u.2.1 142 (v1 - 1)) (fun v25 => 
    ovp (v25 - 1) (
    pw_nth v3 (v25 - 1) (fun v27 u => 
    pw_beginProof v27 (fun u => 
    Q u) u) u)))))))))) u))))))
theorem cj_w_goProof {Q1 Q2 Q3 : iST → Prop}  {u : iST} (hQ : ∀ r0, Q1 r0 → Q2 r0 → Q3 r0) : w_goProof Q1 u → pw_goProof Q2 u → w_goProof Q3 u := (rd_cj fun _ => (ov_cj (bd_cj (rd_cj fun _ => (bd_cj (rd_cj fun _ => (cj_w_partsTo (fun _ _ => (br_cj (cj_w_concludes (fun _ _ => (rd_cj fun _ => (br_cj (br_cj (cj_w_bounded (fun _ => (rd_cj fun _ => (br_cj (rd_cj fun _ => (ov_cj (sw_cj fun _ => (bd_cj (rd_cj fun _ => (sw_cj fun _ => (cj_w_goProof_115  hQ))))))) (hQ _))))) (sw_cj fun _ => (hQ _))) (hQ _))))) (bd_cj (rd_cj fun _ => (ov_cj (bd_cj (sw_cj fun _ => (bd_cj (rd_cj fun _ => (ov_cj (cj_w_nth (fun _ _ => (cj_w_beginProof (fun _ => (hQ _))))))))))))))))))))))
theorem mn_w_goProof {Q1 Q2 : iST → Prop}  {u : iST} (hQ : ∀ r0, Q1 r0 → Q2 r0) : pw_goProof Q1 u → pw_goProof Q2 u := (rd_mn fun _ => (ov_mn (bd_mn (rd_mn fun _ => (bd_mn (rd_mn fun _ => (mn_w_partsTo (fun _ _ => (br_mn (mn_w_concludes (fun _ _ => (rd_mn fun _ => (br_mn (br_mn (mn_w_bounded (fun _ => (rd_mn fun _ => (br_mn (rd_mn fun _ => (ov_mn (sw_mn fun _ => (bd_mn (rd_mn fun _ => (sw_mn fun _ => (mn_w_goProof_115  hQ))))))) (hQ _))))) (sw_mn fun _ => (hQ _))) (hQ _))))) (bd_mn (rd_mn fun _ => (ov_mn (bd_mn (sw_mn fun _ => (bd_mn (rd_mn fun _ => (ov_mn (mn_w_nth (fun _ _ => (mn_w_beginProof (fun _ => (hQ _))))))))))))))))))))))
theorem wp_w_goProof {Q1 Q2 : iST → Prop}  {u : iST} (hQ : ∀ r0, Q1 r0 → Q2 r0) : w_goProof Q1 u → pw_goProof Q2 u := (rd_wp fun _ => (ov_wp (bd_wp (rd_wp fun _ => (bd_wp (rd_wp fun _ => (wp_w_partsTo (fun _ _ => (br_wp (wp_w_concludes (fun _ _ => (rd_wp fun _ => (br_wp (br_wp (wp_w_bounded (fun _ => (rd_wp fun _ => (br_wp (rd_wp fun _ => (ov_wp (sw_wp fun _ => (bd_wp (rd_wp fun _ => (sw_wp fun _ => (wp_w_goProof_115  hQ))))))) (hQ _))))) (sw_wp fun _ => (hQ _))) (hQ _))))) (bd_wp (rd_wp fun _ => (ov_wp (bd_wp (sw_wp fun _ => (bd_wp (rd_wp fun _ => (ov_wp (wp_w_nth (fun _ _ => (wp_w_beginProof (fun _ => (hQ _))))))))))))))))))))))
def pw_check_198b (R198 : Int → Int → iST → Prop) (Q : Int → iST → Prop) (x5 : Int) (x6 : Int) (u : iST) : Prop :=
  br (x6 < 0) (
    pw_tellOut x5 (fun u => 
    Q 7 u) u) (
    bdp x6 10500 (rd (u.2.1 145 x6) (fun v23 => 
    pw_pair v23 x5 (fun v24 u => 
    ovp (x6 + (-1)) (
    R198 v24 (x6 + (-1)) u)) u)))
theorem cj_w_check_198b {Q1 Q2 Q3 : Int → iST → Prop} {R1981 R1982 R1983 : Int → Int → iST → Prop} {x5 : Int} {x6 : Int} {u : iST} (hR198 : ∀ r0 r1 r2, R1981 r0 r1 r2 → R1982 r0 r1 r2 → R1983 r0 r1 r2) (hQ : ∀ r0 r1, Q1 r0 r1 → Q2 r0 r1 → Q3 r0 r1) : w_check_198b R1981 Q1 x5 x6 u → pw_check_198b R1982 Q2 x5 x6 u → w_check_198b R1983 Q3 x5 x6 u := (br_cj (cj_w_tellOut (fun _ => (hQ _ _))) (bd_cj (rd_cj fun _ => (cj_w_pair (fun _ _ => (ov_cj (hR198 _ _ _)))))))
theorem mn_w_check_198b {Q1 Q2 : Int → iST → Prop} {R1981 R1982 : Int → Int → iST → Prop} {x5 : Int} {x6 : Int} {u : iST} (hR198 : ∀ r0 r1 r2, R1981 r0 r1 r2 → R1982 r0 r1 r2) (hQ : ∀ r0 r1, Q1 r0 r1 → Q2 r0 r1) : pw_check_198b R1981 Q1 x5 x6 u → pw_check_198b R1982 Q2 x5 x6 u := (br_mn (mn_w_tellOut (fun _ => (hQ _ _))) (bd_mn (rd_mn fun _ => (mn_w_pair (fun _ _ => (ov_mn (hR198 _ _ _)))))))
theorem wp_w_check_198b {Q1 Q2 : Int → iST → Prop} {R1981 R1982 : Int → Int → iST → Prop} {x5 : Int} {x6 : Int} {u : iST} (hR198 : ∀ r0 r1 r2, R1981 r0 r1 r2 → R1982 r0 r1 r2) (hQ : ∀ r0 r1, Q1 r0 r1 → Q2 r0 r1) : w_check_198b R1981 Q1 x5 x6 u → pw_check_198b R1982 Q2 x5 x6 u := (br_wp (wp_w_tellOut (fun _ => (hQ _ _))) (bd_wp (rd_wp fun _ => (wp_w_pair (fun _ _ => (ov_wp (hR198 _ _ _)))))))
def pw_check_198 (Q : Int → iST → Prop) (x5 : Int) (x6 : Int) (u : iST) : Prop := ∃ R198 : Int → Int → iST → Prop, (∀ (x5 : Int) (x6 : Int) (u : iST), R198 x5 x6 u → pw_check_198b R198 Q x5 x6 u) ∧ R198 x5 x6 u
theorem cj_w_check_198 {Q1 Q2 Q3 : Int → iST → Prop}  {x5 : Int} {x6 : Int} {u : iST} (hQ : ∀ r0 r1, Q1 r0 r1 → Q2 r0 r1 → Q3 r0 r1) : w_check_198 Q1 x5 x6 u → pw_check_198 Q2 x5 x6 u → w_check_198 Q3 x5 x6 u := by
  intro a b R3 c3
  obtain ⟨R2, c2, b2⟩ := b
  exact a (fun r0 r1 r2 => R2 r0 r1 r2 → R3 r0 r1 r2) (fun r0 r1 r2 a b => c3 r0 r1 r2 (cj_w_check_198b (fun r0 r1 r2 a b => a b) hQ a (c2 r0 r1 r2 b))) b2
theorem pw_check_198_i  {Q : Int → iST → Prop} {x5 : Int} {x6 : Int} {u : iST} (I : Int → Int → iST → Prop) (s : ∀ (x5 : Int) (x6 : Int) (u : iST), I x5 x6 u → pw_check_198b I Q x5 x6 u) (h : I x5 x6 u) : pw_check_198 Q x5 x6 u := ⟨I, s, h⟩
theorem mn_w_check_198 {Q1 Q2 : Int → iST → Prop}  {x5 : Int} {x6 : Int} {u : iST} (hQ : ∀ r0 r1, Q1 r0 r1 → Q2 r0 r1) : pw_check_198 Q1 x5 x6 u → pw_check_198 Q2 x5 x6 u := fun ⟨R, s, h⟩ => ⟨R, fun r0 r1 r2 a => mn_w_check_198b (fun r0 r1 r2 a => a) hQ (s r0 r1 r2 a), h⟩
theorem un_w_check_198  {Q : Int → iST → Prop} {x5 : Int} {x6 : Int} {u : iST} : pw_check_198 Q x5 x6 u → pw_check_198b (fun x5 x6 u => pw_check_198 Q x5 x6 u) Q x5 x6 u := fun ⟨R, s, h⟩ => mn_w_check_198b (fun r0 r1 r2 a => ⟨R, s, a⟩) (fun _ _ h => h) (s _ _ _ h)
theorem fo_w_check_198  {Q : Int → iST → Prop} {x5 : Int} {x6 : Int} {u : iST} : pw_check_198b (fun x5 x6 u => pw_check_198 Q x5 x6 u) Q x5 x6 u → pw_check_198 Q x5 x6 u := fun h => ⟨fun x5 x6 u => pw_check_198b (fun x5 x6 u => pw_check_198 Q x5 x6 u) Q x5 x6 u, fun r0 r1 r2 a => mn_w_check_198b (fun r0 r1 r2 a => un_w_check_198 a) (fun _ _ h => h) a, h⟩
theorem wp_w_check_198 {Q1 Q2 : Int → iST → Prop}  {x5 : Int} {x6 : Int} {u : iST} (hQ : ∀ r0 r1, Q1 r0 r1 → Q2 r0 r1) : w_check_198 Q1 x5 x6 u → pw_check_198 Q2 x5 x6 u := fun a => a (fun x5 x6 u => pw_check_198 Q2 x5 x6 u) (fun x5 x6 u b => fo_w_check_198 (wp_w_check_198b (fun r0 r1 r2 a => a) hQ b))
def pw_check_160b (R160 : Int → Int → Int → Int → iST → Prop) (Q : Int → iST → Prop) (x1 : Int) (x2 : Int) (x3 : Int) (x4 : Int) (u : iST) : Prop :=
  bdp 0 350 (rd (u.2.1 146 0) (fun v15 => 
  br (v15 ≤ x4) (
    pw_forget x3 (fun u => 
    pw_nth x1 1 (fun v17 u => 
    pw_addTheorem v17 x2 3 (fun u => 
    Q 0 u) u) u) u) (
    bdp x4 10500 (rd (u.2.1 145 x4) (fun v19 => 
    br (v19 ≠ x2) (
      bdp 0 350 (rd (u.2.1 146 0) (fun v20 => 
      ovp (v20 - 1) (
      pw_check_198 Q 0 (v20 - 1) u)))) (
      ovp (x4 + 1) (
      R160 x1 x2 x3 (x4 + 1) u)))))))
theorem cj_w_check_160b {Q1 Q2 Q3 : Int → iST → Prop} {R1601 R1602 R1603 : Int → Int → Int → Int → iST → Prop} {x1 : Int} {x2 : Int} {x3 : Int} {x4 : Int} {u : iST} (hR160 : ∀ r0 r1 r2 r3 r4, R1601 r0 r1 r2 r3 r4 → R1602 r0 r1 r2 r3 r4 → R1603 r0 r1 r2 r3 r4) (hQ : ∀ r0 r1, Q1 r0 r1 → Q2 r0 r1 → Q3 r0 r1) : w_check_160b R1601 Q1 x1 x2 x3 x4 u → pw_check_160b R1602 Q2 x1 x2 x3 x4 u → w_check_160b R1603 Q3 x1 x2 x3 x4 u := (bd_cj (rd_cj fun _ => (br_cj (cj_w_forget (fun _ => (cj_w_nth (fun _ _ => (cj_w_addTheorem (fun _ => (hQ _ _))))))) (bd_cj (rd_cj fun _ => (br_cj (bd_cj (rd_cj fun _ => (ov_cj (cj_w_check_198  hQ)))) (ov_cj (hR160 _ _ _ _ _))))))))
theorem mn_w_check_160b {Q1 Q2 : Int → iST → Prop} {R1601 R1602 : Int → Int → Int → Int → iST → Prop} {x1 : Int} {x2 : Int} {x3 : Int} {x4 : Int} {u : iST} (hR160 : ∀ r0 r1 r2 r3 r4, R1601 r0 r1 r2 r3 r4 → R1602 r0 r1 r2 r3 r4) (hQ : ∀ r0 r1, Q1 r0 r1 → Q2 r0 r1) : pw_check_160b R1601 Q1 x1 x2 x3 x4 u → pw_check_160b R1602 Q2 x1 x2 x3 x4 u := (bd_mn (rd_mn fun _ => (br_mn (mn_w_forget (fun _ => (mn_w_nth (fun _ _ => (mn_w_addTheorem (fun _ => (hQ _ _))))))) (bd_mn (rd_mn fun _ => (br_mn (bd_mn (rd_mn fun _ => (ov_mn (mn_w_check_198  hQ)))) (ov_mn (hR160 _ _ _ _ _))))))))
theorem wp_w_check_160b {Q1 Q2 : Int → iST → Prop} {R1601 R1602 : Int → Int → Int → Int → iST → Prop} {x1 : Int} {x2 : Int} {x3 : Int} {x4 : Int} {u : iST} (hR160 : ∀ r0 r1 r2 r3 r4, R1601 r0 r1 r2 r3 r4 → R1602 r0 r1 r2 r3 r4) (hQ : ∀ r0 r1, Q1 r0 r1 → Q2 r0 r1) : w_check_160b R1601 Q1 x1 x2 x3 x4 u → pw_check_160b R1602 Q2 x1 x2 x3 x4 u := (bd_wp (rd_wp fun _ => (br_wp (wp_w_forget (fun _ => (wp_w_nth (fun _ _ => (wp_w_addTheorem (fun _ => (hQ _ _))))))) (bd_wp (rd_wp fun _ => (br_wp (bd_wp (rd_wp fun _ => (ov_wp (wp_w_check_198  hQ)))) (ov_wp (hR160 _ _ _ _ _))))))))
def pw_check_160 (Q : Int → iST → Prop) (x1 : Int) (x2 : Int) (x3 : Int) (x4 : Int) (u : iST) : Prop := ∃ R160 : Int → Int → Int → Int → iST → Prop, (∀ (x1 : Int) (x2 : Int) (x3 : Int) (x4 : Int) (u : iST), R160 x1 x2 x3 x4 u → pw_check_160b R160 Q x1 x2 x3 x4 u) ∧ R160 x1 x2 x3 x4 u
theorem cj_w_check_160 {Q1 Q2 Q3 : Int → iST → Prop}  {x1 : Int} {x2 : Int} {x3 : Int} {x4 : Int} {u : iST} (hQ : ∀ r0 r1, Q1 r0 r1 → Q2 r0 r1 → Q3 r0 r1) : w_check_160 Q1 x1 x2 x3 x4 u → pw_check_160 Q2 x1 x2 x3 x4 u → w_check_160 Q3 x1 x2 x3 x4 u := by
  intro a b R3 c3
  obtain ⟨R2, c2, b2⟩ := b
  exact a (fun r0 r1 r2 r3 r4 => R2 r0 r1 r2 r3 r4 → R3 r0 r1 r2 r3 r4) (fun r0 r1 r2 r3 r4 a b => c3 r0 r1 r2 r3 r4 (cj_w_check_160b (fun r0 r1 r2 r3 r4 a b => a b) hQ a (c2 r0 r1 r2 r3 r4 b))) b2
theorem pw_check_160_i  {Q : Int → iST → Prop} {x1 : Int} {x2 : Int} {x3 : Int} {x4 : Int} {u : iST} (I : Int → Int → Int → Int → iST → Prop) (s : ∀ (x1 : Int) (x2 : Int) (x3 : Int) (x4 : Int) (u : iST), I x1 x2 x3 x4 u → pw_check_160b I Q x1 x2 x3 x4 u) (h : I x1 x2 x3 x4 u) : pw_check_160 Q x1 x2 x3 x4 u := ⟨I, s, h⟩
theorem mn_w_check_160 {Q1 Q2 : Int → iST → Prop}  {x1 : Int} {x2 : Int} {x3 : Int} {x4 : Int} {u : iST} (hQ : ∀ r0 r1, Q1 r0 r1 → Q2 r0 r1) : pw_check_160 Q1 x1 x2 x3 x4 u → pw_check_160 Q2 x1 x2 x3 x4 u := fun ⟨R, s, h⟩ => ⟨R, fun r0 r1 r2 r3 r4 a => mn_w_check_160b (fun r0 r1 r2 r3 r4 a => a) hQ (s r0 r1 r2 r3 r4 a), h⟩
theorem un_w_check_160  {Q : Int → iST → Prop} {x1 : Int} {x2 : Int} {x3 : Int} {x4 : Int} {u : iST} : pw_check_160 Q x1 x2 x3 x4 u → pw_check_160b (fun x1 x2 x3 x4 u => pw_check_160 Q x1 x2 x3 x4 u) Q x1 x2 x3 x4 u := fun ⟨R, s, h⟩ => mn_w_check_160b (fun r0 r1 r2 r3 r4 a => ⟨R, s, a⟩) (fun _ _ h => h) (s _ _ _ _ _ h)
theorem fo_w_check_160  {Q : Int → iST → Prop} {x1 : Int} {x2 : Int} {x3 : Int} {x4 : Int} {u : iST} : pw_check_160b (fun x1 x2 x3 x4 u => pw_check_160 Q x1 x2 x3 x4 u) Q x1 x2 x3 x4 u → pw_check_160 Q x1 x2 x3 x4 u := fun h => ⟨fun x1 x2 x3 x4 u => pw_check_160b (fun x1 x2 x3 x4 u => pw_check_160 Q x1 x2 x3 x4 u) Q x1 x2 x3 x4 u, fun r0 r1 r2 r3 r4 a => mn_w_check_160b (fun r0 r1 r2 r3 r4 a => un_w_check_160 a) (fun _ _ h => h) a, h⟩
theorem wp_w_check_160 {Q1 Q2 : Int → iST → Prop}  {x1 : Int} {x2 : Int} {x3 : Int} {x4 : Int} {u : iST} (hQ : ∀ r0 r1, Q1 r0 r1 → Q2 r0 r1) : w_check_160 Q1 x1 x2 x3 x4 u → pw_check_160 Q2 x1 x2 x3 x4 u := fun a => a (fun x1 x2 x3 x4 u => pw_check_160 Q2 x1 x2 x3 x4 u) (fun x1 x2 x3 x4 u b => fo_w_check_160 (wp_w_check_160b (fun r0 r1 r2 r3 r4 a => a) hQ b))
def pw_check_129 (Q : Int → iST → Prop) (x1 : Int) (x2 : Int) (x3 : Int) (u : iST) : Prop :=
  rd (u.1 61) (fun v13 => 
  br (v13 = 0) (
    rd (u.1 148) (fun v14 => 
    br (v14 = (-1)) (
      pw_check_160 Q x1 x2 x3 0 u) (
      rd (u.1 148) (fun v27 => 
      pw_tellOut v27 (fun u => 
      Q 7 u) u)))) (
    Q 4 u))
theorem cj_w_check_129 {Q1 Q2 Q3 : Int → iST → Prop}  {x1 : Int} {x2 : Int} {x3 : Int} {u : iST} (hQ : ∀ r0 r1, Q1 r0 r1 → Q2 r0 r1 → Q3 r0 r1) : w_check_129 Q1 x1 x2 x3 u → pw_check_129 Q2 x1 x2 x3 u → w_check_129 Q3 x1 x2 x3 u := (rd_cj fun _ => (br_cj (rd_cj fun _ => (br_cj (cj_w_check_160  hQ) (rd_cj fun _ => (cj_w_tellOut (fun _ => (hQ _ _)))))) (hQ _ _)))
theorem mn_w_check_129 {Q1 Q2 : Int → iST → Prop}  {x1 : Int} {x2 : Int} {x3 : Int} {u : iST} (hQ : ∀ r0 r1, Q1 r0 r1 → Q2 r0 r1) : pw_check_129 Q1 x1 x2 x3 u → pw_check_129 Q2 x1 x2 x3 u := (rd_mn fun _ => (br_mn (rd_mn fun _ => (br_mn (mn_w_check_160  hQ) (rd_mn fun _ => (mn_w_tellOut (fun _ => (hQ _ _)))))) (hQ _ _)))
theorem wp_w_check_129 {Q1 Q2 : Int → iST → Prop}  {x1 : Int} {x2 : Int} {x3 : Int} {u : iST} (hQ : ∀ r0 r1, Q1 r0 r1 → Q2 r0 r1) : w_check_129 Q1 x1 x2 x3 u → pw_check_129 Q2 x1 x2 x3 u := (rd_wp fun _ => (br_wp (rd_wp fun _ => (br_wp (wp_w_check_160  hQ) (rd_wp fun _ => (wp_w_tellOut (fun _ => (hQ _ _)))))) (hQ _ _)))
def pw_check_100b (R100 : Int → Int → Int → iST → Prop) (Q : Int → iST → Prop) (x1 : Int) (x2 : Int) (x3 : Int) (u : iST) : Prop :=
  rd (u.1 61) (fun v12 => 
  br (v12 ≠ 0) (
    pw_check_129 Q x1 x2 x3 u) (
    rd (u.1 148) (fun v29 => 
    br (v29 ≠ (-1)) (
      pw_check_129 Q x1 x2 x3 u) (
      rd (u.1 144) (fun v30 => 
      br (v30 ≤ 0) (
        pw_check_129 Q x1 x2 x3 u) (
        pw_goProof (fun u => 
        R100 x1 x2 x3 u) u))))))
theorem cj_w_check_100b {Q1 Q2 Q3 : Int → iST → Prop} {R1001 R1002 R1003 : Int → Int → Int → iST → Prop} {x1 : Int} {x2 : Int} {x3 : Int} {u : iST} (hR100 : ∀ r0 r1 r2 r3, R1001 r0 r1 r2 r3 → R1002 r0 r1 r2 r3 → R1003 r0 r1 r2 r3) (hQ : ∀ r0 r1, Q1 r0 r1 → Q2 r0 r1 → Q3 r0 r1) : w_check_100b R1001 Q1 x1 x2 x3 u → pw_check_100b R1002 Q2 x1 x2 x3 u → w_check_100b R1003 Q3 x1 x2 x3 u := (rd_cj fun _ => (br_cj (cj_w_check_129  hQ) (rd_cj fun _ => (br_cj (cj_w_check_129  hQ) (rd_cj fun _ => (br_cj (cj_w_check_129  hQ) (cj_w_goProof (fun _ => (hR100 _ _ _ _)))))))))
theorem mn_w_check_100b {Q1 Q2 : Int → iST → Prop} {R1001 R1002 : Int → Int → Int → iST → Prop} {x1 : Int} {x2 : Int} {x3 : Int} {u : iST} (hR100 : ∀ r0 r1 r2 r3, R1001 r0 r1 r2 r3 → R1002 r0 r1 r2 r3) (hQ : ∀ r0 r1, Q1 r0 r1 → Q2 r0 r1) : pw_check_100b R1001 Q1 x1 x2 x3 u → pw_check_100b R1002 Q2 x1 x2 x3 u := (rd_mn fun _ => (br_mn (mn_w_check_129  hQ) (rd_mn fun _ => (br_mn (mn_w_check_129  hQ) (rd_mn fun _ => (br_mn (mn_w_check_129  hQ) (mn_w_goProof (fun _ => (hR100 _ _ _ _)))))))))
theorem wp_w_check_100b {Q1 Q2 : Int → iST → Prop} {R1001 R1002 : Int → Int → Int → iST → Prop} {x1 : Int} {x2 : Int} {x3 : Int} {u : iST} (hR100 : ∀ r0 r1 r2 r3, R1001 r0 r1 r2 r3 → R1002 r0 r1 r2 r3) (hQ : ∀ r0 r1, Q1 r0 r1 → Q2 r0 r1) : w_check_100b R1001 Q1 x1 x2 x3 u → pw_check_100b R1002 Q2 x1 x2 x3 u := (rd_wp fun _ => (br_wp (wp_w_check_129  hQ) (rd_wp fun _ => (br_wp (wp_w_check_129  hQ) (rd_wp fun _ => (br_wp (wp_w_check_129  hQ) (wp_w_goProof (fun _ => (hR100 _ _ _ _)))))))))
def pw_check_100 (Q : Int → iST → Prop) (x1 : Int) (x2 : Int) (x3 : Int) (u : iST) : Prop := ∃ R100 : Int → Int → Int → iST → Prop, (∀ (x1 : Int) (x2 : Int) (x3 : Int) (u : iST), R100 x1 x2 x3 u → pw_check_100b R100 Q x1 x2 x3 u) ∧ R100 x1 x2 x3 u
theorem cj_w_check_100 {Q1 Q2 Q3 : Int → iST → Prop}  {x1 : Int} {x2 : Int} {x3 : Int} {u : iST} (hQ : ∀ r0 r1, Q1 r0 r1 → Q2 r0 r1 → Q3 r0 r1) : w_check_100 Q1 x1 x2 x3 u → pw_check_100 Q2 x1 x2 x3 u → w_check_100 Q3 x1 x2 x3 u := by
  intro a b R3 c3
  obtain ⟨R2, c2, b2⟩ := b
  exact a (fun r0 r1 r2 r3 => R2 r0 r1 r2 r3 → R3 r0 r1 r2 r3) (fun r0 r1 r2 r3 a b => c3 r0 r1 r2 r3 (cj_w_check_100b (fun r0 r1 r2 r3 a b => a b) hQ a (c2 r0 r1 r2 r3 b))) b2
theorem pw_check_100_i  {Q : Int → iST → Prop} {x1 : Int} {x2 : Int} {x3 : Int} {u : iST} (I : Int → Int → Int → iST → Prop) (s : ∀ (x1 : Int) (x2 : Int) (x3 : Int) (u : iST), I x1 x2 x3 u → pw_check_100b I Q x1 x2 x3 u) (h : I x1 x2 x3 u) : pw_check_100 Q x1 x2 x3 u := ⟨I, s, h⟩
theorem mn_w_check_100 {Q1 Q2 : Int → iST → Prop}  {x1 : Int} {x2 : Int} {x3 : Int} {u : iST} (hQ : ∀ r0 r1, Q1 r0 r1 → Q2 r0 r1) : pw_check_100 Q1 x1 x2 x3 u → pw_check_100 Q2 x1 x2 x3 u := fun ⟨R, s, h⟩ => ⟨R, fun r0 r1 r2 r3 a => mn_w_check_100b (fun r0 r1 r2 r3 a => a) hQ (s r0 r1 r2 r3 a), h⟩
theorem un_w_check_100  {Q : Int → iST → Prop} {x1 : Int} {x2 : Int} {x3 : Int} {u : iST} : pw_check_100 Q x1 x2 x3 u → pw_check_100b (fun x1 x2 x3 u => pw_check_100 Q x1 x2 x3 u) Q x1 x2 x3 u := fun ⟨R, s, h⟩ => mn_w_check_100b (fun r0 r1 r2 r3 a => ⟨R, s, a⟩) (fun _ _ h => h) (s _ _ _ _ h)
theorem fo_w_check_100  {Q : Int → iST → Prop} {x1 : Int} {x2 : Int} {x3 : Int} {u : iST} : pw_check_100b (fun x1 x2 x3 u => pw_check_100 Q x1 x2 x3 u) Q x1 x2 x3 u → pw_check_100 Q x1 x2 x3 u := fun h => ⟨fun x1 x2 x3 u => pw_check_100b (fun x1 x2 x3 u => pw_check_100 Q x1 x2 x3 u) Q x1 x2 x3 u, fun r0 r1 r2 r3 a => mn_w_check_100b (fun r0 r1 r2 r3 a => un_w_check_100 a) (fun _ _ h => h) a, h⟩
theorem wp_w_check_100 {Q1 Q2 : Int → iST → Prop}  {x1 : Int} {x2 : Int} {x3 : Int} {u : iST} (hQ : ∀ r0 r1, Q1 r0 r1 → Q2 r0 r1) : w_check_100 Q1 x1 x2 x3 u → pw_check_100 Q2 x1 x2 x3 u := fun a => a (fun x1 x2 x3 u => pw_check_100 Q2 x1 x2 x3 u) (fun x1 x2 x3 u b => fo_w_check_100 (wp_w_check_100b (fun r0 r1 r2 r3 a => a) hQ b))
def pw_check (a0 : Int) (Q : Int → iST → Prop) (u : iST) : Prop :=
  pw_lengthOf a0 (fun v1 u => 
  br (v1 ≠ 4) (
    Q 2 u) (
    pw_nth a0 1 (fun v2 u => 
    pw_isNewName v2 (fun v3 u => 
    br (v3 ≠ 0) (
      pw_nth a0 2 (fun v4 u => 
      pw_termOf v4 (fun v5 u => 
      br (v5 ≠ (-1)) (
        pw_nth a0 1 (fun v6 u => 
        pw_theoremOf v6 (fun v7 u => 
        br (v7 = (-1)) (
          rd (u.1 42) (fun v8 => 
          br (v8 ≠ 60) (
            rd (u.1 8) (fun v9 => 
            sw (iI u 144 0) (fun u => 
            sw (iI u 147 0) (fun u => 
            sw (iI u 148 (-1)) (fun u => 
            pw_nth a0 3 (fun v10 u => 
            pw_beginProof v10 (fun u => 
            pw_check_100 Q a0 v5 v9 u) u) u))))) (
            Q 8 u))) (
          Q 3 u)) u) u) (
        Q 2 u)) u) u) (
      Q 2 u)) u) u)) u
theorem cj_w_check {Q1 Q2 Q3 : Int → iST → Prop}  {a0 : Int} {u : iST} (hQ : ∀ r0 r1, Q1 r0 r1 → Q2 r0 r1 → Q3 r0 r1) : w_check a0 Q1 u → pw_check a0 Q2 u → w_check a0 Q3 u := (cj_w_lengthOf (fun _ _ => (br_cj (hQ _ _) (cj_w_nth (fun _ _ => (cj_w_isNewName (fun _ _ => (br_cj (cj_w_nth (fun _ _ => (cj_w_termOf (fun _ _ => (br_cj (cj_w_nth (fun _ _ => (cj_w_theoremOf (fun _ _ => (br_cj (rd_cj fun _ => (br_cj (rd_cj fun _ => (sw_cj fun _ => (sw_cj fun _ => (sw_cj fun _ => (cj_w_nth (fun _ _ => (cj_w_beginProof (fun _ => (cj_w_check_100  hQ))))))))) (hQ _ _))) (hQ _ _)))))) (hQ _ _)))))) (hQ _ _)))))))))
theorem mn_w_check {Q1 Q2 : Int → iST → Prop}  {a0 : Int} {u : iST} (hQ : ∀ r0 r1, Q1 r0 r1 → Q2 r0 r1) : pw_check a0 Q1 u → pw_check a0 Q2 u := (mn_w_lengthOf (fun _ _ => (br_mn (hQ _ _) (mn_w_nth (fun _ _ => (mn_w_isNewName (fun _ _ => (br_mn (mn_w_nth (fun _ _ => (mn_w_termOf (fun _ _ => (br_mn (mn_w_nth (fun _ _ => (mn_w_theoremOf (fun _ _ => (br_mn (rd_mn fun _ => (br_mn (rd_mn fun _ => (sw_mn fun _ => (sw_mn fun _ => (sw_mn fun _ => (mn_w_nth (fun _ _ => (mn_w_beginProof (fun _ => (mn_w_check_100  hQ))))))))) (hQ _ _))) (hQ _ _)))))) (hQ _ _)))))) (hQ _ _)))))))))
theorem wp_w_check {Q1 Q2 : Int → iST → Prop}  {a0 : Int} {u : iST} (hQ : ∀ r0 r1, Q1 r0 r1 → Q2 r0 r1) : w_check a0 Q1 u → pw_check a0 Q2 u := (wp_w_lengthOf (fun _ _ => (br_wp (hQ _ _) (wp_w_nth (fun _ _ => (wp_w_isNewName (fun _ _ => (br_wp (wp_w_nth (fun _ _ => (wp_w_termOf (fun _ _ => (br_wp (wp_w_nth (fun _ _ => (wp_w_theoremOf (fun _ _ => (br_wp (rd_wp fun _ => (br_wp (rd_wp fun _ => (sw_wp fun _ => (sw_wp fun _ => (sw_wp fun _ => (wp_w_nth (fun _ _ => (wp_w_beginProof (fun _ => (wp_w_check_100  hQ))))))))) (hQ _ _))) (hQ _ _)))))) (hQ _ _)))))) (hQ _ _)))))))))
def pw_eval_23 (Q : Int → iST → Prop) (y0 : Int) (u : iST) : Prop :=
  br (y0 ≠ (-1)) (
    pw_variablesOf y0 (fun u => 
    rd (u.1 78) (fun v3 => 
    br (v3 ≤ 0) (
      pw_evaluated y0 0 (fun v4 u => 
      br (v4 ≠ (-1)) (
        pw_tellOut v4 (fun u => 
        Q 0 u) u) (
        rd (u.1 89) (fun v6 => 
        pw_fail v6 (fun u => 
        Q 4 u) u))) u) (
      Q 2 u))) u) (
    Q 2 u)
theorem cj_w_eval_23 {Q1 Q2 Q3 : Int → iST → Prop}  {y0 : Int} {u : iST} (hQ : ∀ r0 r1, Q1 r0 r1 → Q2 r0 r1 → Q3 r0 r1) : w_eval_23 Q1 y0 u → pw_eval_23 Q2 y0 u → w_eval_23 Q3 y0 u := (br_cj (cj_w_variablesOf (fun _ => (rd_cj fun _ => (br_cj (cj_w_evaluated (fun _ _ => (br_cj (cj_w_tellOut (fun _ => (hQ _ _))) (rd_cj fun _ => (cj_w_fail (fun _ => (hQ _ _))))))) (hQ _ _))))) (hQ _ _))
theorem mn_w_eval_23 {Q1 Q2 : Int → iST → Prop}  {y0 : Int} {u : iST} (hQ : ∀ r0 r1, Q1 r0 r1 → Q2 r0 r1) : pw_eval_23 Q1 y0 u → pw_eval_23 Q2 y0 u := (br_mn (mn_w_variablesOf (fun _ => (rd_mn fun _ => (br_mn (mn_w_evaluated (fun _ _ => (br_mn (mn_w_tellOut (fun _ => (hQ _ _))) (rd_mn fun _ => (mn_w_fail (fun _ => (hQ _ _))))))) (hQ _ _))))) (hQ _ _))
theorem wp_w_eval_23 {Q1 Q2 : Int → iST → Prop}  {y0 : Int} {u : iST} (hQ : ∀ r0 r1, Q1 r0 r1 → Q2 r0 r1) : w_eval_23 Q1 y0 u → pw_eval_23 Q2 y0 u := (br_wp (wp_w_variablesOf (fun _ => (rd_wp fun _ => (br_wp (wp_w_evaluated (fun _ _ => (br_wp (wp_w_tellOut (fun _ => (hQ _ _))) (rd_wp fun _ => (wp_w_fail (fun _ => (hQ _ _))))))) (hQ _ _))))) (hQ _ _))
def pw_eval (a0 : Int) (Q : Int → iST → Prop) (u : iST) : Prop :=
  pw_lengthOf a0 (fun v1 u => 
  br (v1 ≠ 2) (
    pw_eval_23 Q (-1) u) (
    pw_nth a0 1 (fun v8 u => 
    pw_termOf v8 (fun v9 u => 
    pw_eval_23 Q v9 u) u) u)) u
theorem cj_w_eval {Q1 Q2 Q3 : Int → iST → Prop}  {a0 : Int} {u : iST} (hQ : ∀ r0 r1, Q1 r0 r1 → Q2 r0 r1 → Q3 r0 r1) : w_eval a0 Q1 u → pw_eval a0 Q2 u → w_eval a0 Q3 u := (cj_w_lengthOf (fun _ _ => (br_cj (cj_w_eval_23  hQ) (cj_w_nth (fun _ _ => (cj_w_termOf (fun _ _ => (cj_w_eval_23  hQ))))))))
theorem mn_w_eval {Q1 Q2 : Int → iST → Prop}  {a0 : Int} {u : iST} (hQ : ∀ r0 r1, Q1 r0 r1 → Q2 r0 r1) : pw_eval a0 Q1 u → pw_eval a0 Q2 u := (mn_w_lengthOf (fun _ _ => (br_mn (mn_w_eval_23  hQ) (mn_w_nth (fun _ _ => (mn_w_termOf (fun _ _ => (mn_w_eval_23  hQ))))))))
theorem wp_w_eval {Q1 Q2 : Int → iST → Prop}  {a0 : Int} {u : iST} (hQ : ∀ r0 r1, Q1 r0 r1 → Q2 r0 r1) : w_eval a0 Q1 u → pw_eval a0 Q2 u := (wp_w_lengthOf (fun _ _ => (br_wp (wp_w_eval_23  hQ) (wp_w_nth (fun _ _ => (wp_w_termOf (fun _ _ => (wp_w_eval_23  hQ))))))))
def pw_simplify_23 (Q : Int → iST → Prop) (y0 : Int) (u : iST) : Prop :=
  br (y0 ≠ (-1)) (
    sw (iI u 109 0) (fun u => 
    pw_rewritten y0 0 (fun v2 u => 
    sw (iI u 109 0) (fun u => 
    rd (u.1 61) (fun v3 => 
    br (v3 = 0) (
      pw_tellOut v2 (fun u => 
      Q 0 u) u) (
      Q 4 u)))) u)) (
    Q 2 u)
theorem cj_w_simplify_23 {Q1 Q2 Q3 : Int → iST → Prop}  {y0 : Int} {u : iST} (hQ : ∀ r0 r1, Q1 r0 r1 → Q2 r0 r1 → Q3 r0 r1) : w_simplify_23 Q1 y0 u → pw_simplify_23 Q2 y0 u → w_simplify_23 Q3 y0 u := (br_cj (sw_cj fun _ => (cj_w_rewritten (fun _ _ => (sw_cj fun _ => (rd_cj fun _ => (br_cj (cj_w_tellOut (fun _ => (hQ _ _))) (hQ _ _))))))) (hQ _ _))
theorem mn_w_simplify_23 {Q1 Q2 : Int → iST → Prop}  {y0 : Int} {u : iST} (hQ : ∀ r0 r1, Q1 r0 r1 → Q2 r0 r1) : pw_simplify_23 Q1 y0 u → pw_simplify_23 Q2 y0 u := (br_mn (sw_mn fun _ => (mn_w_rewritten (fun _ _ => (sw_mn fun _ => (rd_mn fun _ => (br_mn (mn_w_tellOut (fun _ => (hQ _ _))) (hQ _ _))))))) (hQ _ _))
theorem wp_w_simplify_23 {Q1 Q2 : Int → iST → Prop}  {y0 : Int} {u : iST} (hQ : ∀ r0 r1, Q1 r0 r1 → Q2 r0 r1) : w_simplify_23 Q1 y0 u → pw_simplify_23 Q2 y0 u := (br_wp (sw_wp fun _ => (wp_w_rewritten (fun _ _ => (sw_wp fun _ => (rd_wp fun _ => (br_wp (wp_w_tellOut (fun _ => (hQ _ _))) (hQ _ _))))))) (hQ _ _))
def pw_simplify (a0 : Int) (Q : Int → iST → Prop) (u : iST) : Prop :=
  pw_lengthOf a0 (fun v1 u => 
  br (v1 ≠ 2) (
    pw_simplify_23 Q (-1) u) (
    pw_nth a0 1 (fun v5 u => 
    pw_termOf v5 (fun v6 u => 
    pw_simplify_23 Q v6 u) u) u)) u
theorem cj_w_simplify {Q1 Q2 Q3 : Int → iST → Prop}  {a0 : Int} {u : iST} (hQ : ∀ r0 r1, Q1 r0 r1 → Q2 r0 r1 → Q3 r0 r1) : w_simplify a0 Q1 u → pw_simplify a0 Q2 u → w_simplify a0 Q3 u := (cj_w_lengthOf (fun _ _ => (br_cj (cj_w_simplify_23  hQ) (cj_w_nth (fun _ _ => (cj_w_termOf (fun _ _ => (cj_w_simplify_23  hQ))))))))
theorem mn_w_simplify {Q1 Q2 : Int → iST → Prop}  {a0 : Int} {u : iST} (hQ : ∀ r0 r1, Q1 r0 r1 → Q2 r0 r1) : pw_simplify a0 Q1 u → pw_simplify a0 Q2 u := (mn_w_lengthOf (fun _ _ => (br_mn (mn_w_simplify_23  hQ) (mn_w_nth (fun _ _ => (mn_w_termOf (fun _ _ => (mn_w_simplify_23  hQ))))))))
theorem wp_w_simplify {Q1 Q2 : Int → iST → Prop}  {a0 : Int} {u : iST} (hQ : ∀ r0 r1, Q1 r0 r1 → Q2 r0 r1) : w_simplify a0 Q1 u → pw_simplify a0 Q2 u := (wp_w_lengthOf (fun _ _ => (br_wp (wp_w_simplify_23  hQ) (wp_w_nth (fun _ _ => (wp_w_termOf (fun _ _ => (wp_w_simplify_23  hQ))))))))
def pw_turn (a0 : Int) (a1 : Int) (Q : Int → iST → Prop) (u : iST) : Prop :=
  pw_lengthOf a0 (fun v1 u => 
  br (v1 ≠ 2) (
    Q 2 u) (
    pw_nth a0 1 (fun v2 u => 
    pw_isNewName v2 (fun v3 u => 
    br (v3 ≠ 0) (
      pw_nth a0 1 (fun v4 u => 
      pw_theoremOf v4 (fun v5 u => 
      br (v5 = (-1)) (
        Q 3 u) (
        bdp v5 60 (rd (u.2.1 46 v5) (fun v6 => 
        br (v6 ≠ (-1)) (
          ztp a1 (bdp v5 60 (sw (iA u 52 v5 a1) (fun u => 
          Q 0 u)))) (
          Q 3 u))))) u) u) (
      Q 2 u)) u) u)) u
theorem cj_w_turn {Q1 Q2 Q3 : Int → iST → Prop}  {a0 : Int} {a1 : Int} {u : iST} (hQ : ∀ r0 r1, Q1 r0 r1 → Q2 r0 r1 → Q3 r0 r1) : w_turn a0 a1 Q1 u → pw_turn a0 a1 Q2 u → w_turn a0 a1 Q3 u := (cj_w_lengthOf (fun _ _ => (br_cj (hQ _ _) (cj_w_nth (fun _ _ => (cj_w_isNewName (fun _ _ => (br_cj (cj_w_nth (fun _ _ => (cj_w_theoremOf (fun _ _ => (br_cj (hQ _ _) (bd_cj (rd_cj fun _ => (br_cj (zt_cj (bd_cj (sw_cj fun _ => (hQ _ _)))) (hQ _ _))))))))) (hQ _ _)))))))))
theorem mn_w_turn {Q1 Q2 : Int → iST → Prop}  {a0 : Int} {a1 : Int} {u : iST} (hQ : ∀ r0 r1, Q1 r0 r1 → Q2 r0 r1) : pw_turn a0 a1 Q1 u → pw_turn a0 a1 Q2 u := (mn_w_lengthOf (fun _ _ => (br_mn (hQ _ _) (mn_w_nth (fun _ _ => (mn_w_isNewName (fun _ _ => (br_mn (mn_w_nth (fun _ _ => (mn_w_theoremOf (fun _ _ => (br_mn (hQ _ _) (bd_mn (rd_mn fun _ => (br_mn (zt_mn (bd_mn (sw_mn fun _ => (hQ _ _)))) (hQ _ _))))))))) (hQ _ _)))))))))
theorem wp_w_turn {Q1 Q2 : Int → iST → Prop}  {a0 : Int} {a1 : Int} {u : iST} (hQ : ∀ r0 r1, Q1 r0 r1 → Q2 r0 r1) : w_turn a0 a1 Q1 u → pw_turn a0 a1 Q2 u := (wp_w_lengthOf (fun _ _ => (br_wp (hQ _ _) (wp_w_nth (fun _ _ => (wp_w_isNewName (fun _ _ => (br_wp (wp_w_nth (fun _ _ => (wp_w_theoremOf (fun _ _ => (br_wp (hQ _ _) (bd_wp (rd_wp fun _ => (br_wp (zt_wp (bd_wp (sw_wp fun _ => (hQ _ _)))) (hQ _ _))))))))) (hQ _ _)))))))))
def pw_undo_66 (Q : Int → iST → Prop) (u : iST) : Prop :=
  rd (u.1 54) (fun v9 => 
  bdp v9 100 (rd (u.2.1 56 v9) (fun v10 => 
  sw (iI u 132 v10) (fun u => 
  Q 0 u))))
theorem cj_w_undo_66 {Q1 Q2 Q3 : Int → iST → Prop}  {u : iST} (hQ : ∀ r0 r1, Q1 r0 r1 → Q2 r0 r1 → Q3 r0 r1) : w_undo_66 Q1 u → pw_undo_66 Q2 u → w_undo_66 Q3 u := (rd_cj fun _ => (bd_cj (rd_cj fun _ => (sw_cj fun _ => (hQ _ _)))))
theorem mn_w_undo_66 {Q1 Q2 : Int → iST → Prop}  {u : iST} (hQ : ∀ r0 r1, Q1 r0 r1 → Q2 r0 r1) : pw_undo_66 Q1 u → pw_undo_66 Q2 u := (rd_mn fun _ => (bd_mn (rd_mn fun _ => (sw_mn fun _ => (hQ _ _)))))
theorem wp_w_undo_66 {Q1 Q2 : Int → iST → Prop}  {u : iST} (hQ : ∀ r0 r1, Q1 r0 r1 → Q2 r0 r1) : w_undo_66 Q1 u → pw_undo_66 Q2 u := (rd_wp fun _ => (bd_wp (rd_wp fun _ => (sw_wp fun _ => (hQ _ _)))))
def pw_undo (a0 : Int) (Q : Int → iST → Prop) (u : iST) : Prop :=
  pw_lengthOf a0 (fun v1 u => 
  br (v1 = 1) (
    rd (u.1 54) (fun v2 => 
    br (v2 ≠ 0) (
      rd (u.1 54) (fun v3 => 
      ovp (v3 - 1) (
      sw (iI u 54 (v3 - 1)) (fun u => 
      rd (u.1 54) (fun v5 => 
      bdp v5 100 (rd (u.2.1 55 v5) (fun v6 => 
      br (v6 ≠ 1) (
        rd (u.1 42) (fun v7 => 
        ovp (v7 - 1) (
        sw (iI u 42 (v7 - 1)) (fun u => 
        pw_undo_66 Q u)))) (
        rd (u.1 35) (fun v11 => 
        ovp (v11 - 1) (
        sw (iI u 35 (v11 - 1)) (fun u => 
        pw_undo_66 Q u))))))))))) (
      Q 3 u))) (
    Q 2 u)) u
theorem cj_w_undo {Q1 Q2 Q3 : Int → iST → Prop}  {a0 : Int} {u : iST} (hQ : ∀ r0 r1, Q1 r0 r1 → Q2 r0 r1 → Q3 r0 r1) : w_undo a0 Q1 u → pw_undo a0 Q2 u → w_undo a0 Q3 u := (cj_w_lengthOf (fun _ _ => (br_cj (rd_cj fun _ => (br_cj (rd_cj fun _ => (ov_cj (sw_cj fun _ => (rd_cj fun _ => (bd_cj (rd_cj fun _ => (br_cj (rd_cj fun _ => (ov_cj (sw_cj fun _ => (cj_w_undo_66  hQ)))) (rd_cj fun _ => (ov_cj (sw_cj fun _ => (cj_w_undo_66  hQ))))))))))) (hQ _ _))) (hQ _ _))))
theorem mn_w_undo {Q1 Q2 : Int → iST → Prop}  {a0 : Int} {u : iST} (hQ : ∀ r0 r1, Q1 r0 r1 → Q2 r0 r1) : pw_undo a0 Q1 u → pw_undo a0 Q2 u := (mn_w_lengthOf (fun _ _ => (br_mn (rd_mn fun _ => (br_mn (rd_mn fun _ => (ov_mn (sw_mn fun _ => (rd_mn fun _ => (bd_mn (rd_mn fun _ => (br_mn (rd_mn fun _ => (ov_mn (sw_mn fun _ => (mn_w_undo_66  hQ)))) (rd_mn fun _ => (ov_mn (sw_mn fun _ => (mn_w_undo_66  hQ))))))))))) (hQ _ _))) (hQ _ _))))
theorem wp_w_undo {Q1 Q2 : Int → iST → Prop}  {a0 : Int} {u : iST} (hQ : ∀ r0 r1, Q1 r0 r1 → Q2 r0 r1) : w_undo a0 Q1 u → pw_undo a0 Q2 u := (wp_w_lengthOf (fun _ _ => (br_wp (rd_wp fun _ => (br_wp (rd_wp fun _ => (ov_wp (sw_wp fun _ => (rd_wp fun _ => (bd_wp (rd_wp fun _ => (br_wp (rd_wp fun _ => (ov_wp (sw_wp fun _ => (wp_w_undo_66  hQ)))) (rd_wp fun _ => (ov_wp (sw_wp fun _ => (wp_w_undo_66  hQ))))))))))) (hQ _ _))) (hQ _ _))))
def pw_command (a0 : Int) (Q : Int → iST → Prop) (u : iST) : Prop :=
  pw_isPair a0 (fun v1 u => 
  br (v1 ≠ 0) (
    bdp a0 452000 (rd (u.2.1 0 a0) (fun v2 => 
    br (v2 = 17) (
      pw_defun a0 (fun v3 u => 
      Q v3 u) u) (
    br (v2 = 18) (
      Q 2 u) (
    br (v2 = 19) (
      pw_eval a0 (fun v6 u => 
      Q v6 u) u) (
    br (v2 = 20) (
      pw_simplify a0 (fun v8 u => 
      Q v8 u) u) (
    br (v2 = 21) (
      pw_defthm a0 0 (fun v10 u => 
      Q v10 u) u) (
    br (v2 = 22) (
      pw_defthm a0 1 (fun v12 u => 
      Q v12 u) u) (
    br (v2 = 23) (
      pw_turn a0 1 (fun v14 u => 
      Q v14 u) u) (
    br (v2 = 24) (
      pw_turn a0 0 (fun v16 u => 
      Q v16 u) u) (
    br (v2 = 25) (
      pw_undo a0 (fun v18 u => 
      Q v18 u) u) (
    br (v2 = 26) (
      pw_check a0 (fun v20 u => 
      Q v20 u) u) (
    Q 2 u))))))))))))) (
    Q 2 u)) u
theorem cj_w_command {Q1 Q2 Q3 : Int → iST → Prop}  {a0 : Int} {u : iST} (hQ : ∀ r0 r1, Q1 r0 r1 → Q2 r0 r1 → Q3 r0 r1) : w_command a0 Q1 u → pw_command a0 Q2 u → w_command a0 Q3 u := (cj_w_isPair (fun _ _ => (br_cj (bd_cj (rd_cj fun _ => (br_cj (cj_w_defun (fun _ _ => (hQ _ _))) (br_cj (hQ _ _) (br_cj (cj_w_eval (fun _ _ => (hQ _ _))) (br_cj (cj_w_simplify (fun _ _ => (hQ _ _))) (br_cj (cj_w_defthm (fun _ _ => (hQ _ _))) (br_cj (cj_w_defthm (fun _ _ => (hQ _ _))) (br_cj (cj_w_turn (fun _ _ => (hQ _ _))) (br_cj (cj_w_turn (fun _ _ => (hQ _ _))) (br_cj (cj_w_undo (fun _ _ => (hQ _ _))) (br_cj (cj_w_check (fun _ _ => (hQ _ _))) (hQ _ _))))))))))))) (hQ _ _))))
theorem mn_w_command {Q1 Q2 : Int → iST → Prop}  {a0 : Int} {u : iST} (hQ : ∀ r0 r1, Q1 r0 r1 → Q2 r0 r1) : pw_command a0 Q1 u → pw_command a0 Q2 u := (mn_w_isPair (fun _ _ => (br_mn (bd_mn (rd_mn fun _ => (br_mn (mn_w_defun (fun _ _ => (hQ _ _))) (br_mn (hQ _ _) (br_mn (mn_w_eval (fun _ _ => (hQ _ _))) (br_mn (mn_w_simplify (fun _ _ => (hQ _ _))) (br_mn (mn_w_defthm (fun _ _ => (hQ _ _))) (br_mn (mn_w_defthm (fun _ _ => (hQ _ _))) (br_mn (mn_w_turn (fun _ _ => (hQ _ _))) (br_mn (mn_w_turn (fun _ _ => (hQ _ _))) (br_mn (mn_w_undo (fun _ _ => (hQ _ _))) (br_mn (mn_w_check (fun _ _ => (hQ _ _))) (hQ _ _))))))))))))) (hQ _ _))))
theorem wp_w_command {Q1 Q2 : Int → iST → Prop}  {a0 : Int} {u : iST} (hQ : ∀ r0 r1, Q1 r0 r1 → Q2 r0 r1) : w_command a0 Q1 u → pw_command a0 Q2 u := (wp_w_isPair (fun _ _ => (br_wp (bd_wp (rd_wp fun _ => (br_wp (wp_w_defun (fun _ _ => (hQ _ _))) (br_wp (hQ _ _) (br_wp (wp_w_eval (fun _ _ => (hQ _ _))) (br_wp (wp_w_simplify (fun _ _ => (hQ _ _))) (br_wp (wp_w_defthm (fun _ _ => (hQ _ _))) (br_wp (wp_w_defthm (fun _ _ => (hQ _ _))) (br_wp (wp_w_turn (fun _ _ => (hQ _ _))) (br_wp (wp_w_turn (fun _ _ => (hQ _ _))) (br_wp (wp_w_undo (fun _ _ => (hQ _ _))) (br_wp (wp_w_check (fun _ _ => (hQ _ _))) (hQ _ _))))))))))))) (hQ _ _))))
