def pw_changeTo_3b (R3 : Int → Int → Int → Int → iST → Prop) (Q : Int → iST → Prop) (x1 : Int) (x2 : Int) (x3 : Int) (x4 : Int) (u : iST) : Prop :=
  br (x2 ≤ x4) (
    ovp (30 * x1) (
    ovp ((30 * x1) + x2) (
    bdp ((30 * x1) + x2) 69000 (sw (iA u 114 ((30 * x1) + x2) x3) (fun u => 
    ovp (x2 + 1) (
    pw_changeTo_56 Q x1 x3 (x2 + 1) u)))))) (
    ovp (30 * x1) (
    ovp ((30 * x1) + x4) (
    bdp ((30 * x1) + x4) 69000 (rd (u.2.1 114 ((30 * x1) + x4)) (fun v14 => 
    br (v14 ≠ x3) (
      ovp (x4 + 1) (
      R3 x1 x2 x3 (x4 + 1) u)) (
      pw_removeAt x1 x2 (fun u => 
      ztp 0 (Q 0 u)) u))))))
theorem cj_w_changeTo_3b {Q1 Q2 Q3 : Int → iST → Prop} {R31 R32 R33 : Int → Int → Int → Int → iST → Prop} {x1 : Int} {x2 : Int} {x3 : Int} {x4 : Int} {u : iST} (hR3 : ∀ r0 r1 r2 r3 r4, R31 r0 r1 r2 r3 r4 → R32 r0 r1 r2 r3 r4 → R33 r0 r1 r2 r3 r4) (hQ : ∀ r0 r1, Q1 r0 r1 → Q2 r0 r1 → Q3 r0 r1) : w_changeTo_3b R31 Q1 x1 x2 x3 x4 u → pw_changeTo_3b R32 Q2 x1 x2 x3 x4 u → w_changeTo_3b R33 Q3 x1 x2 x3 x4 u := (br_cj (ov_cj (ov_cj (bd_cj (sw_cj fun _ => (ov_cj (cj_w_changeTo_56  hQ)))))) (ov_cj (ov_cj (bd_cj (rd_cj fun _ => (br_cj (ov_cj (hR3 _ _ _ _ _)) (cj_w_removeAt (fun _ => (zt_cj (hQ _ _))))))))))
theorem mn_w_changeTo_3b {Q1 Q2 : Int → iST → Prop} {R31 R32 : Int → Int → Int → Int → iST → Prop} {x1 : Int} {x2 : Int} {x3 : Int} {x4 : Int} {u : iST} (hR3 : ∀ r0 r1 r2 r3 r4, R31 r0 r1 r2 r3 r4 → R32 r0 r1 r2 r3 r4) (hQ : ∀ r0 r1, Q1 r0 r1 → Q2 r0 r1) : pw_changeTo_3b R31 Q1 x1 x2 x3 x4 u → pw_changeTo_3b R32 Q2 x1 x2 x3 x4 u := (br_mn (ov_mn (ov_mn (bd_mn (sw_mn fun _ => (ov_mn (mn_w_changeTo_56  hQ)))))) (ov_mn (ov_mn (bd_mn (rd_mn fun _ => (br_mn (ov_mn (hR3 _ _ _ _ _)) (mn_w_removeAt (fun _ => (zt_mn (hQ _ _))))))))))
theorem wp_w_changeTo_3b {Q1 Q2 : Int → iST → Prop} {R31 R32 : Int → Int → Int → Int → iST → Prop} {x1 : Int} {x2 : Int} {x3 : Int} {x4 : Int} {u : iST} (hR3 : ∀ r0 r1 r2 r3 r4, R31 r0 r1 r2 r3 r4 → R32 r0 r1 r2 r3 r4) (hQ : ∀ r0 r1, Q1 r0 r1 → Q2 r0 r1) : w_changeTo_3b R31 Q1 x1 x2 x3 x4 u → pw_changeTo_3b R32 Q2 x1 x2 x3 x4 u := (br_wp (ov_wp (ov_wp (bd_wp (sw_wp fun _ => (ov_wp (wp_w_changeTo_56  hQ)))))) (ov_wp (ov_wp (bd_wp (rd_wp fun _ => (br_wp (ov_wp (hR3 _ _ _ _ _)) (wp_w_removeAt (fun _ => (zt_wp (hQ _ _))))))))))
def pw_changeTo_3 (Q : Int → iST → Prop) (x1 : Int) (x2 : Int) (x3 : Int) (x4 : Int) (u : iST) : Prop := ∃ R3 : Int → Int → Int → Int → iST → Prop, (∀ (x1 : Int) (x2 : Int) (x3 : Int) (x4 : Int) (u : iST), R3 x1 x2 x3 x4 u → pw_changeTo_3b R3 Q x1 x2 x3 x4 u) ∧ R3 x1 x2 x3 x4 u
theorem cj_w_changeTo_3 {Q1 Q2 Q3 : Int → iST → Prop}  {x1 : Int} {x2 : Int} {x3 : Int} {x4 : Int} {u : iST} (hQ : ∀ r0 r1, Q1 r0 r1 → Q2 r0 r1 → Q3 r0 r1) : w_changeTo_3 Q1 x1 x2 x3 x4 u → pw_changeTo_3 Q2 x1 x2 x3 x4 u → w_changeTo_3 Q3 x1 x2 x3 x4 u := by
  intro a b R3 c3
  obtain ⟨R2, c2, b2⟩ := b
  exact a (fun r0 r1 r2 r3 r4 => R2 r0 r1 r2 r3 r4 → R3 r0 r1 r2 r3 r4) (fun r0 r1 r2 r3 r4 a b => c3 r0 r1 r2 r3 r4 (cj_w_changeTo_3b (fun r0 r1 r2 r3 r4 a b => a b) hQ a (c2 r0 r1 r2 r3 r4 b))) b2
theorem pw_changeTo_3_i  {Q : Int → iST → Prop} {x1 : Int} {x2 : Int} {x3 : Int} {x4 : Int} {u : iST} (I : Int → Int → Int → Int → iST → Prop) (s : ∀ (x1 : Int) (x2 : Int) (x3 : Int) (x4 : Int) (u : iST), I x1 x2 x3 x4 u → pw_changeTo_3b I Q x1 x2 x3 x4 u) (h : I x1 x2 x3 x4 u) : pw_changeTo_3 Q x1 x2 x3 x4 u := ⟨I, s, h⟩
theorem mn_w_changeTo_3 {Q1 Q2 : Int → iST → Prop}  {x1 : Int} {x2 : Int} {x3 : Int} {x4 : Int} {u : iST} (hQ : ∀ r0 r1, Q1 r0 r1 → Q2 r0 r1) : pw_changeTo_3 Q1 x1 x2 x3 x4 u → pw_changeTo_3 Q2 x1 x2 x3 x4 u := fun ⟨R, s, h⟩ => ⟨R, fun r0 r1 r2 r3 r4 a => mn_w_changeTo_3b (fun r0 r1 r2 r3 r4 a => a) hQ (s r0 r1 r2 r3 r4 a), h⟩
theorem un_w_changeTo_3  {Q : Int → iST → Prop} {x1 : Int} {x2 : Int} {x3 : Int} {x4 : Int} {u : iST} : pw_changeTo_3 Q x1 x2 x3 x4 u → pw_changeTo_3b (fun x1 x2 x3 x4 u => pw_changeTo_3 Q x1 x2 x3 x4 u) Q x1 x2 x3 x4 u := fun ⟨R, s, h⟩ => mn_w_changeTo_3b (fun r0 r1 r2 r3 r4 a => ⟨R, s, a⟩) (fun _ _ h => h) (s _ _ _ _ _ h)
theorem fo_w_changeTo_3  {Q : Int → iST → Prop} {x1 : Int} {x2 : Int} {x3 : Int} {x4 : Int} {u : iST} : pw_changeTo_3b (fun x1 x2 x3 x4 u => pw_changeTo_3 Q x1 x2 x3 x4 u) Q x1 x2 x3 x4 u → pw_changeTo_3 Q x1 x2 x3 x4 u := fun h => ⟨fun x1 x2 x3 x4 u => pw_changeTo_3b (fun x1 x2 x3 x4 u => pw_changeTo_3 Q x1 x2 x3 x4 u) Q x1 x2 x3 x4 u, fun r0 r1 r2 r3 r4 a => mn_w_changeTo_3b (fun r0 r1 r2 r3 r4 a => un_w_changeTo_3 a) (fun _ _ h => h) a, h⟩
theorem wp_w_changeTo_3 {Q1 Q2 : Int → iST → Prop}  {x1 : Int} {x2 : Int} {x3 : Int} {x4 : Int} {u : iST} (hQ : ∀ r0 r1, Q1 r0 r1 → Q2 r0 r1) : w_changeTo_3 Q1 x1 x2 x3 x4 u → pw_changeTo_3 Q2 x1 x2 x3 x4 u := fun a => a (fun x1 x2 x3 x4 u => pw_changeTo_3 Q2 x1 x2 x3 x4 u) (fun x1 x2 x3 x4 u b => fo_w_changeTo_3 (wp_w_changeTo_3b (fun r0 r1 r2 r3 r4 a => a) hQ b))
def pw_changeTo (a0 : Int) (a1 : Int) (a2 : Int) (Q : Int → iST → Prop) (u : iST) : Prop :=
  pw_changeTo_3 Q a0 a1 a2 0 u
theorem cj_w_changeTo {Q1 Q2 Q3 : Int → iST → Prop}  {a0 : Int} {a1 : Int} {a2 : Int} {u : iST} (hQ : ∀ r0 r1, Q1 r0 r1 → Q2 r0 r1 → Q3 r0 r1) : w_changeTo a0 a1 a2 Q1 u → pw_changeTo a0 a1 a2 Q2 u → w_changeTo a0 a1 a2 Q3 u := (cj_w_changeTo_3  hQ)
theorem mn_w_changeTo {Q1 Q2 : Int → iST → Prop}  {a0 : Int} {a1 : Int} {a2 : Int} {u : iST} (hQ : ∀ r0 r1, Q1 r0 r1 → Q2 r0 r1) : pw_changeTo a0 a1 a2 Q1 u → pw_changeTo a0 a1 a2 Q2 u := (mn_w_changeTo_3  hQ)
theorem wp_w_changeTo {Q1 Q2 : Int → iST → Prop}  {a0 : Int} {a1 : Int} {a2 : Int} {u : iST} (hQ : ∀ r0 r1, Q1 r0 r1 → Q2 r0 r1) : w_changeTo a0 a1 a2 Q1 u → pw_changeTo a0 a1 a2 Q2 u := (wp_w_changeTo_3  hQ)
def pw_together_4b (R4 : Int → Int → Int → iST → Prop) (Q : Int → iST → Prop) (x1 : Int) (x2 : Int) (x3 : Int) (u : iST) : Prop :=
  bdp x1 2300 (rd (u.2.1 115 x1) (fun v1 => 
  br (v1 ≤ x3) (
    Q x2 u) (
    ovp (30 * x1) (
    ovp ((30 * x1) + x3) (
    bdp ((30 * x1) + x3) 69000 (rd (u.2.1 114 ((30 * x1) + x3)) (fun v4 => 
    pw_sizeOf v4 (fun v5 u => 
    ovp (x2 + v5) (
    ovp (x3 + 1) (
    R4 x1 (x2 + v5) (x3 + 1) u))) u)))))))
theorem cj_w_together_4b {Q1 Q2 Q3 : Int → iST → Prop} {R41 R42 R43 : Int → Int → Int → iST → Prop} {x1 : Int} {x2 : Int} {x3 : Int} {u : iST} (hR4 : ∀ r0 r1 r2 r3, R41 r0 r1 r2 r3 → R42 r0 r1 r2 r3 → R43 r0 r1 r2 r3) (hQ : ∀ r0 r1, Q1 r0 r1 → Q2 r0 r1 → Q3 r0 r1) : w_together_4b R41 Q1 x1 x2 x3 u → pw_together_4b R42 Q2 x1 x2 x3 u → w_together_4b R43 Q3 x1 x2 x3 u := (bd_cj (rd_cj fun _ => (br_cj (hQ _ _) (ov_cj (ov_cj (bd_cj (rd_cj fun _ => (cj_w_sizeOf (fun _ _ => (ov_cj (ov_cj (hR4 _ _ _ _))))))))))))
theorem mn_w_together_4b {Q1 Q2 : Int → iST → Prop} {R41 R42 : Int → Int → Int → iST → Prop} {x1 : Int} {x2 : Int} {x3 : Int} {u : iST} (hR4 : ∀ r0 r1 r2 r3, R41 r0 r1 r2 r3 → R42 r0 r1 r2 r3) (hQ : ∀ r0 r1, Q1 r0 r1 → Q2 r0 r1) : pw_together_4b R41 Q1 x1 x2 x3 u → pw_together_4b R42 Q2 x1 x2 x3 u := (bd_mn (rd_mn fun _ => (br_mn (hQ _ _) (ov_mn (ov_mn (bd_mn (rd_mn fun _ => (mn_w_sizeOf (fun _ _ => (ov_mn (ov_mn (hR4 _ _ _ _))))))))))))
theorem wp_w_together_4b {Q1 Q2 : Int → iST → Prop} {R41 R42 : Int → Int → Int → iST → Prop} {x1 : Int} {x2 : Int} {x3 : Int} {u : iST} (hR4 : ∀ r0 r1 r2 r3, R41 r0 r1 r2 r3 → R42 r0 r1 r2 r3) (hQ : ∀ r0 r1, Q1 r0 r1 → Q2 r0 r1) : w_together_4b R41 Q1 x1 x2 x3 u → pw_together_4b R42 Q2 x1 x2 x3 u := (bd_wp (rd_wp fun _ => (br_wp (hQ _ _) (ov_wp (ov_wp (bd_wp (rd_wp fun _ => (wp_w_sizeOf (fun _ _ => (ov_wp (ov_wp (hR4 _ _ _ _))))))))))))
def pw_together_4 (Q : Int → iST → Prop) (x1 : Int) (x2 : Int) (x3 : Int) (u : iST) : Prop := ∃ R4 : Int → Int → Int → iST → Prop, (∀ (x1 : Int) (x2 : Int) (x3 : Int) (u : iST), R4 x1 x2 x3 u → pw_together_4b R4 Q x1 x2 x3 u) ∧ R4 x1 x2 x3 u
theorem cj_w_together_4 {Q1 Q2 Q3 : Int → iST → Prop}  {x1 : Int} {x2 : Int} {x3 : Int} {u : iST} (hQ : ∀ r0 r1, Q1 r0 r1 → Q2 r0 r1 → Q3 r0 r1) : w_together_4 Q1 x1 x2 x3 u → pw_together_4 Q2 x1 x2 x3 u → w_together_4 Q3 x1 x2 x3 u := by
  intro a b R3 c3
  obtain ⟨R2, c2, b2⟩ := b
  exact a (fun r0 r1 r2 r3 => R2 r0 r1 r2 r3 → R3 r0 r1 r2 r3) (fun r0 r1 r2 r3 a b => c3 r0 r1 r2 r3 (cj_w_together_4b (fun r0 r1 r2 r3 a b => a b) hQ a (c2 r0 r1 r2 r3 b))) b2
theorem pw_together_4_i  {Q : Int → iST → Prop} {x1 : Int} {x2 : Int} {x3 : Int} {u : iST} (I : Int → Int → Int → iST → Prop) (s : ∀ (x1 : Int) (x2 : Int) (x3 : Int) (u : iST), I x1 x2 x3 u → pw_together_4b I Q x1 x2 x3 u) (h : I x1 x2 x3 u) : pw_together_4 Q x1 x2 x3 u := ⟨I, s, h⟩
theorem mn_w_together_4 {Q1 Q2 : Int → iST → Prop}  {x1 : Int} {x2 : Int} {x3 : Int} {u : iST} (hQ : ∀ r0 r1, Q1 r0 r1 → Q2 r0 r1) : pw_together_4 Q1 x1 x2 x3 u → pw_together_4 Q2 x1 x2 x3 u := fun ⟨R, s, h⟩ => ⟨R, fun r0 r1 r2 r3 a => mn_w_together_4b (fun r0 r1 r2 r3 a => a) hQ (s r0 r1 r2 r3 a), h⟩
theorem un_w_together_4  {Q : Int → iST → Prop} {x1 : Int} {x2 : Int} {x3 : Int} {u : iST} : pw_together_4 Q x1 x2 x3 u → pw_together_4b (fun x1 x2 x3 u => pw_together_4 Q x1 x2 x3 u) Q x1 x2 x3 u := fun ⟨R, s, h⟩ => mn_w_together_4b (fun r0 r1 r2 r3 a => ⟨R, s, a⟩) (fun _ _ h => h) (s _ _ _ _ h)
theorem fo_w_together_4  {Q : Int → iST → Prop} {x1 : Int} {x2 : Int} {x3 : Int} {u : iST} : pw_together_4b (fun x1 x2 x3 u => pw_together_4 Q x1 x2 x3 u) Q x1 x2 x3 u → pw_together_4 Q x1 x2 x3 u := fun h => ⟨fun x1 x2 x3 u => pw_together_4b (fun x1 x2 x3 u => pw_together_4 Q x1 x2 x3 u) Q x1 x2 x3 u, fun r0 r1 r2 r3 a => mn_w_together_4b (fun r0 r1 r2 r3 a => un_w_together_4 a) (fun _ _ h => h) a, h⟩
theorem wp_w_together_4 {Q1 Q2 : Int → iST → Prop}  {x1 : Int} {x2 : Int} {x3 : Int} {u : iST} (hQ : ∀ r0 r1, Q1 r0 r1 → Q2 r0 r1) : w_together_4 Q1 x1 x2 x3 u → pw_together_4 Q2 x1 x2 x3 u := fun a => a (fun x1 x2 x3 u => pw_together_4 Q2 x1 x2 x3 u) (fun x1 x2 x3 u b => fo_w_together_4 (wp_w_together_4b (fun r0 r1 r2 r3 a => a) hQ b))
def pw_together (a0 : Int) (Q : Int → iST → Prop) (u : iST) : Prop :=
  pw_together_4 Q a0 0 0 u
theorem cj_w_together {Q1 Q2 Q3 : Int → iST → Prop}  {a0 : Int} {u : iST} (hQ : ∀ r0 r1, Q1 r0 r1 → Q2 r0 r1 → Q3 r0 r1) : w_together a0 Q1 u → pw_together a0 Q2 u → w_together a0 Q3 u := (cj_w_together_4  hQ)
theorem mn_w_together {Q1 Q2 : Int → iST → Prop}  {a0 : Int} {u : iST} (hQ : ∀ r0 r1, Q1 r0 r1 → Q2 r0 r1) : pw_together a0 Q1 u → pw_together a0 Q2 u := (mn_w_together_4  hQ)
theorem wp_w_together {Q1 Q2 : Int → iST → Prop}  {a0 : Int} {u : iST} (hQ : ∀ r0 r1, Q1 r0 r1 → Q2 r0 r1) : w_together a0 Q1 u → pw_together a0 Q2 u := (wp_w_together_4  hQ)
def pw_splitRow_8b (R8 : Int → Int → Int → Int → Int → iST → Prop) (Q : Int → iST → Prop) (x1 : Int) (x2 : Int) (x3 : Int) (x4 : Int) (x5 : Int) (u : iST) : Prop :=
  bdp x1 2300 (rd (u.2.1 115 x1) (fun v1 => 
  br (v1 ≤ x5) (
    bdp x1 2300 (rd (u.2.1 116 x1) (fun v2 => 
    ovp (v2 + 1) (
    pw_row (v2 + 1) (fun v4 u => 
    Q v4 u) u)))) (
    br (x5 = x2) (
      pw_put x3 (fun u => 
      pw_put x4 (fun u => 
      ovp (x5 + 1) (
      R8 x1 x2 x3 x4 (x5 + 1) u)) u) u) (
      ovp (30 * x1) (
      ovp ((30 * x1) + x5) (
      bdp ((30 * x1) + x5) 69000 (rd (u.2.1 114 ((30 * x1) + x5)) (fun v10 => 
      pw_put v10 (fun u => 
      ovp (x5 + 1) (
      R8 x1 x2 x3 x4 (x5 + 1) u)) u))))))))
theorem cj_w_splitRow_8b {Q1 Q2 Q3 : Int → iST → Prop} {R81 R82 R83 : Int → Int → Int → Int → Int → iST → Prop} {x1 : Int} {x2 : Int} {x3 : Int} {x4 : Int} {x5 : Int} {u : iST} (hR8 : ∀ r0 r1 r2 r3 r4 r5, R81 r0 r1 r2 r3 r4 r5 → R82 r0 r1 r2 r3 r4 r5 → R83 r0 r1 r2 r3 r4 r5) (hQ : ∀ r0 r1, Q1 r0 r1 → Q2 r0 r1 → Q3 r0 r1) : w_splitRow_8b R81 Q1 x1 x2 x3 x4 x5 u → pw_splitRow_8b R82 Q2 x1 x2 x3 x4 x5 u → w_splitRow_8b R83 Q3 x1 x2 x3 x4 x5 u := (bd_cj (rd_cj fun _ => (br_cj (bd_cj (rd_cj fun _ => (ov_cj (cj_w_row (fun _ _ => (hQ _ _)))))) (br_cj (cj_w_put (fun _ => (cj_w_put (fun _ => (ov_cj (hR8 _ _ _ _ _ _)))))) (ov_cj (ov_cj (bd_cj (rd_cj fun _ => (cj_w_put (fun _ => (ov_cj (hR8 _ _ _ _ _ _))))))))))))
theorem mn_w_splitRow_8b {Q1 Q2 : Int → iST → Prop} {R81 R82 : Int → Int → Int → Int → Int → iST → Prop} {x1 : Int} {x2 : Int} {x3 : Int} {x4 : Int} {x5 : Int} {u : iST} (hR8 : ∀ r0 r1 r2 r3 r4 r5, R81 r0 r1 r2 r3 r4 r5 → R82 r0 r1 r2 r3 r4 r5) (hQ : ∀ r0 r1, Q1 r0 r1 → Q2 r0 r1) : pw_splitRow_8b R81 Q1 x1 x2 x3 x4 x5 u → pw_splitRow_8b R82 Q2 x1 x2 x3 x4 x5 u := (bd_mn (rd_mn fun _ => (br_mn (bd_mn (rd_mn fun _ => (ov_mn (mn_w_row (fun _ _ => (hQ _ _)))))) (br_mn (mn_w_put (fun _ => (mn_w_put (fun _ => (ov_mn (hR8 _ _ _ _ _ _)))))) (ov_mn (ov_mn (bd_mn (rd_mn fun _ => (mn_w_put (fun _ => (ov_mn (hR8 _ _ _ _ _ _))))))))))))
theorem wp_w_splitRow_8b {Q1 Q2 : Int → iST → Prop} {R81 R82 : Int → Int → Int → Int → Int → iST → Prop} {x1 : Int} {x2 : Int} {x3 : Int} {x4 : Int} {x5 : Int} {u : iST} (hR8 : ∀ r0 r1 r2 r3 r4 r5, R81 r0 r1 r2 r3 r4 r5 → R82 r0 r1 r2 r3 r4 r5) (hQ : ∀ r0 r1, Q1 r0 r1 → Q2 r0 r1) : w_splitRow_8b R81 Q1 x1 x2 x3 x4 x5 u → pw_splitRow_8b R82 Q2 x1 x2 x3 x4 x5 u := (bd_wp (rd_wp fun _ => (br_wp (bd_wp (rd_wp fun _ => (ov_wp (wp_w_row (fun _ _ => (hQ _ _)))))) (br_wp (wp_w_put (fun _ => (wp_w_put (fun _ => (ov_wp (hR8 _ _ _ _ _ _)))))) (ov_wp (ov_wp (bd_wp (rd_wp fun _ => (wp_w_put (fun _ => (ov_wp (hR8 _ _ _ _ _ _))))))))))))
def pw_splitRow_8 (Q : Int → iST → Prop) (x1 : Int) (x2 : Int) (x3 : Int) (x4 : Int) (x5 : Int) (u : iST) : Prop := ∃ R8 : Int → Int → Int → Int → Int → iST → Prop, (∀ (x1 : Int) (x2 : Int) (x3 : Int) (x4 : Int) (x5 : Int) (u : iST), R8 x1 x2 x3 x4 x5 u → pw_splitRow_8b R8 Q x1 x2 x3 x4 x5 u) ∧ R8 x1 x2 x3 x4 x5 u
theorem cj_w_splitRow_8 {Q1 Q2 Q3 : Int → iST → Prop}  {x1 : Int} {x2 : Int} {x3 : Int} {x4 : Int} {x5 : Int} {u : iST} (hQ : ∀ r0 r1, Q1 r0 r1 → Q2 r0 r1 → Q3 r0 r1) : w_splitRow_8 Q1 x1 x2 x3 x4 x5 u → pw_splitRow_8 Q2 x1 x2 x3 x4 x5 u → w_splitRow_8 Q3 x1 x2 x3 x4 x5 u := by
  intro a b R3 c3
  obtain ⟨R2, c2, b2⟩ := b
  exact a (fun r0 r1 r2 r3 r4 r5 => R2 r0 r1 r2 r3 r4 r5 → R3 r0 r1 r2 r3 r4 r5) (fun r0 r1 r2 r3 r4 r5 a b => c3 r0 r1 r2 r3 r4 r5 (cj_w_splitRow_8b (fun r0 r1 r2 r3 r4 r5 a b => a b) hQ a (c2 r0 r1 r2 r3 r4 r5 b))) b2
theorem pw_splitRow_8_i  {Q : Int → iST → Prop} {x1 : Int} {x2 : Int} {x3 : Int} {x4 : Int} {x5 : Int} {u : iST} (I : Int → Int → Int → Int → Int → iST → Prop) (s : ∀ (x1 : Int) (x2 : Int) (x3 : Int) (x4 : Int) (x5 : Int) (u : iST), I x1 x2 x3 x4 x5 u → pw_splitRow_8b I Q x1 x2 x3 x4 x5 u) (h : I x1 x2 x3 x4 x5 u) : pw_splitRow_8 Q x1 x2 x3 x4 x5 u := ⟨I, s, h⟩
theorem mn_w_splitRow_8 {Q1 Q2 : Int → iST → Prop}  {x1 : Int} {x2 : Int} {x3 : Int} {x4 : Int} {x5 : Int} {u : iST} (hQ : ∀ r0 r1, Q1 r0 r1 → Q2 r0 r1) : pw_splitRow_8 Q1 x1 x2 x3 x4 x5 u → pw_splitRow_8 Q2 x1 x2 x3 x4 x5 u := fun ⟨R, s, h⟩ => ⟨R, fun r0 r1 r2 r3 r4 r5 a => mn_w_splitRow_8b (fun r0 r1 r2 r3 r4 r5 a => a) hQ (s r0 r1 r2 r3 r4 r5 a), h⟩
theorem un_w_splitRow_8  {Q : Int → iST → Prop} {x1 : Int} {x2 : Int} {x3 : Int} {x4 : Int} {x5 : Int} {u : iST} : pw_splitRow_8 Q x1 x2 x3 x4 x5 u → pw_splitRow_8b (fun x1 x2 x3 x4 x5 u => pw_splitRow_8 Q x1 x2 x3 x4 x5 u) Q x1 x2 x3 x4 x5 u := fun ⟨R, s, h⟩ => mn_w_splitRow_8b (fun r0 r1 r2 r3 r4 r5 a => ⟨R, s, a⟩) (fun _ _ h => h) (s _ _ _ _ _ _ h)
theorem fo_w_splitRow_8  {Q : Int → iST → Prop} {x1 : Int} {x2 : Int} {x3 : Int} {x4 : Int} {x5 : Int} {u : iST} : pw_splitRow_8b (fun x1 x2 x3 x4 x5 u => pw_splitRow_8 Q x1 x2 x3 x4 x5 u) Q x1 x2 x3 x4 x5 u → pw_splitRow_8 Q x1 x2 x3 x4 x5 u := fun h => ⟨fun x1 x2 x3 x4 x5 u => pw_splitRow_8b (fun x1 x2 x3 x4 x5 u => pw_splitRow_8 Q x1 x2 x3 x4 x5 u) Q x1 x2 x3 x4 x5 u, fun r0 r1 r2 r3 r4 r5 a => mn_w_splitRow_8b (fun r0 r1 r2 r3 r4 r5 a => un_w_splitRow_8 a) (fun _ _ h => h) a, h⟩
theorem wp_w_splitRow_8 {Q1 Q2 : Int → iST → Prop}  {x1 : Int} {x2 : Int} {x3 : Int} {x4 : Int} {x5 : Int} {u : iST} (hQ : ∀ r0 r1, Q1 r0 r1 → Q2 r0 r1) : w_splitRow_8 Q1 x1 x2 x3 x4 x5 u → pw_splitRow_8 Q2 x1 x2 x3 x4 x5 u := fun a => a (fun x1 x2 x3 x4 x5 u => pw_splitRow_8 Q2 x1 x2 x3 x4 x5 u) (fun x1 x2 x3 x4 x5 u b => fo_w_splitRow_8 (wp_w_splitRow_8b (fun r0 r1 r2 r3 r4 r5 a => a) hQ b))
def pw_splitRow (a0 : Int) (a1 : Int) (a2 : Int) (a3 : Int) (Q : Int → iST → Prop) (u : iST) : Prop :=
  sw (iI u 122 0) (fun u => 
  pw_splitRow_8 Q a0 a1 a2 a3 0 u)
theorem cj_w_splitRow {Q1 Q2 Q3 : Int → iST → Prop}  {a0 : Int} {a1 : Int} {a2 : Int} {a3 : Int} {u : iST} (hQ : ∀ r0 r1, Q1 r0 r1 → Q2 r0 r1 → Q3 r0 r1) : w_splitRow a0 a1 a2 a3 Q1 u → pw_splitRow a0 a1 a2 a3 Q2 u → w_splitRow a0 a1 a2 a3 Q3 u := (sw_cj fun _ => (cj_w_splitRow_8  hQ))
theorem mn_w_splitRow {Q1 Q2 : Int → iST → Prop}  {a0 : Int} {a1 : Int} {a2 : Int} {a3 : Int} {u : iST} (hQ : ∀ r0 r1, Q1 r0 r1 → Q2 r0 r1) : pw_splitRow a0 a1 a2 a3 Q1 u → pw_splitRow a0 a1 a2 a3 Q2 u := (sw_mn fun _ => (mn_w_splitRow_8  hQ))
theorem wp_w_splitRow {Q1 Q2 : Int → iST → Prop}  {a0 : Int} {a1 : Int} {a2 : Int} {a3 : Int} {u : iST} (hQ : ∀ r0 r1, Q1 r0 r1 → Q2 r0 r1) : w_splitRow a0 a1 a2 a3 Q1 u → pw_splitRow a0 a1 a2 a3 Q2 u := (sw_wp fun _ => (wp_w_splitRow_8  hQ))
def pw_split_133 (Q : iST → Prop) (x9 : Int) (y0 : Int) (u : iST) : Prop :=
  rd (u.1 119) (fun v8 => 
  ovp (v8 - 1) (
  sw (iI u 119 (v8 - 1)) (fun u => 
  rd (u.1 119) (fun v10 => 
  bdp v10 2300 (sw (iA u 118 v10 y0) (fun u => 
  rd (u.1 119) (fun v11 => 
  ovp (v11 + 1) (
  bdp (v11 + 1) 2300 (sw (iA u 118 (v11 + 1) x9) (fun u => 
  rd (u.1 119) (fun v13 => 
  ovp (v13 + 2) (
  sw (iI u 119 (v13 + 2)) (fun u => 
  Q u)))))))))))))
theorem cj_w_split_133 {Q1 Q2 Q3 : iST → Prop}  {x9 : Int} {y0 : Int} {u : iST} (hQ : ∀ r0, Q1 r0 → Q2 r0 → Q3 r0) : w_split_133 Q1 x9 y0 u → pw_split_133 Q2 x9 y0 u → w_split_133 Q3 x9 y0 u := (rd_cj fun _ => (ov_cj (sw_cj fun _ => (rd_cj fun _ => (bd_cj (sw_cj fun _ => (rd_cj fun _ => (ov_cj (bd_cj (sw_cj fun _ => (rd_cj fun _ => (ov_cj (sw_cj fun _ => (hQ _))))))))))))))
theorem mn_w_split_133 {Q1 Q2 : iST → Prop}  {x9 : Int} {y0 : Int} {u : iST} (hQ : ∀ r0, Q1 r0 → Q2 r0) : pw_split_133 Q1 x9 y0 u → pw_split_133 Q2 x9 y0 u := (rd_mn fun _ => (ov_mn (sw_mn fun _ => (rd_mn fun _ => (bd_mn (sw_mn fun _ => (rd_mn fun _ => (ov_mn (bd_mn (sw_mn fun _ => (rd_mn fun _ => (ov_mn (sw_mn fun _ => (hQ _))))))))))))))
theorem wp_w_split_133 {Q1 Q2 : iST → Prop}  {x9 : Int} {y0 : Int} {u : iST} (hQ : ∀ r0, Q1 r0 → Q2 r0) : w_split_133 Q1 x9 y0 u → pw_split_133 Q2 x9 y0 u := (rd_wp fun _ => (ov_wp (sw_wp fun _ => (rd_wp fun _ => (bd_wp (sw_wp fun _ => (rd_wp fun _ => (ov_wp (bd_wp (sw_wp fun _ => (rd_wp fun _ => (ov_wp (sw_wp fun _ => (hQ _))))))))))))))
def pw_split_94 (Q : iST → Prop) (x1 : Int) (x2 : Int) (x6 : Int) (x7 : Int) (y0 : Int) (u : iST) : Prop :=
  pw_notOf x6 (fun v5 u => 
  pw_splitRow x1 x2 v5 x7 (fun v6 u => 
  rd (u.1 61) (fun v7 => 
  br (v7 ≠ 0) (
    pw_split_133 Q v6 0 u) (
    pw_splitRow x1 x2 x6 y0 (fun v15 u => 
    pw_split_133 Q v6 v15 u) u))) u) u
theorem cj_w_split_94 {Q1 Q2 Q3 : iST → Prop}  {x1 : Int} {x2 : Int} {x6 : Int} {x7 : Int} {y0 : Int} {u : iST} (hQ : ∀ r0, Q1 r0 → Q2 r0 → Q3 r0) : w_split_94 Q1 x1 x2 x6 x7 y0 u → pw_split_94 Q2 x1 x2 x6 x7 y0 u → w_split_94 Q3 x1 x2 x6 x7 y0 u := (cj_w_notOf (fun _ _ => (cj_w_splitRow (fun _ _ => (rd_cj fun _ => (br_cj (cj_w_split_133  hQ) (cj_w_splitRow (fun _ _ => (cj_w_split_133  hQ)))))))))
theorem mn_w_split_94 {Q1 Q2 : iST → Prop}  {x1 : Int} {x2 : Int} {x6 : Int} {x7 : Int} {y0 : Int} {u : iST} (hQ : ∀ r0, Q1 r0 → Q2 r0) : pw_split_94 Q1 x1 x2 x6 x7 y0 u → pw_split_94 Q2 x1 x2 x6 x7 y0 u := (mn_w_notOf (fun _ _ => (mn_w_splitRow (fun _ _ => (rd_mn fun _ => (br_mn (mn_w_split_133  hQ) (mn_w_splitRow (fun _ _ => (mn_w_split_133  hQ)))))))))
theorem wp_w_split_94 {Q1 Q2 : iST → Prop}  {x1 : Int} {x2 : Int} {x6 : Int} {x7 : Int} {y0 : Int} {u : iST} (hQ : ∀ r0, Q1 r0 → Q2 r0) : w_split_94 Q1 x1 x2 x6 x7 y0 u → pw_split_94 Q2 x1 x2 x6 x7 y0 u := (wp_w_notOf (fun _ _ => (wp_w_splitRow (fun _ _ => (rd_wp fun _ => (br_wp (wp_w_split_133  hQ) (wp_w_splitRow (fun _ _ => (wp_w_split_133  hQ)))))))))
def pw_split_66 (Q : iST → Prop) (x1 : Int) (x2 : Int) (x4 : Int) (x5 : Int) (x6 : Int) (y0 : Int) (u : iST) : Prop :=
  br (x4 = 0) (
    pw_term x5 3 (fun v4 u => 
    pw_split_94 Q x1 x2 x6 y0 v4 u) u) (
    pw_term x5 3 (fun v16 u => 
    pw_notOf v16 (fun v17 u => 
    pw_split_94 Q x1 x2 x6 y0 v17 u) u) u)
theorem cj_w_split_66 {Q1 Q2 Q3 : iST → Prop}  {x1 : Int} {x2 : Int} {x4 : Int} {x5 : Int} {x6 : Int} {y0 : Int} {u : iST} (hQ : ∀ r0, Q1 r0 → Q2 r0 → Q3 r0) : w_split_66 Q1 x1 x2 x4 x5 x6 y0 u → pw_split_66 Q2 x1 x2 x4 x5 x6 y0 u → w_split_66 Q3 x1 x2 x4 x5 x6 y0 u := (br_cj (cj_w_term (fun _ _ => (cj_w_split_94  hQ))) (cj_w_term (fun _ _ => (cj_w_notOf (fun _ _ => (cj_w_split_94  hQ))))))
theorem mn_w_split_66 {Q1 Q2 : iST → Prop}  {x1 : Int} {x2 : Int} {x4 : Int} {x5 : Int} {x6 : Int} {y0 : Int} {u : iST} (hQ : ∀ r0, Q1 r0 → Q2 r0) : pw_split_66 Q1 x1 x2 x4 x5 x6 y0 u → pw_split_66 Q2 x1 x2 x4 x5 x6 y0 u := (br_mn (mn_w_term (fun _ _ => (mn_w_split_94  hQ))) (mn_w_term (fun _ _ => (mn_w_notOf (fun _ _ => (mn_w_split_94  hQ))))))
theorem wp_w_split_66 {Q1 Q2 : iST → Prop}  {x1 : Int} {x2 : Int} {x4 : Int} {x5 : Int} {x6 : Int} {y0 : Int} {u : iST} (hQ : ∀ r0, Q1 r0 → Q2 r0) : w_split_66 Q1 x1 x2 x4 x5 x6 y0 u → pw_split_66 Q2 x1 x2 x4 x5 x6 y0 u := (br_wp (wp_w_term (fun _ _ => (wp_w_split_94  hQ))) (wp_w_term (fun _ _ => (wp_w_notOf (fun _ _ => (wp_w_split_94  hQ))))))
def pw_split_29 (Q : iST → Prop) (x1 : Int) (x2 : Int) (x4 : Int) (y0 : Int) (u : iST) : Prop :=
  pw_term y0 1 (fun v2 u => 
  br (x4 = 0) (
    pw_term y0 2 (fun v3 u => 
    pw_split_66 Q x1 x2 x4 y0 v2 v3 u) u) (
    pw_term y0 2 (fun v18 u => 
    pw_notOf v18 (fun v19 u => 
    pw_split_66 Q x1 x2 x4 y0 v2 v19 u) u) u)) u
theorem cj_w_split_29 {Q1 Q2 Q3 : iST → Prop}  {x1 : Int} {x2 : Int} {x4 : Int} {y0 : Int} {u : iST} (hQ : ∀ r0, Q1 r0 → Q2 r0 → Q3 r0) : w_split_29 Q1 x1 x2 x4 y0 u → pw_split_29 Q2 x1 x2 x4 y0 u → w_split_29 Q3 x1 x2 x4 y0 u := (cj_w_term (fun _ _ => (br_cj (cj_w_term (fun _ _ => (cj_w_split_66  hQ))) (cj_w_term (fun _ _ => (cj_w_notOf (fun _ _ => (cj_w_split_66  hQ))))))))
theorem mn_w_split_29 {Q1 Q2 : iST → Prop}  {x1 : Int} {x2 : Int} {x4 : Int} {y0 : Int} {u : iST} (hQ : ∀ r0, Q1 r0 → Q2 r0) : pw_split_29 Q1 x1 x2 x4 y0 u → pw_split_29 Q2 x1 x2 x4 y0 u := (mn_w_term (fun _ _ => (br_mn (mn_w_term (fun _ _ => (mn_w_split_66  hQ))) (mn_w_term (fun _ _ => (mn_w_notOf (fun _ _ => (mn_w_split_66  hQ))))))))
theorem wp_w_split_29 {Q1 Q2 : iST → Prop}  {x1 : Int} {x2 : Int} {x4 : Int} {y0 : Int} {u : iST} (hQ : ∀ r0, Q1 r0 → Q2 r0) : w_split_29 Q1 x1 x2 x4 y0 u → pw_split_29 Q2 x1 x2 x4 y0 u := (wp_w_term (fun _ _ => (br_wp (wp_w_term (fun _ _ => (wp_w_split_66  hQ))) (wp_w_term (fun _ _ => (wp_w_notOf (fun _ _ => (wp_w_split_66  hQ))))))))
def pw_split (a0 : Int) (a1 : Int) (a2 : Int) (Q : iST → Prop) (u : iST) : Prop :=
  pw_isCallOf a2 15 (fun v1 u => 
  br (v1 = 0) (
    pw_split_29 Q a0 a1 v1 a2 u) (
    bdp a2 452000 (rd (u.2.1 1 a2) (fun v20 => 
    bdp v20 452000 (rd (u.2.1 0 v20) (fun v21 => 
    pw_split_29 Q a0 a1 v1 v21 u)))))) u
theorem cj_w_split {Q1 Q2 Q3 : iST → Prop}  {a0 : Int} {a1 : Int} {a2 : Int} {u : iST} (hQ : ∀ r0, Q1 r0 → Q2 r0 → Q3 r0) : w_split a0 a1 a2 Q1 u → pw_split a0 a1 a2 Q2 u → w_split a0 a1 a2 Q3 u := (cj_w_isCallOf (fun _ _ => (br_cj (cj_w_split_29  hQ) (bd_cj (rd_cj fun _ => (bd_cj (rd_cj fun _ => (cj_w_split_29  hQ))))))))
theorem mn_w_split {Q1 Q2 : iST → Prop}  {a0 : Int} {a1 : Int} {a2 : Int} {u : iST} (hQ : ∀ r0, Q1 r0 → Q2 r0) : pw_split a0 a1 a2 Q1 u → pw_split a0 a1 a2 Q2 u := (mn_w_isCallOf (fun _ _ => (br_mn (mn_w_split_29  hQ) (bd_mn (rd_mn fun _ => (bd_mn (rd_mn fun _ => (mn_w_split_29  hQ))))))))
theorem wp_w_split {Q1 Q2 : iST → Prop}  {a0 : Int} {a1 : Int} {a2 : Int} {u : iST} (hQ : ∀ r0, Q1 r0 → Q2 r0) : w_split a0 a1 a2 Q1 u → pw_split a0 a1 a2 Q2 u := (wp_w_isCallOf (fun _ _ => (br_wp (wp_w_split_29  hQ) (bd_wp (rd_wp fun _ => (bd_wp (rd_wp fun _ => (wp_w_split_29  hQ))))))))
def pw_splits (a0 : Int) (Q : Int → iST → Prop) (u : iST) : Prop :=
  pw_isCallOf a0 3 (fun v1 u => 
  br (v1 ≠ 0) (
    ztp 1 (Q 1 u)) (
    pw_isCallOf a0 15 (fun v2 u => 
    br (v2 = 0) (
      ztp 0 (Q 0 u)) (
      bdp a0 452000 (rd (u.2.1 1 a0) (fun v3 => 
      bdp v3 452000 (rd (u.2.1 0 v3) (fun v4 => 
      pw_isCallOf v4 3 (fun v5 u => 
      br (v5 = 0) (
        ztp 0 (Q 0 u)) (
        ztp 1 (Q 1 u))) u)))))) u)) u
theorem cj_w_splits {Q1 Q2 Q3 : Int → iST → Prop}  {a0 : Int} {u : iST} (hQ : ∀ r0 r1, Q1 r0 r1 → Q2 r0 r1 → Q3 r0 r1) : w_splits a0 Q1 u → pw_splits a0 Q2 u → w_splits a0 Q3 u := (cj_w_isCallOf (fun _ _ => (br_cj (zt_cj (hQ _ _)) (cj_w_isCallOf (fun _ _ => (br_cj (zt_cj (hQ _ _)) (bd_cj (rd_cj fun _ => (bd_cj (rd_cj fun _ => (cj_w_isCallOf (fun _ _ => (br_cj (zt_cj (hQ _ _)) (zt_cj (hQ _ _)))))))))))))))
theorem mn_w_splits {Q1 Q2 : Int → iST → Prop}  {a0 : Int} {u : iST} (hQ : ∀ r0 r1, Q1 r0 r1 → Q2 r0 r1) : pw_splits a0 Q1 u → pw_splits a0 Q2 u := (mn_w_isCallOf (fun _ _ => (br_mn (zt_mn (hQ _ _)) (mn_w_isCallOf (fun _ _ => (br_mn (zt_mn (hQ _ _)) (bd_mn (rd_mn fun _ => (bd_mn (rd_mn fun _ => (mn_w_isCallOf (fun _ _ => (br_mn (zt_mn (hQ _ _)) (zt_mn (hQ _ _)))))))))))))))
theorem wp_w_splits {Q1 Q2 : Int → iST → Prop}  {a0 : Int} {u : iST} (hQ : ∀ r0 r1, Q1 r0 r1 → Q2 r0 r1) : w_splits a0 Q1 u → pw_splits a0 Q2 u := (wp_w_isCallOf (fun _ _ => (br_wp (zt_wp (hQ _ _)) (wp_w_isCallOf (fun _ _ => (br_wp (zt_wp (hQ _ _)) (bd_wp (rd_wp fun _ => (bd_wp (rd_wp fun _ => (wp_w_isCallOf (fun _ _ => (br_wp (zt_wp (hQ _ _)) (zt_wp (hQ _ _)))))))))))))))
def pw_leave (a0 : Int) (Q : iST → Prop) (u : iST) : Prop :=
  rd (u.1 63) (fun v1 => 
  bdp v1 20 (sw (iA u 120 v1 a0) (fun u => 
  rd (u.1 63) (fun v2 => 
  ovp (v2 + 1) (
  sw (iI u 63 (v2 + 1)) (fun u => 
  rd (u.1 119) (fun v4 => 
  ovp (v4 - 1) (
  sw (iI u 119 (v4 - 1)) (fun u => 
  Q u)))))))))
theorem cj_w_leave {Q1 Q2 Q3 : iST → Prop}  {a0 : Int} {u : iST} (hQ : ∀ r0, Q1 r0 → Q2 r0 → Q3 r0) : w_leave a0 Q1 u → pw_leave a0 Q2 u → w_leave a0 Q3 u := (rd_cj fun _ => (bd_cj (sw_cj fun _ => (rd_cj fun _ => (ov_cj (sw_cj fun _ => (rd_cj fun _ => (ov_cj (sw_cj fun _ => (hQ _))))))))))
theorem mn_w_leave {Q1 Q2 : iST → Prop}  {a0 : Int} {u : iST} (hQ : ∀ r0, Q1 r0 → Q2 r0) : pw_leave a0 Q1 u → pw_leave a0 Q2 u := (rd_mn fun _ => (bd_mn (sw_mn fun _ => (rd_mn fun _ => (ov_mn (sw_mn fun _ => (rd_mn fun _ => (ov_mn (sw_mn fun _ => (hQ _))))))))))
theorem wp_w_leave {Q1 Q2 : iST → Prop}  {a0 : Int} {u : iST} (hQ : ∀ r0, Q1 r0 → Q2 r0) : w_leave a0 Q1 u → pw_leave a0 Q2 u := (rd_wp fun _ => (bd_wp (sw_wp fun _ => (rd_wp fun _ => (ov_wp (sw_wp fun _ => (rd_wp fun _ => (ov_wp (sw_wp fun _ => (hQ _))))))))))
def pw_round_207 (R4 : Int → Int → Int → iST → Prop) (Q : iST → Prop) (x1 : Int) (x3 : Int) (x6 : Int) (y0 : Int) (u : iST) : Prop :=
  br (x6 = 0) (
    ovp (x3 + 0) (
    R4 x1 y0 (x3 + 0) u)) (
    ovp (x3 + 1) (
    R4 x1 y0 (x3 + 1) u))
theorem cj_w_round_207 {Q1 Q2 Q3 : iST → Prop} {R41 R42 R43 : Int → Int → Int → iST → Prop} {x1 : Int} {x3 : Int} {x6 : Int} {y0 : Int} {u : iST} (hR4 : ∀ r0 r1 r2 r3, R41 r0 r1 r2 r3 → R42 r0 r1 r2 r3 → R43 r0 r1 r2 r3) (hQ : ∀ r0, Q1 r0 → Q2 r0 → Q3 r0) : w_round_207 R41 Q1 x1 x3 x6 y0 u → pw_round_207 R42 Q2 x1 x3 x6 y0 u → w_round_207 R43 Q3 x1 x3 x6 y0 u := (br_cj (ov_cj (hR4 _ _ _ _)) (ov_cj (hR4 _ _ _ _)))
theorem mn_w_round_207 {Q1 Q2 : iST → Prop} {R41 R42 : Int → Int → Int → iST → Prop} {x1 : Int} {x3 : Int} {x6 : Int} {y0 : Int} {u : iST} (hR4 : ∀ r0 r1 r2 r3, R41 r0 r1 r2 r3 → R42 r0 r1 r2 r3) (hQ : ∀ r0, Q1 r0 → Q2 r0) : pw_round_207 R41 Q1 x1 x3 x6 y0 u → pw_round_207 R42 Q2 x1 x3 x6 y0 u := (br_mn (ov_mn (hR4 _ _ _ _)) (ov_mn (hR4 _ _ _ _)))
theorem wp_w_round_207 {Q1 Q2 : iST → Prop} {R41 R42 : Int → Int → Int → iST → Prop} {x1 : Int} {x3 : Int} {x6 : Int} {y0 : Int} {u : iST} (hR4 : ∀ r0 r1 r2 r3, R41 r0 r1 r2 r3 → R42 r0 r1 r2 r3) (hQ : ∀ r0, Q1 r0 → Q2 r0) : w_round_207 R41 Q1 x1 x3 x6 y0 u → pw_round_207 R42 Q2 x1 x3 x6 y0 u := (br_wp (ov_wp (hR4 _ _ _ _)) (ov_wp (hR4 _ _ _ _)))
def pw_round_202 (R4 : Int → Int → Int → iST → Prop) (Q : iST → Prop) (x1 : Int) (x3 : Int) (x6 : Int) (u : iST) : Prop :=
  pw_round_207 R4 Q x1 x3 x6 1 u
theorem cj_w_round_202 {Q1 Q2 Q3 : iST → Prop} {R41 R42 R43 : Int → Int → Int → iST → Prop} {x1 : Int} {x3 : Int} {x6 : Int} {u : iST} (hR4 : ∀ r0 r1 r2 r3, R41 r0 r1 r2 r3 → R42 r0 r1 r2 r3 → R43 r0 r1 r2 r3) (hQ : ∀ r0, Q1 r0 → Q2 r0 → Q3 r0) : w_round_202 R41 Q1 x1 x3 x6 u → pw_round_202 R42 Q2 x1 x3 x6 u → w_round_202 R43 Q3 x1 x3 x6 u := (cj_w_round_207 hR4 hQ)
theorem mn_w_round_202 {Q1 Q2 : iST → Prop} {R41 R42 : Int → Int → Int → iST → Prop} {x1 : Int} {x3 : Int} {x6 : Int} {u : iST} (hR4 : ∀ r0 r1 r2 r3, R41 r0 r1 r2 r3 → R42 r0 r1 r2 r3) (hQ : ∀ r0, Q1 r0 → Q2 r0) : pw_round_202 R41 Q1 x1 x3 x6 u → pw_round_202 R42 Q2 x1 x3 x6 u := (mn_w_round_207 hR4 hQ)
theorem wp_w_round_202 {Q1 Q2 : iST → Prop} {R41 R42 : Int → Int → Int → iST → Prop} {x1 : Int} {x3 : Int} {x6 : Int} {u : iST} (hR4 : ∀ r0 r1 r2 r3, R41 r0 r1 r2 r3 → R42 r0 r1 r2 r3) (hQ : ∀ r0, Q1 r0 → Q2 r0) : w_round_202 R41 Q1 x1 x3 x6 u → pw_round_202 R42 Q2 x1 x3 x6 u := (wp_w_round_207 hR4 hQ)
def pw_round_186 (R4 : Int → Int → Int → iST → Prop) (Q : iST → Prop) (x1 : Int) (x2 : Int) (x3 : Int) (x4 : Int) (x5 : Int) (x6 : Int) (u : iST) : Prop :=
  br (x2 ≠ 0) (
    pw_round_202 R4 Q x1 x3 x6 u) (
    br (x5 ≠ x4) (
      pw_round_202 R4 Q x1 x3 x6 u) (
      br (x5 ≠ 0) (
        pw_round_207 R4 Q x1 x3 x6 0 u) (
        pw_round_202 R4 Q x1 x3 x6 u)))
theorem cj_w_round_186 {Q1 Q2 Q3 : iST → Prop} {R41 R42 R43 : Int → Int → Int → iST → Prop} {x1 : Int} {x2 : Int} {x3 : Int} {x4 : Int} {x5 : Int} {x6 : Int} {u : iST} (hR4 : ∀ r0 r1 r2 r3, R41 r0 r1 r2 r3 → R42 r0 r1 r2 r3 → R43 r0 r1 r2 r3) (hQ : ∀ r0, Q1 r0 → Q2 r0 → Q3 r0) : w_round_186 R41 Q1 x1 x2 x3 x4 x5 x6 u → pw_round_186 R42 Q2 x1 x2 x3 x4 x5 x6 u → w_round_186 R43 Q3 x1 x2 x3 x4 x5 x6 u := (br_cj (cj_w_round_202 hR4 hQ) (br_cj (cj_w_round_202 hR4 hQ) (br_cj (cj_w_round_207 hR4 hQ) (cj_w_round_202 hR4 hQ))))
theorem mn_w_round_186 {Q1 Q2 : iST → Prop} {R41 R42 : Int → Int → Int → iST → Prop} {x1 : Int} {x2 : Int} {x3 : Int} {x4 : Int} {x5 : Int} {x6 : Int} {u : iST} (hR4 : ∀ r0 r1 r2 r3, R41 r0 r1 r2 r3 → R42 r0 r1 r2 r3) (hQ : ∀ r0, Q1 r0 → Q2 r0) : pw_round_186 R41 Q1 x1 x2 x3 x4 x5 x6 u → pw_round_186 R42 Q2 x1 x2 x3 x4 x5 x6 u := (br_mn (mn_w_round_202 hR4 hQ) (br_mn (mn_w_round_202 hR4 hQ) (br_mn (mn_w_round_207 hR4 hQ) (mn_w_round_202 hR4 hQ))))
theorem wp_w_round_186 {Q1 Q2 : iST → Prop} {R41 R42 : Int → Int → Int → iST → Prop} {x1 : Int} {x2 : Int} {x3 : Int} {x4 : Int} {x5 : Int} {x6 : Int} {u : iST} (hR4 : ∀ r0 r1 r2 r3, R41 r0 r1 r2 r3 → R42 r0 r1 r2 r3) (hQ : ∀ r0, Q1 r0 → Q2 r0) : w_round_186 R41 Q1 x1 x2 x3 x4 x5 x6 u → pw_round_186 R42 Q2 x1 x2 x3 x4 x5 x6 u := (br_wp (wp_w_round_202 hR4 hQ) (br_wp (wp_w_round_202 hR4 hQ) (br_wp (wp_w_round_207 hR4 hQ) (wp_w_round_202 hR4 hQ))))
def pw_round_104 (R4 : Int → Int → Int → iST → Prop) (Q : iST → Prop) (x1 : Int) (x2 : Int) (x3 : Int) (x4 : Int) (y0 : Int) (u : iST) : Prop :=
  rd (u.1 61) (fun v12 => 
  br (v12 = 0) (
    br (y0 ≠ 1) (
      pw_splits y0 (fun v13 u => 
      br (v13 = 0) (
        br (y0 ≠ 0) (
          br (y0 = x4) (
            pw_round_186 R4 Q x1 x2 x3 x4 y0 1 u) (
            pw_changeTo x1 x3 y0 (fun v16 u => 
            pw_round_186 R4 Q x1 x2 x3 x4 y0 v16 u) u)) (
          pw_removeAt x1 x3 (fun u => 
          pw_round_186 R4 Q x1 x2 x3 x4 y0 0 u) u)) (
        pw_split x1 x3 y0 (fun u => 
        Q u) u)) u) (
      rd (u.1 119) (fun v19 => 
      ovp (v19 - 1) (
      sw (iI u 119 (v19 - 1)) (fun u => 
      Q u))))) (
    Q u))
theorem cj_w_round_104 {Q1 Q2 Q3 : iST → Prop} {R41 R42 R43 : Int → Int → Int → iST → Prop} {x1 : Int} {x2 : Int} {x3 : Int} {x4 : Int} {y0 : Int} {u : iST} (hR4 : ∀ r0 r1 r2 r3, R41 r0 r1 r2 r3 → R42 r0 r1 r2 r3 → R43 r0 r1 r2 r3) (hQ : ∀ r0, Q1 r0 → Q2 r0 → Q3 r0) : w_round_104 R41 Q1 x1 x2 x3 x4 y0 u → pw_round_104 R42 Q2 x1 x2 x3 x4 y0 u → w_round_104 R43 Q3 x1 x2 x3 x4 y0 u := (rd_cj fun _ => (br_cj (br_cj (cj_w_splits (fun _ _ => (br_cj (br_cj (br_cj (cj_w_round_186 hR4 hQ) (cj_w_changeTo (fun _ _ => (cj_w_round_186 hR4 hQ)))) (cj_w_removeAt (fun _ => (cj_w_round_186 hR4 hQ)))) (cj_w_split (fun _ => (hQ _)))))) (rd_cj fun _ => (ov_cj (sw_cj fun _ => (hQ _))))) (hQ _)))
theorem mn_w_round_104 {Q1 Q2 : iST → Prop} {R41 R42 : Int → Int → Int → iST → Prop} {x1 : Int} {x2 : Int} {x3 : Int} {x4 : Int} {y0 : Int} {u : iST} (hR4 : ∀ r0 r1 r2 r3, R41 r0 r1 r2 r3 → R42 r0 r1 r2 r3) (hQ : ∀ r0, Q1 r0 → Q2 r0) : pw_round_104 R41 Q1 x1 x2 x3 x4 y0 u → pw_round_104 R42 Q2 x1 x2 x3 x4 y0 u := (rd_mn fun _ => (br_mn (br_mn (mn_w_splits (fun _ _ => (br_mn (br_mn (br_mn (mn_w_round_186 hR4 hQ) (mn_w_changeTo (fun _ _ => (mn_w_round_186 hR4 hQ)))) (mn_w_removeAt (fun _ => (mn_w_round_186 hR4 hQ)))) (mn_w_split (fun _ => (hQ _)))))) (rd_mn fun _ => (ov_mn (sw_mn fun _ => (hQ _))))) (hQ _)))
theorem wp_w_round_104 {Q1 Q2 : iST → Prop} {R41 R42 : Int → Int → Int → iST → Prop} {x1 : Int} {x2 : Int} {x3 : Int} {x4 : Int} {y0 : Int} {u : iST} (hR4 : ∀ r0 r1 r2 r3, R41 r0 r1 r2 r3 → R42 r0 r1 r2 r3) (hQ : ∀ r0, Q1 r0 → Q2 r0) : w_round_104 R41 Q1 x1 x2 x3 x4 y0 u → pw_round_104 R42 Q2 x1 x2 x3 x4 y0 u := (rd_wp fun _ => (br_wp (br_wp (wp_w_splits (fun _ _ => (br_wp (br_wp (br_wp (wp_w_round_186 hR4 hQ) (wp_w_changeTo (fun _ _ => (wp_w_round_186 hR4 hQ)))) (wp_w_removeAt (fun _ => (wp_w_round_186 hR4 hQ)))) (wp_w_split (fun _ => (hQ _)))))) (rd_wp fun _ => (ov_wp (sw_wp fun _ => (hQ _))))) (hQ _)))
def pw_round_72 (R4 : Int → Int → Int → iST → Prop) (Q : iST → Prop) (x1 : Int) (x2 : Int) (x3 : Int) (u : iST) : Prop :=
  ovp (30 * x1) (
  ovp ((30 * x1) + x3) (
  bdp ((30 * x1) + x3) 69000 (rd (u.2.1 114 ((30 * x1) + x3)) (fun v10 => 
  rd (u.1 61) (fun v11 => 
  br (v11 ≠ 0) (
    pw_round_104 R4 Q x1 x2 x3 v10 v10 u) (
    pw_rewritten v10 1 (fun v21 u => 
    pw_round_104 R4 Q x1 x2 x3 v10 v21 u) u))))))
theorem cj_w_round_72 {Q1 Q2 Q3 : iST → Prop} {R41 R42 R43 : Int → Int → Int → iST → Prop} {x1 : Int} {x2 : Int} {x3 : Int} {u : iST} (hR4 : ∀ r0 r1 r2 r3, R41 r0 r1 r2 r3 → R42 r0 r1 r2 r3 → R43 r0 r1 r2 r3) (hQ : ∀ r0, Q1 r0 → Q2 r0 → Q3 r0) : w_round_72 R41 Q1 x1 x2 x3 u → pw_round_72 R42 Q2 x1 x2 x3 u → w_round_72 R43 Q3 x1 x2 x3 u := (ov_cj (ov_cj (bd_cj (rd_cj fun _ => (rd_cj fun _ => (br_cj (cj_w_round_104 hR4 hQ) (cj_w_rewritten (fun _ _ => (cj_w_round_104 hR4 hQ)))))))))
theorem mn_w_round_72 {Q1 Q2 : iST → Prop} {R41 R42 : Int → Int → Int → iST → Prop} {x1 : Int} {x2 : Int} {x3 : Int} {u : iST} (hR4 : ∀ r0 r1 r2 r3, R41 r0 r1 r2 r3 → R42 r0 r1 r2 r3) (hQ : ∀ r0, Q1 r0 → Q2 r0) : pw_round_72 R41 Q1 x1 x2 x3 u → pw_round_72 R42 Q2 x1 x2 x3 u := (ov_mn (ov_mn (bd_mn (rd_mn fun _ => (rd_mn fun _ => (br_mn (mn_w_round_104 hR4 hQ) (mn_w_rewritten (fun _ _ => (mn_w_round_104 hR4 hQ)))))))))
theorem wp_w_round_72 {Q1 Q2 : iST → Prop} {R41 R42 : Int → Int → Int → iST → Prop} {x1 : Int} {x2 : Int} {x3 : Int} {u : iST} (hR4 : ∀ r0 r1 r2 r3, R41 r0 r1 r2 r3 → R42 r0 r1 r2 r3) (hQ : ∀ r0, Q1 r0 → Q2 r0) : w_round_72 R41 Q1 x1 x2 x3 u → pw_round_72 R42 Q2 x1 x2 x3 u := (ov_wp (ov_wp (bd_wp (rd_wp fun _ => (rd_wp fun _ => (br_wp (wp_w_round_104 hR4 hQ) (wp_w_rewritten (fun _ _ => (wp_w_round_104 hR4 hQ)))))))))
def pw_round_22b (R4 : Int → Int → Int → iST → Prop) (R22 : Int → Int → Int → Int → iST → Prop) (Q : iST → Prop) (x1 : Int) (x2 : Int) (x3 : Int) (x4 : Int) (u : iST) : Prop :=
  bdp x1 2300 (rd (u.2.1 115 x1) (fun v7 => 
  br (v7 ≤ x4) (
    pw_round_72 R4 Q x1 x2 x3 u) (
    rd (u.1 61) (fun v22 => 
    br (v22 ≠ 0) (
      pw_round_72 R4 Q x1 x2 x3 u) (
      br (x4 = x3) (
        ovp (x4 + 1) (
        R22 x1 x2 x3 (x4 + 1) u)) (
        ovp (30 * x1) (
        ovp ((30 * x1) + x4) (
        bdp ((30 * x1) + x4) 69000 (rd (u.2.1 114 ((30 * x1) + x4)) (fun v26 => 
        pw_notOf v26 (fun v27 u => 
        pw_push v27 (fun u => 
        ovp (x4 + 1) (
        R22 x1 x2 x3 (x4 + 1) u)) u) u))))))))))
theorem cj_w_round_22b {Q1 Q2 Q3 : iST → Prop} {R41 R42 R43 : Int → Int → Int → iST → Prop} {R221 R222 R223 : Int → Int → Int → Int → iST → Prop} {x1 : Int} {x2 : Int} {x3 : Int} {x4 : Int} {u : iST} (hR4 : ∀ r0 r1 r2 r3, R41 r0 r1 r2 r3 → R42 r0 r1 r2 r3 → R43 r0 r1 r2 r3) (hR22 : ∀ r0 r1 r2 r3 r4, R221 r0 r1 r2 r3 r4 → R222 r0 r1 r2 r3 r4 → R223 r0 r1 r2 r3 r4) (hQ : ∀ r0, Q1 r0 → Q2 r0 → Q3 r0) : w_round_22b R41 R221 Q1 x1 x2 x3 x4 u → pw_round_22b R42 R222 Q2 x1 x2 x3 x4 u → w_round_22b R43 R223 Q3 x1 x2 x3 x4 u := (bd_cj (rd_cj fun _ => (br_cj (cj_w_round_72 hR4 hQ) (rd_cj fun _ => (br_cj (cj_w_round_72 hR4 hQ) (br_cj (ov_cj (hR22 _ _ _ _ _)) (ov_cj (ov_cj (bd_cj (rd_cj fun _ => (cj_w_notOf (fun _ _ => (cj_w_push (fun _ => (ov_cj (hR22 _ _ _ _ _))))))))))))))))
theorem mn_w_round_22b {Q1 Q2 : iST → Prop} {R41 R42 : Int → Int → Int → iST → Prop} {R221 R222 : Int → Int → Int → Int → iST → Prop} {x1 : Int} {x2 : Int} {x3 : Int} {x4 : Int} {u : iST} (hR4 : ∀ r0 r1 r2 r3, R41 r0 r1 r2 r3 → R42 r0 r1 r2 r3) (hR22 : ∀ r0 r1 r2 r3 r4, R221 r0 r1 r2 r3 r4 → R222 r0 r1 r2 r3 r4) (hQ : ∀ r0, Q1 r0 → Q2 r0) : pw_round_22b R41 R221 Q1 x1 x2 x3 x4 u → pw_round_22b R42 R222 Q2 x1 x2 x3 x4 u := (bd_mn (rd_mn fun _ => (br_mn (mn_w_round_72 hR4 hQ) (rd_mn fun _ => (br_mn (mn_w_round_72 hR4 hQ) (br_mn (ov_mn (hR22 _ _ _ _ _)) (ov_mn (ov_mn (bd_mn (rd_mn fun _ => (mn_w_notOf (fun _ _ => (mn_w_push (fun _ => (ov_mn (hR22 _ _ _ _ _))))))))))))))))
theorem wp_w_round_22b {Q1 Q2 : iST → Prop} {R41 R42 : Int → Int → Int → iST → Prop} {R221 R222 : Int → Int → Int → Int → iST → Prop} {x1 : Int} {x2 : Int} {x3 : Int} {x4 : Int} {u : iST} (hR4 : ∀ r0 r1 r2 r3, R41 r0 r1 r2 r3 → R42 r0 r1 r2 r3) (hR22 : ∀ r0 r1 r2 r3 r4, R221 r0 r1 r2 r3 r4 → R222 r0 r1 r2 r3 r4) (hQ : ∀ r0, Q1 r0 → Q2 r0) : w_round_22b R41 R221 Q1 x1 x2 x3 x4 u → pw_round_22b R42 R222 Q2 x1 x2 x3 x4 u := (bd_wp (rd_wp fun _ => (br_wp (wp_w_round_72 hR4 hQ) (rd_wp fun _ => (br_wp (wp_w_round_72 hR4 hQ) (br_wp (ov_wp (hR22 _ _ _ _ _)) (ov_wp (ov_wp (bd_wp (rd_wp fun _ => (wp_w_notOf (fun _ _ => (wp_w_push (fun _ => (ov_wp (hR22 _ _ _ _ _))))))))))))))))
def pw_round_22 (R4 : Int → Int → Int → iST → Prop) (Q : iST → Prop) (x1 : Int) (x2 : Int) (x3 : Int) (x4 : Int) (u : iST) : Prop := ∃ R22 : Int → Int → Int → Int → iST → Prop, (∀ (x1 : Int) (x2 : Int) (x3 : Int) (x4 : Int) (u : iST), R22 x1 x2 x3 x4 u → pw_round_22b R4 R22 Q x1 x2 x3 x4 u) ∧ R22 x1 x2 x3 x4 u
theorem cj_w_round_22 {Q1 Q2 Q3 : iST → Prop} {R41 R42 R43 : Int → Int → Int → iST → Prop} {x1 : Int} {x2 : Int} {x3 : Int} {x4 : Int} {u : iST} (hR4 : ∀ r0 r1 r2 r3, R41 r0 r1 r2 r3 → R42 r0 r1 r2 r3 → R43 r0 r1 r2 r3) (hQ : ∀ r0, Q1 r0 → Q2 r0 → Q3 r0) : w_round_22 R41 Q1 x1 x2 x3 x4 u → pw_round_22 R42 Q2 x1 x2 x3 x4 u → w_round_22 R43 Q3 x1 x2 x3 x4 u := by
  intro a b R3 c3
  obtain ⟨R2, c2, b2⟩ := b
  exact a (fun r0 r1 r2 r3 r4 => R2 r0 r1 r2 r3 r4 → R3 r0 r1 r2 r3 r4) (fun r0 r1 r2 r3 r4 a b => c3 r0 r1 r2 r3 r4 (cj_w_round_22b hR4 (fun r0 r1 r2 r3 r4 a b => a b) hQ a (c2 r0 r1 r2 r3 r4 b))) b2
theorem pw_round_22_i {R4 : Int → Int → Int → iST → Prop} {Q : iST → Prop} {x1 : Int} {x2 : Int} {x3 : Int} {x4 : Int} {u : iST} (I : Int → Int → Int → Int → iST → Prop) (s : ∀ (x1 : Int) (x2 : Int) (x3 : Int) (x4 : Int) (u : iST), I x1 x2 x3 x4 u → pw_round_22b R4 I Q x1 x2 x3 x4 u) (h : I x1 x2 x3 x4 u) : pw_round_22 R4 Q x1 x2 x3 x4 u := ⟨I, s, h⟩
theorem mn_w_round_22 {Q1 Q2 : iST → Prop} {R41 R42 : Int → Int → Int → iST → Prop} {x1 : Int} {x2 : Int} {x3 : Int} {x4 : Int} {u : iST} (hR4 : ∀ r0 r1 r2 r3, R41 r0 r1 r2 r3 → R42 r0 r1 r2 r3) (hQ : ∀ r0, Q1 r0 → Q2 r0) : pw_round_22 R41 Q1 x1 x2 x3 x4 u → pw_round_22 R42 Q2 x1 x2 x3 x4 u := fun ⟨R, s, h⟩ => ⟨R, fun r0 r1 r2 r3 r4 a => mn_w_round_22b hR4 (fun r0 r1 r2 r3 r4 a => a) hQ (s r0 r1 r2 r3 r4 a), h⟩
theorem un_w_round_22 {R4 : Int → Int → Int → iST → Prop} {Q : iST → Prop} {x1 : Int} {x2 : Int} {x3 : Int} {x4 : Int} {u : iST} : pw_round_22 R4 Q x1 x2 x3 x4 u → pw_round_22b R4 (fun x1 x2 x3 x4 u => pw_round_22 R4 Q x1 x2 x3 x4 u) Q x1 x2 x3 x4 u := fun ⟨R, s, h⟩ => mn_w_round_22b (fun _ _ _ _ h => h) (fun r0 r1 r2 r3 r4 a => ⟨R, s, a⟩) (fun _ h => h) (s _ _ _ _ _ h)
theorem fo_w_round_22 {R4 : Int → Int → Int → iST → Prop} {Q : iST → Prop} {x1 : Int} {x2 : Int} {x3 : Int} {x4 : Int} {u : iST} : pw_round_22b R4 (fun x1 x2 x3 x4 u => pw_round_22 R4 Q x1 x2 x3 x4 u) Q x1 x2 x3 x4 u → pw_round_22 R4 Q x1 x2 x3 x4 u := fun h => ⟨fun x1 x2 x3 x4 u => pw_round_22b R4 (fun x1 x2 x3 x4 u => pw_round_22 R4 Q x1 x2 x3 x4 u) Q x1 x2 x3 x4 u, fun r0 r1 r2 r3 r4 a => mn_w_round_22b (fun _ _ _ _ h => h) (fun r0 r1 r2 r3 r4 a => un_w_round_22 a) (fun _ h => h) a, h⟩
theorem wp_w_round_22 {Q1 Q2 : iST → Prop} {R41 R42 : Int → Int → Int → iST → Prop} {x1 : Int} {x2 : Int} {x3 : Int} {x4 : Int} {u : iST} (hR4 : ∀ r0 r1 r2 r3, R41 r0 r1 r2 r3 → R42 r0 r1 r2 r3) (hQ : ∀ r0, Q1 r0 → Q2 r0) : w_round_22 R41 Q1 x1 x2 x3 x4 u → pw_round_22 R42 Q2 x1 x2 x3 x4 u := fun a => a (fun x1 x2 x3 x4 u => pw_round_22 R42 Q2 x1 x2 x3 x4 u) (fun x1 x2 x3 x4 u b => fo_w_round_22 (wp_w_round_22b hR4 (fun r0 r1 r2 r3 r4 a => a) hQ b))
def pw_round_4b (R4 : Int → Int → Int → iST → Prop) (Q : iST → Prop) (x1 : Int) (x2 : Int) (x3 : Int) (u : iST) : Prop :=
  bdp x1 2300 (rd (u.2.1 115 x1) (fun v1 => 
  br (v1 ≤ x3) (
    bdp x1 2300 (rd (u.2.1 116 x1) (fun v2 => 
    ovp (v2 + 1) (
    bdp x1 2300 (sw (iA u 116 x1 (v2 + 1)) (fun u => 
    br (x2 ≠ 0) (
      pw_together x1 (fun v4 u => 
      br (v4 ≤ 400) (
        Q u) (
        pw_fail 4 (fun u => 
        Q u) u)) u) (
      pw_leave x1 (fun u => 
      Q u) u))))))) (
    sw (iI u 109 0) (fun u => 
    pw_round_22 R4 Q x1 x2 x3 0 u))))
theorem cj_w_round_4b {Q1 Q2 Q3 : iST → Prop} {R41 R42 R43 : Int → Int → Int → iST → Prop} {x1 : Int} {x2 : Int} {x3 : Int} {u : iST} (hR4 : ∀ r0 r1 r2 r3, R41 r0 r1 r2 r3 → R42 r0 r1 r2 r3 → R43 r0 r1 r2 r3) (hQ : ∀ r0, Q1 r0 → Q2 r0 → Q3 r0) : w_round_4b R41 Q1 x1 x2 x3 u → pw_round_4b R42 Q2 x1 x2 x3 u → w_round_4b R43 Q3 x1 x2 x3 u := (bd_cj (rd_cj fun _ => (br_cj (bd_cj (rd_cj fun _ => (ov_cj (bd_cj (sw_cj fun _ => (br_cj (cj_w_together (fun _ _ => (br_cj (hQ _) (cj_w_fail (fun _ => (hQ _)))))) (cj_w_leave (fun _ => (hQ _))))))))) (sw_cj fun _ => (cj_w_round_22 hR4 hQ)))))
theorem mn_w_round_4b {Q1 Q2 : iST → Prop} {R41 R42 : Int → Int → Int → iST → Prop} {x1 : Int} {x2 : Int} {x3 : Int} {u : iST} (hR4 : ∀ r0 r1 r2 r3, R41 r0 r1 r2 r3 → R42 r0 r1 r2 r3) (hQ : ∀ r0, Q1 r0 → Q2 r0) : pw_round_4b R41 Q1 x1 x2 x3 u → pw_round_4b R42 Q2 x1 x2 x3 u := (bd_mn (rd_mn fun _ => (br_mn (bd_mn (rd_mn fun _ => (ov_mn (bd_mn (sw_mn fun _ => (br_mn (mn_w_together (fun _ _ => (br_mn (hQ _) (mn_w_fail (fun _ => (hQ _)))))) (mn_w_leave (fun _ => (hQ _))))))))) (sw_mn fun _ => (mn_w_round_22 hR4 hQ)))))
theorem wp_w_round_4b {Q1 Q2 : iST → Prop} {R41 R42 : Int → Int → Int → iST → Prop} {x1 : Int} {x2 : Int} {x3 : Int} {u : iST} (hR4 : ∀ r0 r1 r2 r3, R41 r0 r1 r2 r3 → R42 r0 r1 r2 r3) (hQ : ∀ r0, Q1 r0 → Q2 r0) : w_round_4b R41 Q1 x1 x2 x3 u → pw_round_4b R42 Q2 x1 x2 x3 u := (bd_wp (rd_wp fun _ => (br_wp (bd_wp (rd_wp fun _ => (ov_wp (bd_wp (sw_wp fun _ => (br_wp (wp_w_together (fun _ _ => (br_wp (hQ _) (wp_w_fail (fun _ => (hQ _)))))) (wp_w_leave (fun _ => (hQ _))))))))) (sw_wp fun _ => (wp_w_round_22 hR4 hQ)))))
def pw_round_4 (Q : iST → Prop) (x1 : Int) (x2 : Int) (x3 : Int) (u : iST) : Prop := ∃ R4 : Int → Int → Int → iST → Prop, (∀ (x1 : Int) (x2 : Int) (x3 : Int) (u : iST), R4 x1 x2 x3 u → pw_round_4b R4 Q x1 x2 x3 u) ∧ R4 x1 x2 x3 u
theorem cj_w_round_4 {Q1 Q2 Q3 : iST → Prop}  {x1 : Int} {x2 : Int} {x3 : Int} {u : iST} (hQ : ∀ r0, Q1 r0 → Q2 r0 → Q3 r0) : w_round_4 Q1 x1 x2 x3 u → pw_round_4 Q2 x1 x2 x3 u → w_round_4 Q3 x1 x2 x3 u := by
  intro a b R3 c3
  obtain ⟨R2, c2, b2⟩ := b
  exact a (fun r0 r1 r2 r3 => R2 r0 r1 r2 r3 → R3 r0 r1 r2 r3) (fun r0 r1 r2 r3 a b => c3 r0 r1 r2 r3 (cj_w_round_4b (fun r0 r1 r2 r3 a b => a b) hQ a (c2 r0 r1 r2 r3 b))) b2
theorem pw_round_4_i  {Q : iST → Prop} {x1 : Int} {x2 : Int} {x3 : Int} {u : iST} (I : Int → Int → Int → iST → Prop) (s : ∀ (x1 : Int) (x2 : Int) (x3 : Int) (u : iST), I x1 x2 x3 u → pw_round_4b I Q x1 x2 x3 u) (h : I x1 x2 x3 u) : pw_round_4 Q x1 x2 x3 u := ⟨I, s, h⟩
theorem mn_w_round_4 {Q1 Q2 : iST → Prop}  {x1 : Int} {x2 : Int} {x3 : Int} {u : iST} (hQ : ∀ r0, Q1 r0 → Q2 r0) : pw_round_4 Q1 x1 x2 x3 u → pw_round_4 Q2 x1 x2 x3 u := fun ⟨R, s, h⟩ => ⟨R, fun r0 r1 r2 r3 a => mn_w_round_4b (fun r0 r1 r2 r3 a => a) hQ (s r0 r1 r2 r3 a), h⟩
theorem un_w_round_4  {Q : iST → Prop} {x1 : Int} {x2 : Int} {x3 : Int} {u : iST} : pw_round_4 Q x1 x2 x3 u → pw_round_4b (fun x1 x2 x3 u => pw_round_4 Q x1 x2 x3 u) Q x1 x2 x3 u := fun ⟨R, s, h⟩ => mn_w_round_4b (fun r0 r1 r2 r3 a => ⟨R, s, a⟩) (fun _ h => h) (s _ _ _ _ h)
theorem fo_w_round_4  {Q : iST → Prop} {x1 : Int} {x2 : Int} {x3 : Int} {u : iST} : pw_round_4b (fun x1 x2 x3 u => pw_round_4 Q x1 x2 x3 u) Q x1 x2 x3 u → pw_round_4 Q x1 x2 x3 u := fun h => ⟨fun x1 x2 x3 u => pw_round_4b (fun x1 x2 x3 u => pw_round_4 Q x1 x2 x3 u) Q x1 x2 x3 u, fun r0 r1 r2 r3 a => mn_w_round_4b (fun r0 r1 r2 r3 a => un_w_round_4 a) (fun _ h => h) a, h⟩
theorem wp_w_round_4 {Q1 Q2 : iST → Prop}  {x1 : Int} {x2 : Int} {x3 : Int} {u : iST} (hQ : ∀ r0, Q1 r0 → Q2 r0) : w_round_4 Q1 x1 x2 x3 u → pw_round_4 Q2 x1 x2 x3 u := fun a => a (fun x1 x2 x3 u => pw_round_4 Q2 x1 x2 x3 u) (fun x1 x2 x3 u b => fo_w_round_4 (wp_w_round_4b (fun r0 r1 r2 r3 a => a) hQ b))
def pw_round (a0 : Int) (Q : iST → Prop) (u : iST) : Prop :=
  pw_round_4 Q a0 0 0 u
theorem cj_w_round {Q1 Q2 Q3 : iST → Prop}  {a0 : Int} {u : iST} (hQ : ∀ r0, Q1 r0 → Q2 r0 → Q3 r0) : w_round a0 Q1 u → pw_round a0 Q2 u → w_round a0 Q3 u := (cj_w_round_4  hQ)
theorem mn_w_round {Q1 Q2 : iST → Prop}  {a0 : Int} {u : iST} (hQ : ∀ r0, Q1 r0 → Q2 r0) : pw_round a0 Q1 u → pw_round a0 Q2 u := (mn_w_round_4  hQ)
theorem wp_w_round {Q1 Q2 : iST → Prop}  {a0 : Int} {u : iST} (hQ : ∀ r0, Q1 r0 → Q2 r0) : w_round a0 Q1 u → pw_round a0 Q2 u := (wp_w_round_4  hQ)
def pw_prove_155 (Q : Int → iST → Prop) (y1 : Int) (u : iST) : Prop :=
  ztp y1 (sw (iI u 62 y1) (fun u => 
  rz (u.1 62) (fun v5 => 
  ztp v5 (Q v5 u))))
theorem cj_w_prove_155 {Q1 Q2 Q3 : Int → iST → Prop}  {y1 : Int} {u : iST} (hQ : ∀ r0 r1, Q1 r0 r1 → Q2 r0 r1 → Q3 r0 r1) : w_prove_155 Q1 y1 u → pw_prove_155 Q2 y1 u → w_prove_155 Q3 y1 u := (zt_cj (sw_cj fun _ => (rz_cj fun _ => (zt_cj (hQ _ _)))))
theorem mn_w_prove_155 {Q1 Q2 : Int → iST → Prop}  {y1 : Int} {u : iST} (hQ : ∀ r0 r1, Q1 r0 r1 → Q2 r0 r1) : pw_prove_155 Q1 y1 u → pw_prove_155 Q2 y1 u := (zt_mn (sw_mn fun _ => (rz_mn fun _ => (zt_mn (hQ _ _)))))
theorem wp_w_prove_155 {Q1 Q2 : Int → iST → Prop}  {y1 : Int} {u : iST} (hQ : ∀ r0 r1, Q1 r0 r1 → Q2 r0 r1) : w_prove_155 Q1 y1 u → pw_prove_155 Q2 y1 u := (zt_wp (sw_wp fun _ => (rz_wp fun _ => (zt_wp (hQ _ _)))))
def pw_prove_154 (Q : Int → iST → Prop) (u : iST) : Prop :=
  pw_prove_155 Q 0 u
theorem cj_w_prove_154 {Q1 Q2 Q3 : Int → iST → Prop}  {u : iST} (hQ : ∀ r0 r1, Q1 r0 r1 → Q2 r0 r1 → Q3 r0 r1) : w_prove_154 Q1 u → pw_prove_154 Q2 u → w_prove_154 Q3 u := (cj_w_prove_155  hQ)
theorem mn_w_prove_154 {Q1 Q2 : Int → iST → Prop}  {u : iST} (hQ : ∀ r0 r1, Q1 r0 r1 → Q2 r0 r1) : pw_prove_154 Q1 u → pw_prove_154 Q2 u := (mn_w_prove_155  hQ)
theorem wp_w_prove_154 {Q1 Q2 : Int → iST → Prop}  {u : iST} (hQ : ∀ r0 r1, Q1 r0 r1 → Q2 r0 r1) : w_prove_154 Q1 u → pw_prove_154 Q2 u := (wp_w_prove_155  hQ)
def pw_prove_130 (Q : Int → iST → Prop) (u : iST) : Prop :=
  sw (iI u 109 0) (fun u => 
  rd (u.1 61) (fun v4 => 
  br (v4 ≠ 0) (
    pw_prove_154 Q u) (
    rd (u.1 63) (fun v6 => 
    br (v6 ≠ 0) (
      pw_prove_154 Q u) (
      pw_prove_155 Q 1 u)))))
theorem cj_w_prove_130 {Q1 Q2 Q3 : Int → iST → Prop}  {u : iST} (hQ : ∀ r0 r1, Q1 r0 r1 → Q2 r0 r1 → Q3 r0 r1) : w_prove_130 Q1 u → pw_prove_130 Q2 u → w_prove_130 Q3 u := (sw_cj fun _ => (rd_cj fun _ => (br_cj (cj_w_prove_154  hQ) (rd_cj fun _ => (br_cj (cj_w_prove_154  hQ) (cj_w_prove_155  hQ))))))
theorem mn_w_prove_130 {Q1 Q2 : Int → iST → Prop}  {u : iST} (hQ : ∀ r0 r1, Q1 r0 r1 → Q2 r0 r1) : pw_prove_130 Q1 u → pw_prove_130 Q2 u := (sw_mn fun _ => (rd_mn fun _ => (br_mn (mn_w_prove_154  hQ) (rd_mn fun _ => (br_mn (mn_w_prove_154  hQ) (mn_w_prove_155  hQ))))))
theorem wp_w_prove_130 {Q1 Q2 : Int → iST → Prop}  {u : iST} (hQ : ∀ r0 r1, Q1 r0 r1 → Q2 r0 r1) : w_prove_130 Q1 u → pw_prove_130 Q2 u := (sw_wp fun _ => (rd_wp fun _ => (br_wp (wp_w_prove_154  hQ) (rd_wp fun _ => (br_wp (wp_w_prove_154  hQ) (wp_w_prove_155  hQ))))))
def pw_prove_47b (R47 : iST → Prop) (Q : Int → iST → Prop) (u : iST) : Prop :=
  rd (u.1 61) (fun v3 => 
  br (v3 ≠ 0) (
    pw_prove_130 Q u) (
    rd (u.1 119) (fun v7 => 
    br (v7 ≤ 0) (
      pw_prove_130 Q u) (
      rd (u.1 63) (fun v8 => 
      br (20 ≤ v8) (
        pw_prove_130 Q u) (
        rd (u.1 119) (fun v9 => 
        ovp (v9 - 1) (
        bdp (v9 - 1) 2300 (rd (u.2.1 118 (v9 - 1)) (fun v11 => 
        pw_isProved v11 (fun v12 u => 
        br (v12 = 0) (
          bdp v11 2300 (rd (u.2.1 116 v11) (fun v13 => 
          br (v13 ≠ 6) (
            pw_round v11 (fun u => 
            R47 u) u) (
            pw_leave v11 (fun u => 
            R47 u) u)))) (
          rd (u.1 119) (fun v16 => 
          ovp (v16 - 1) (
          sw (iI u 119 (v16 - 1)) (fun u => 
          R47 u))))) u))))))))))
theorem cj_w_prove_47b {Q1 Q2 Q3 : Int → iST → Prop} {R471 R472 R473 : iST → Prop} {u : iST} (hR47 : ∀ r0, R471 r0 → R472 r0 → R473 r0) (hQ : ∀ r0 r1, Q1 r0 r1 → Q2 r0 r1 → Q3 r0 r1) : w_prove_47b R471 Q1 u → pw_prove_47b R472 Q2 u → w_prove_47b R473 Q3 u := (rd_cj fun _ => (br_cj (cj_w_prove_130  hQ) (rd_cj fun _ => (br_cj (cj_w_prove_130  hQ) (rd_cj fun _ => (br_cj (cj_w_prove_130  hQ) (rd_cj fun _ => (ov_cj (bd_cj (rd_cj fun _ => (cj_w_isProved (fun _ _ => (br_cj (bd_cj (rd_cj fun _ => (br_cj (cj_w_round (fun _ => (hR47 _))) (cj_w_leave (fun _ => (hR47 _)))))) (rd_cj fun _ => (ov_cj (sw_cj fun _ => (hR47 _)))))))))))))))))
theorem mn_w_prove_47b {Q1 Q2 : Int → iST → Prop} {R471 R472 : iST → Prop} {u : iST} (hR47 : ∀ r0, R471 r0 → R472 r0) (hQ : ∀ r0 r1, Q1 r0 r1 → Q2 r0 r1) : pw_prove_47b R471 Q1 u → pw_prove_47b R472 Q2 u := (rd_mn fun _ => (br_mn (mn_w_prove_130  hQ) (rd_mn fun _ => (br_mn (mn_w_prove_130  hQ) (rd_mn fun _ => (br_mn (mn_w_prove_130  hQ) (rd_mn fun _ => (ov_mn (bd_mn (rd_mn fun _ => (mn_w_isProved (fun _ _ => (br_mn (bd_mn (rd_mn fun _ => (br_mn (mn_w_round (fun _ => (hR47 _))) (mn_w_leave (fun _ => (hR47 _)))))) (rd_mn fun _ => (ov_mn (sw_mn fun _ => (hR47 _)))))))))))))))))
theorem wp_w_prove_47b {Q1 Q2 : Int → iST → Prop} {R471 R472 : iST → Prop} {u : iST} (hR47 : ∀ r0, R471 r0 → R472 r0) (hQ : ∀ r0 r1, Q1 r0 r1 → Q2 r0 r1) : w_prove_47b R471 Q1 u → pw_prove_47b R472 Q2 u := (rd_wp fun _ => (br_wp (wp_w_prove_130  hQ) (rd_wp fun _ => (br_wp (wp_w_prove_130  hQ) (rd_wp fun _ => (br_wp (wp_w_prove_130  hQ) (rd_wp fun _ => (ov_wp (bd_wp (rd_wp fun _ => (wp_w_isProved (fun _ _ => (br_wp (bd_wp (rd_wp fun _ => (br_wp (wp_w_round (fun _ => (hR47 _))) (wp_w_leave (fun _ => (hR47 _)))))) (rd_wp fun _ => (ov_wp (sw_wp fun _ => (hR47 _)))))))))))))))))
def pw_prove_47 (Q : Int → iST → Prop) (u : iST) : Prop := ∃ R47 : iST → Prop, (∀ (u : iST), R47 u → pw_prove_47b R47 Q u) ∧ R47 u
theorem cj_w_prove_47 {Q1 Q2 Q3 : Int → iST → Prop}  {u : iST} (hQ : ∀ r0 r1, Q1 r0 r1 → Q2 r0 r1 → Q3 r0 r1) : w_prove_47 Q1 u → pw_prove_47 Q2 u → w_prove_47 Q3 u := by
  intro a b R3 c3
  obtain ⟨R2, c2, b2⟩ := b
  exact a (fun r0 => R2 r0 → R3 r0) (fun r0 a b => c3 r0 (cj_w_prove_47b (fun r0 a b => a b) hQ a (c2 r0 b))) b2
theorem pw_prove_47_i  {Q : Int → iST → Prop} {u : iST} (I : iST → Prop) (s : ∀ (u : iST), I u → pw_prove_47b I Q u) (h : I u) : pw_prove_47 Q u := ⟨I, s, h⟩
theorem mn_w_prove_47 {Q1 Q2 : Int → iST → Prop}  {u : iST} (hQ : ∀ r0 r1, Q1 r0 r1 → Q2 r0 r1) : pw_prove_47 Q1 u → pw_prove_47 Q2 u := fun ⟨R, s, h⟩ => ⟨R, fun r0 a => mn_w_prove_47b (fun r0 a => a) hQ (s r0 a), h⟩
theorem un_w_prove_47  {Q : Int → iST → Prop} {u : iST} : pw_prove_47 Q u → pw_prove_47b (fun u => pw_prove_47 Q u) Q u := fun ⟨R, s, h⟩ => mn_w_prove_47b (fun r0 a => ⟨R, s, a⟩) (fun _ _ h => h) (s _ h)
theorem fo_w_prove_47  {Q : Int → iST → Prop} {u : iST} : pw_prove_47b (fun u => pw_prove_47 Q u) Q u → pw_prove_47 Q u := fun h => ⟨fun u => pw_prove_47b (fun u => pw_prove_47 Q u) Q u, fun r0 a => mn_w_prove_47b (fun r0 a => un_w_prove_47 a) (fun _ _ h => h) a, h⟩
theorem wp_w_prove_47 {Q1 Q2 : Int → iST → Prop}  {u : iST} (hQ : ∀ r0 r1, Q1 r0 r1 → Q2 r0 r1) : w_prove_47 Q1 u → pw_prove_47 Q2 u := fun a => a (fun u => pw_prove_47 Q2 u) (fun u b => fo_w_prove_47 (wp_w_prove_47b (fun r0 a => a) hQ b))
def pw_prove_12b (R12 : Int → iST → Prop) (Q : Int → iST → Prop) (x1 : Int) (u : iST) : Prop :=
  br (x1 < 0) (
    sw (iI u 63 0) (fun u => 
    pw_prove_47 Q u)) (
    rd (u.1 119) (fun v18 => 
    bdp v18 2300 (sw (iA u 118 v18 x1) (fun u => 
    rd (u.1 119) (fun v19 => 
    ovp (v19 + 1) (
    sw (iI u 119 (v19 + 1)) (fun u => 
    ovp (x1 + (-1)) (
    R12 (x1 + (-1)) u))))))))
theorem cj_w_prove_12b {Q1 Q2 Q3 : Int → iST → Prop} {R121 R122 R123 : Int → iST → Prop} {x1 : Int} {u : iST} (hR12 : ∀ r0 r1, R121 r0 r1 → R122 r0 r1 → R123 r0 r1) (hQ : ∀ r0 r1, Q1 r0 r1 → Q2 r0 r1 → Q3 r0 r1) : w_prove_12b R121 Q1 x1 u → pw_prove_12b R122 Q2 x1 u → w_prove_12b R123 Q3 x1 u := (br_cj (sw_cj fun _ => (cj_w_prove_47  hQ)) (rd_cj fun _ => (bd_cj (sw_cj fun _ => (rd_cj fun _ => (ov_cj (sw_cj fun _ => (ov_cj (hR12 _ _)))))))))
theorem mn_w_prove_12b {Q1 Q2 : Int → iST → Prop} {R121 R122 : Int → iST → Prop} {x1 : Int} {u : iST} (hR12 : ∀ r0 r1, R121 r0 r1 → R122 r0 r1) (hQ : ∀ r0 r1, Q1 r0 r1 → Q2 r0 r1) : pw_prove_12b R121 Q1 x1 u → pw_prove_12b R122 Q2 x1 u := (br_mn (sw_mn fun _ => (mn_w_prove_47  hQ)) (rd_mn fun _ => (bd_mn (sw_mn fun _ => (rd_mn fun _ => (ov_mn (sw_mn fun _ => (ov_mn (hR12 _ _)))))))))
theorem wp_w_prove_12b {Q1 Q2 : Int → iST → Prop} {R121 R122 : Int → iST → Prop} {x1 : Int} {u : iST} (hR12 : ∀ r0 r1, R121 r0 r1 → R122 r0 r1) (hQ : ∀ r0 r1, Q1 r0 r1 → Q2 r0 r1) : w_prove_12b R121 Q1 x1 u → pw_prove_12b R122 Q2 x1 u := (br_wp (sw_wp fun _ => (wp_w_prove_47  hQ)) (rd_wp fun _ => (bd_wp (sw_wp fun _ => (rd_wp fun _ => (ov_wp (sw_wp fun _ => (ov_wp (hR12 _ _)))))))))
def pw_prove_12 (Q : Int → iST → Prop) (x1 : Int) (u : iST) : Prop := ∃ R12 : Int → iST → Prop, (∀ (x1 : Int) (u : iST), R12 x1 u → pw_prove_12b R12 Q x1 u) ∧ R12 x1 u
theorem cj_w_prove_12 {Q1 Q2 Q3 : Int → iST → Prop}  {x1 : Int} {u : iST} (hQ : ∀ r0 r1, Q1 r0 r1 → Q2 r0 r1 → Q3 r0 r1) : w_prove_12 Q1 x1 u → pw_prove_12 Q2 x1 u → w_prove_12 Q3 x1 u := by
  intro a b R3 c3
  obtain ⟨R2, c2, b2⟩ := b
  exact a (fun r0 r1 => R2 r0 r1 → R3 r0 r1) (fun r0 r1 a b => c3 r0 r1 (cj_w_prove_12b (fun r0 r1 a b => a b) hQ a (c2 r0 r1 b))) b2
theorem pw_prove_12_i  {Q : Int → iST → Prop} {x1 : Int} {u : iST} (I : Int → iST → Prop) (s : ∀ (x1 : Int) (u : iST), I x1 u → pw_prove_12b I Q x1 u) (h : I x1 u) : pw_prove_12 Q x1 u := ⟨I, s, h⟩
theorem mn_w_prove_12 {Q1 Q2 : Int → iST → Prop}  {x1 : Int} {u : iST} (hQ : ∀ r0 r1, Q1 r0 r1 → Q2 r0 r1) : pw_prove_12 Q1 x1 u → pw_prove_12 Q2 x1 u := fun ⟨R, s, h⟩ => ⟨R, fun r0 r1 a => mn_w_prove_12b (fun r0 r1 a => a) hQ (s r0 r1 a), h⟩
theorem un_w_prove_12  {Q : Int → iST → Prop} {x1 : Int} {u : iST} : pw_prove_12 Q x1 u → pw_prove_12b (fun x1 u => pw_prove_12 Q x1 u) Q x1 u := fun ⟨R, s, h⟩ => mn_w_prove_12b (fun r0 r1 a => ⟨R, s, a⟩) (fun _ _ h => h) (s _ _ h)
theorem fo_w_prove_12  {Q : Int → iST → Prop} {x1 : Int} {u : iST} : pw_prove_12b (fun x1 u => pw_prove_12 Q x1 u) Q x1 u → pw_prove_12 Q x1 u := fun h => ⟨fun x1 u => pw_prove_12b (fun x1 u => pw_prove_12 Q x1 u) Q x1 u, fun r0 r1 a => mn_w_prove_12b (fun r0 r1 a => un_w_prove_12 a) (fun _ _ h => h) a, h⟩
theorem wp_w_prove_12 {Q1 Q2 : Int → iST → Prop}  {x1 : Int} {u : iST} (hQ : ∀ r0 r1, Q1 r0 r1 → Q2 r0 r1) : w_prove_12 Q1 x1 u → pw_prove_12 Q2 x1 u := fun a => a (fun x1 u => pw_prove_12 Q2 x1 u) (fun x1 u b => fo_w_prove_12 (wp_w_prove_12b (fun r0 r1 a => a) hQ b))
def pw_prove (Q : Int → iST → Prop) (u : iST) : Prop :=
  sw (iI u 119 0) (fun u => 
  rd (u.1 117) (fun v1 => 
  ovp (v1 - 1) (
  pw_prove_12 Q (v1 - 1) u)))
theorem cj_w_prove {Q1 Q2 Q3 : Int → iST → Prop}  {u : iST} (hQ : ∀ r0 r1, Q1 r0 r1 → Q2 r0 r1 → Q3 r0 r1) : w_prove Q1 u → pw_prove Q2 u → w_prove Q3 u := (sw_cj fun _ => (rd_cj fun _ => (ov_cj (cj_w_prove_12  hQ))))
theorem mn_w_prove {Q1 Q2 : Int → iST → Prop}  {u : iST} (hQ : ∀ r0 r1, Q1 r0 r1 → Q2 r0 r1) : pw_prove Q1 u → pw_prove Q2 u := (sw_mn fun _ => (rd_mn fun _ => (ov_mn (mn_w_prove_12  hQ))))
theorem wp_w_prove {Q1 Q2 : Int → iST → Prop}  {u : iST} (hQ : ∀ r0 r1, Q1 r0 r1 → Q2 r0 r1) : w_prove Q1 u → pw_prove Q2 u := (sw_wp fun _ => (rd_wp fun _ => (ov_wp (wp_w_prove_12  hQ))))
def pw_tellOut (a0 : Int) (Q : iST → Prop) (u : iST) : Prop :=
  sw (iI u 16 0) (fun u => 
  pw_tellObject a0 (fun u => 
  Q u) u)
theorem cj_w_tellOut {Q1 Q2 Q3 : iST → Prop}  {a0 : Int} {u : iST} (hQ : ∀ r0, Q1 r0 → Q2 r0 → Q3 r0) : w_tellOut a0 Q1 u → pw_tellOut a0 Q2 u → w_tellOut a0 Q3 u := (sw_cj fun _ => (cj_w_tellObject (fun _ => (hQ _))))
theorem mn_w_tellOut {Q1 Q2 : iST → Prop}  {a0 : Int} {u : iST} (hQ : ∀ r0, Q1 r0 → Q2 r0) : pw_tellOut a0 Q1 u → pw_tellOut a0 Q2 u := (sw_mn fun _ => (mn_w_tellObject (fun _ => (hQ _))))
theorem wp_w_tellOut {Q1 Q2 : iST → Prop}  {a0 : Int} {u : iST} (hQ : ∀ r0, Q1 r0 → Q2 r0) : w_tellOut a0 Q1 u → pw_tellOut a0 Q2 u := (sw_wp fun _ => (wp_w_tellObject (fun _ => (hQ _))))
def pw_rowList_11b (R11 : Int → Int → Int → iST → Prop) (Q : Int → iST → Prop) (x1 : Int) (x2 : Int) (x3 : Int) (u : iST) : Prop :=
  br (x3 < 0) (
    Q x2 u) (
    ovp (30 * x1) (
    ovp ((30 * x1) + x3) (
    bdp ((30 * x1) + x3) 69000 (rd (u.2.1 114 ((30 * x1) + x3)) (fun v5 => 
    pw_pair v5 x2 (fun v6 u => 
    ovp (x3 + (-1)) (
    R11 x1 v6 (x3 + (-1)) u)) u)))))
theorem cj_w_rowList_11b {Q1 Q2 Q3 : Int → iST → Prop} {R111 R112 R113 : Int → Int → Int → iST → Prop} {x1 : Int} {x2 : Int} {x3 : Int} {u : iST} (hR11 : ∀ r0 r1 r2 r3, R111 r0 r1 r2 r3 → R112 r0 r1 r2 r3 → R113 r0 r1 r2 r3) (hQ : ∀ r0 r1, Q1 r0 r1 → Q2 r0 r1 → Q3 r0 r1) : w_rowList_11b R111 Q1 x1 x2 x3 u → pw_rowList_11b R112 Q2 x1 x2 x3 u → w_rowList_11b R113 Q3 x1 x2 x3 u := (br_cj (hQ _ _) (ov_cj (ov_cj (bd_cj (rd_cj fun _ => (cj_w_pair (fun _ _ => (ov_cj (hR11 _ _ _ _)))))))))
theorem mn_w_rowList_11b {Q1 Q2 : Int → iST → Prop} {R111 R112 : Int → Int → Int → iST → Prop} {x1 : Int} {x2 : Int} {x3 : Int} {u : iST} (hR11 : ∀ r0 r1 r2 r3, R111 r0 r1 r2 r3 → R112 r0 r1 r2 r3) (hQ : ∀ r0 r1, Q1 r0 r1 → Q2 r0 r1) : pw_rowList_11b R111 Q1 x1 x2 x3 u → pw_rowList_11b R112 Q2 x1 x2 x3 u := (br_mn (hQ _ _) (ov_mn (ov_mn (bd_mn (rd_mn fun _ => (mn_w_pair (fun _ _ => (ov_mn (hR11 _ _ _ _)))))))))
theorem wp_w_rowList_11b {Q1 Q2 : Int → iST → Prop} {R111 R112 : Int → Int → Int → iST → Prop} {x1 : Int} {x2 : Int} {x3 : Int} {u : iST} (hR11 : ∀ r0 r1 r2 r3, R111 r0 r1 r2 r3 → R112 r0 r1 r2 r3) (hQ : ∀ r0 r1, Q1 r0 r1 → Q2 r0 r1) : w_rowList_11b R111 Q1 x1 x2 x3 u → pw_rowList_11b R112 Q2 x1 x2 x3 u := (br_wp (hQ _ _) (ov_wp (ov_wp (bd_wp (rd_wp fun _ => (wp_w_pair (fun _ _ => (ov_wp (hR11 _ _ _ _)))))))))
def pw_rowList_11 (Q : Int → iST → Prop) (x1 : Int) (x2 : Int) (x3 : Int) (u : iST) : Prop := ∃ R11 : Int → Int → Int → iST → Prop, (∀ (x1 : Int) (x2 : Int) (x3 : Int) (u : iST), R11 x1 x2 x3 u → pw_rowList_11b R11 Q x1 x2 x3 u) ∧ R11 x1 x2 x3 u
theorem cj_w_rowList_11 {Q1 Q2 Q3 : Int → iST → Prop}  {x1 : Int} {x2 : Int} {x3 : Int} {u : iST} (hQ : ∀ r0 r1, Q1 r0 r1 → Q2 r0 r1 → Q3 r0 r1) : w_rowList_11 Q1 x1 x2 x3 u → pw_rowList_11 Q2 x1 x2 x3 u → w_rowList_11 Q3 x1 x2 x3 u := by
  intro a b R3 c3
  obtain ⟨R2, c2, b2⟩ := b
  exact a (fun r0 r1 r2 r3 => R2 r0 r1 r2 r3 → R3 r0 r1 r2 r3) (fun r0 r1 r2 r3 a b => c3 r0 r1 r2 r3 (cj_w_rowList_11b (fun r0 r1 r2 r3 a b => a b) hQ a (c2 r0 r1 r2 r3 b))) b2
theorem pw_rowList_11_i  {Q : Int → iST → Prop} {x1 : Int} {x2 : Int} {x3 : Int} {u : iST} (I : Int → Int → Int → iST → Prop) (s : ∀ (x1 : Int) (x2 : Int) (x3 : Int) (u : iST), I x1 x2 x3 u → pw_rowList_11b I Q x1 x2 x3 u) (h : I x1 x2 x3 u) : pw_rowList_11 Q x1 x2 x3 u := ⟨I, s, h⟩
theorem mn_w_rowList_11 {Q1 Q2 : Int → iST → Prop}  {x1 : Int} {x2 : Int} {x3 : Int} {u : iST} (hQ : ∀ r0 r1, Q1 r0 r1 → Q2 r0 r1) : pw_rowList_11 Q1 x1 x2 x3 u → pw_rowList_11 Q2 x1 x2 x3 u := fun ⟨R, s, h⟩ => ⟨R, fun r0 r1 r2 r3 a => mn_w_rowList_11b (fun r0 r1 r2 r3 a => a) hQ (s r0 r1 r2 r3 a), h⟩
theorem un_w_rowList_11  {Q : Int → iST → Prop} {x1 : Int} {x2 : Int} {x3 : Int} {u : iST} : pw_rowList_11 Q x1 x2 x3 u → pw_rowList_11b (fun x1 x2 x3 u => pw_rowList_11 Q x1 x2 x3 u) Q x1 x2 x3 u := fun ⟨R, s, h⟩ => mn_w_rowList_11b (fun r0 r1 r2 r3 a => ⟨R, s, a⟩) (fun _ _ h => h) (s _ _ _ _ h)
theorem fo_w_rowList_11  {Q : Int → iST → Prop} {x1 : Int} {x2 : Int} {x3 : Int} {u : iST} : pw_rowList_11b (fun x1 x2 x3 u => pw_rowList_11 Q x1 x2 x3 u) Q x1 x2 x3 u → pw_rowList_11 Q x1 x2 x3 u := fun h => ⟨fun x1 x2 x3 u => pw_rowList_11b (fun x1 x2 x3 u => pw_rowList_11 Q x1 x2 x3 u) Q x1 x2 x3 u, fun r0 r1 r2 r3 a => mn_w_rowList_11b (fun r0 r1 r2 r3 a => un_w_rowList_11 a) (fun _ _ h => h) a, h⟩
theorem wp_w_rowList_11 {Q1 Q2 : Int → iST → Prop}  {x1 : Int} {x2 : Int} {x3 : Int} {u : iST} (hQ : ∀ r0 r1, Q1 r0 r1 → Q2 r0 r1) : w_rowList_11 Q1 x1 x2 x3 u → pw_rowList_11 Q2 x1 x2 x3 u := fun a => a (fun x1 x2 x3 u => pw_rowList_11 Q2 x1 x2 x3 u) (fun x1 x2 x3 u b => fo_w_rowList_11 (wp_w_rowList_11b (fun r0 r1 r2 r3 a => a) hQ b))
def pw_rowList (a0 : Int) (Q : Int → iST → Prop) (u : iST) : Prop :=
  bdp a0 2300 (rd (u.2.1 115 a0) (fun v1 => 
  ovp (v1 - 1) (
  pw_rowList_11 Q a0 0 (v1 - 1) u)))
theorem cj_w_rowList {Q1 Q2 Q3 : Int → iST → Prop}  {a0 : Int} {u : iST} (hQ : ∀ r0 r1, Q1 r0 r1 → Q2 r0 r1 → Q3 r0 r1) : w_rowList a0 Q1 u → pw_rowList a0 Q2 u → w_rowList a0 Q3 u := (bd_cj (rd_cj fun _ => (ov_cj (cj_w_rowList_11  hQ))))
theorem mn_w_rowList {Q1 Q2 : Int → iST → Prop}  {a0 : Int} {u : iST} (hQ : ∀ r0 r1, Q1 r0 r1 → Q2 r0 r1) : pw_rowList a0 Q1 u → pw_rowList a0 Q2 u := (bd_mn (rd_mn fun _ => (ov_mn (mn_w_rowList_11  hQ))))
theorem wp_w_rowList {Q1 Q2 : Int → iST → Prop}  {a0 : Int} {u : iST} (hQ : ∀ r0 r1, Q1 r0 r1 → Q2 r0 r1) : w_rowList a0 Q1 u → pw_rowList a0 Q2 u := (bd_wp (rd_wp fun _ => (ov_wp (wp_w_rowList_11  hQ))))
def pw_tellLeft_9b (R9 : Int → Int → iST → Prop) (Q : iST → Prop) (x1 : Int) (x2 : Int) (u : iST) : Prop :=
  br (x2 < 0) (
    pw_tellOut x1 (fun u => 
    Q u) u) (
    bdp x2 20 (rd (u.2.1 120 x2) (fun v4 => 
    pw_rowList v4 (fun v5 u => 
    pw_pair v5 x1 (fun v6 u => 
    ovp (x2 + (-1)) (
    R9 v6 (x2 + (-1)) u)) u) u)))
theorem cj_w_tellLeft_9b {Q1 Q2 Q3 : iST → Prop} {R91 R92 R93 : Int → Int → iST → Prop} {x1 : Int} {x2 : Int} {u : iST} (hR9 : ∀ r0 r1 r2, R91 r0 r1 r2 → R92 r0 r1 r2 → R93 r0 r1 r2) (hQ : ∀ r0, Q1 r0 → Q2 r0 → Q3 r0) : w_tellLeft_9b R91 Q1 x1 x2 u → pw_tellLeft_9b R92 Q2 x1 x2 u → w_tellLeft_9b R93 Q3 x1 x2 u := (br_cj (cj_w_tellOut (fun _ => (hQ _))) (bd_cj (rd_cj fun _ => (cj_w_rowList (fun _ _ => (cj_w_pair (fun _ _ => (ov_cj (hR9 _ _ _)))))))))
theorem mn_w_tellLeft_9b {Q1 Q2 : iST → Prop} {R91 R92 : Int → Int → iST → Prop} {x1 : Int} {x2 : Int} {u : iST} (hR9 : ∀ r0 r1 r2, R91 r0 r1 r2 → R92 r0 r1 r2) (hQ : ∀ r0, Q1 r0 → Q2 r0) : pw_tellLeft_9b R91 Q1 x1 x2 u → pw_tellLeft_9b R92 Q2 x1 x2 u := (br_mn (mn_w_tellOut (fun _ => (hQ _))) (bd_mn (rd_mn fun _ => (mn_w_rowList (fun _ _ => (mn_w_pair (fun _ _ => (ov_mn (hR9 _ _ _)))))))))
theorem wp_w_tellLeft_9b {Q1 Q2 : iST → Prop} {R91 R92 : Int → Int → iST → Prop} {x1 : Int} {x2 : Int} {u : iST} (hR9 : ∀ r0 r1 r2, R91 r0 r1 r2 → R92 r0 r1 r2) (hQ : ∀ r0, Q1 r0 → Q2 r0) : w_tellLeft_9b R91 Q1 x1 x2 u → pw_tellLeft_9b R92 Q2 x1 x2 u := (br_wp (wp_w_tellOut (fun _ => (hQ _))) (bd_wp (rd_wp fun _ => (wp_w_rowList (fun _ _ => (wp_w_pair (fun _ _ => (ov_wp (hR9 _ _ _)))))))))
def pw_tellLeft_9 (Q : iST → Prop) (x1 : Int) (x2 : Int) (u : iST) : Prop := ∃ R9 : Int → Int → iST → Prop, (∀ (x1 : Int) (x2 : Int) (u : iST), R9 x1 x2 u → pw_tellLeft_9b R9 Q x1 x2 u) ∧ R9 x1 x2 u
theorem cj_w_tellLeft_9 {Q1 Q2 Q3 : iST → Prop}  {x1 : Int} {x2 : Int} {u : iST} (hQ : ∀ r0, Q1 r0 → Q2 r0 → Q3 r0) : w_tellLeft_9 Q1 x1 x2 u → pw_tellLeft_9 Q2 x1 x2 u → w_tellLeft_9 Q3 x1 x2 u := by
  intro a b R3 c3
  obtain ⟨R2, c2, b2⟩ := b
  exact a (fun r0 r1 r2 => R2 r0 r1 r2 → R3 r0 r1 r2) (fun r0 r1 r2 a b => c3 r0 r1 r2 (cj_w_tellLeft_9b (fun r0 r1 r2 a b => a b) hQ a (c2 r0 r1 r2 b))) b2
theorem pw_tellLeft_9_i  {Q : iST → Prop} {x1 : Int} {x2 : Int} {u : iST} (I : Int → Int → iST → Prop) (s : ∀ (x1 : Int) (x2 : Int) (u : iST), I x1 x2 u → pw_tellLeft_9b I Q x1 x2 u) (h : I x1 x2 u) : pw_tellLeft_9 Q x1 x2 u := ⟨I, s, h⟩
theorem mn_w_tellLeft_9 {Q1 Q2 : iST → Prop}  {x1 : Int} {x2 : Int} {u : iST} (hQ : ∀ r0, Q1 r0 → Q2 r0) : pw_tellLeft_9 Q1 x1 x2 u → pw_tellLeft_9 Q2 x1 x2 u := fun ⟨R, s, h⟩ => ⟨R, fun r0 r1 r2 a => mn_w_tellLeft_9b (fun r0 r1 r2 a => a) hQ (s r0 r1 r2 a), h⟩
theorem un_w_tellLeft_9  {Q : iST → Prop} {x1 : Int} {x2 : Int} {u : iST} : pw_tellLeft_9 Q x1 x2 u → pw_tellLeft_9b (fun x1 x2 u => pw_tellLeft_9 Q x1 x2 u) Q x1 x2 u := fun ⟨R, s, h⟩ => mn_w_tellLeft_9b (fun r0 r1 r2 a => ⟨R, s, a⟩) (fun _ h => h) (s _ _ _ h)
theorem fo_w_tellLeft_9  {Q : iST → Prop} {x1 : Int} {x2 : Int} {u : iST} : pw_tellLeft_9b (fun x1 x2 u => pw_tellLeft_9 Q x1 x2 u) Q x1 x2 u → pw_tellLeft_9 Q x1 x2 u := fun h => ⟨fun x1 x2 u => pw_tellLeft_9b (fun x1 x2 u => pw_tellLeft_9 Q x1 x2 u) Q x1 x2 u, fun r0 r1 r2 a => mn_w_tellLeft_9b (fun r0 r1 r2 a => un_w_tellLeft_9 a) (fun _ h => h) a, h⟩
theorem wp_w_tellLeft_9 {Q1 Q2 : iST → Prop}  {x1 : Int} {x2 : Int} {u : iST} (hQ : ∀ r0, Q1 r0 → Q2 r0) : w_tellLeft_9 Q1 x1 x2 u → pw_tellLeft_9 Q2 x1 x2 u := fun a => a (fun x1 x2 u => pw_tellLeft_9 Q2 x1 x2 u) (fun x1 x2 u b => fo_w_tellLeft_9 (wp_w_tellLeft_9b (fun r0 r1 r2 a => a) hQ b))
def pw_tellLeft (Q : iST → Prop) (u : iST) : Prop :=
  rd (u.1 63) (fun v1 => 
  ovp (v1 - 1) (
  pw_tellLeft_9 Q 0 (v1 - 1) u))
theorem cj_w_tellLeft {Q1 Q2 Q3 : iST → Prop}  {u : iST} (hQ : ∀ r0, Q1 r0 → Q2 r0 → Q3 r0) : w_tellLeft Q1 u → pw_tellLeft Q2 u → w_tellLeft Q3 u := (rd_cj fun _ => (ov_cj (cj_w_tellLeft_9  hQ)))
theorem mn_w_tellLeft {Q1 Q2 : iST → Prop}  {u : iST} (hQ : ∀ r0, Q1 r0 → Q2 r0) : pw_tellLeft Q1 u → pw_tellLeft Q2 u := (rd_mn fun _ => (ov_mn (mn_w_tellLeft_9  hQ)))
theorem wp_w_tellLeft {Q1 Q2 : iST → Prop}  {u : iST} (hQ : ∀ r0, Q1 r0 → Q2 r0) : w_tellLeft Q1 u → pw_tellLeft Q2 u := (rd_wp fun _ => (ov_wp (wp_w_tellLeft_9  hQ)))
def pw_pathsOf_140b (R21 : Int → iST → Prop) (R140 : Int → Int → Int → Int → Int → iST → Prop) (Q : iST → Prop) (x2 : Int) (x3 : Int) (x4 : Int) (x5 : Int) (x6 : Int) (u : iST) : Prop :=
  br (x4 ≤ x6) (
    ovp (64 * x2) (
    ovp ((64 * x2) + x4) (
    pw_notOf x5 (fun v8 u => 
    bdp ((64 * x2) + x4) 8192 (sw (iA u 128 ((64 * x2) + x4) v8) (fun u => 
    ovp (x2 + 1) (
    ovp (64 * (x2 + 1)) (
    ovp ((64 * (x2 + 1)) + x4) (
    bdp ((64 * (x2 + 1)) + x4) 8192 (sw (iA u 128 ((64 * (x2 + 1)) + x4) x5) (fun u => 
    ovp (x4 + 1) (
    bdp x2 128 (sw (iA u 129 x2 (x4 + 1)) (fun u => 
    ovp (x2 + 1) (
    ovp (x4 + 1) (
    bdp (x2 + 1) 128 (sw (iA u 129 (x2 + 1) (x4 + 1)) (fun u => 
    pw_term x3 3 (fun v15 u => 
    bdp x2 128 (sw (iA u 127 x2 v15) (fun u => 
    ovp (x2 + 1) (
    pw_term x3 2 (fun v17 u => 
    bdp (x2 + 1) 128 (sw (iA u 127 (x2 + 1) v17) (fun u => 
    ovp (x2 + 2) (
    R21 (x2 + 2) u)))) u)))) u))))))))))))))) u))) (
    ovp (x2 + 1) (
    ovp (64 * (x2 + 1)) (
    ovp ((64 * (x2 + 1)) + x6) (
    ovp (64 * x2) (
    ovp ((64 * x2) + x6) (
    bdp ((64 * x2) + x6) 8192 (rd (u.2.1 128 ((64 * x2) + x6)) (fun v24 => 
    bdp ((64 * (x2 + 1)) + x6) 8192 (sw (iA u 128 ((64 * (x2 + 1)) + x6) v24) (fun u => 
    ovp (x6 + 1) (
    R140 x2 x3 x4 x5 (x6 + 1) u)))))))))))
theorem cj_w_pathsOf_140b {Q1 Q2 Q3 : iST → Prop} {R211 R212 R213 : Int → iST → Prop} {R1401 R1402 R1403 : Int → Int → Int → Int → Int → iST → Prop} {x2 : Int} {x3 : Int} {x4 : Int} {x5 : Int} {x6 : Int} {u : iST} (hR21 : ∀ r0 r1, R211 r0 r1 → R212 r0 r1 → R213 r0 r1) (hR140 : ∀ r0 r1 r2 r3 r4 r5, R1401 r0 r1 r2 r3 r4 r5 → R1402 r0 r1 r2 r3 r4 r5 → R1403 r0 r1 r2 r3 r4 r5) (hQ : ∀ r0, Q1 r0 → Q2 r0 → Q3 r0) : w_pathsOf_140b R211 R1401 Q1 x2 x3 x4 x5 x6 u → pw_pathsOf_140b R212 R1402 Q2 x2 x3 x4 x5 x6 u → w_pathsOf_140b R213 R1403 Q3 x2 x3 x4 x5 x6 u := (br_cj (ov_cj (ov_cj (cj_w_notOf (fun _ _ => (bd_cj (sw_cj fun _ => (ov_cj (ov_cj (ov_cj (bd_cj (sw_cj fun _ => (ov_cj (bd_cj (sw_cj fun _ => (ov_cj (ov_cj (bd_cj (sw_cj fun _ => (cj_w_term (fun _ _ => (bd_cj (sw_cj fun _ => (ov_cj (cj_w_term (fun _ _ => (bd_cj (sw_cj fun _ => (ov_cj (hR21 _ _))))))))))))))))))))))))))))) (ov_cj (ov_cj (ov_cj (ov_cj (ov_cj (bd_cj (rd_cj fun _ => (bd_cj (sw_cj fun _ => (ov_cj (hR140 _ _ _ _ _ _))))))))))))
theorem mn_w_pathsOf_140b {Q1 Q2 : iST → Prop} {R211 R212 : Int → iST → Prop} {R1401 R1402 : Int → Int → Int → Int → Int → iST → Prop} {x2 : Int} {x3 : Int} {x4 : Int} {x5 : Int} {x6 : Int} {u : iST} (hR21 : ∀ r0 r1, R211 r0 r1 → R212 r0 r1) (hR140 : ∀ r0 r1 r2 r3 r4 r5, R1401 r0 r1 r2 r3 r4 r5 → R1402 r0 r1 r2 r3 r4 r5) (hQ : ∀ r0, Q1 r0 → Q2 r0) : pw_pathsOf_140b R211 R1401 Q1 x2 x3 x4 x5 x6 u → pw_pathsOf_140b R212 R1402 Q2 x2 x3 x4 x5 x6 u := (br_mn (ov_mn (ov_mn (mn_w_notOf (fun _ _ => (bd_mn (sw_mn fun _ => (ov_mn (ov_mn (ov_mn (bd_mn (sw_mn fun _ => (ov_mn (bd_mn (sw_mn fun _ => (ov_mn (ov_mn (bd_mn (sw_mn fun _ => (mn_w_term (fun _ _ => (bd_mn (sw_mn fun _ => (ov_mn (mn_w_term (fun _ _ => (bd_mn (sw_mn fun _ => (ov_mn (hR21 _ _))))))))))))))))))))))))))))) (ov_mn (ov_mn (ov_mn (ov_mn (ov_mn (bd_mn (rd_mn fun _ => (bd_mn (sw_mn fun _ => (ov_mn (hR140 _ _ _ _ _ _))))))))))))
theorem wp_w_pathsOf_140b {Q1 Q2 : iST → Prop} {R211 R212 : Int → iST → Prop} {R1401 R1402 : Int → Int → Int → Int → Int → iST → Prop} {x2 : Int} {x3 : Int} {x4 : Int} {x5 : Int} {x6 : Int} {u : iST} (hR21 : ∀ r0 r1, R211 r0 r1 → R212 r0 r1) (hR140 : ∀ r0 r1 r2 r3 r4 r5, R1401 r0 r1 r2 r3 r4 r5 → R1402 r0 r1 r2 r3 r4 r5) (hQ : ∀ r0, Q1 r0 → Q2 r0) : w_pathsOf_140b R211 R1401 Q1 x2 x3 x4 x5 x6 u → pw_pathsOf_140b R212 R1402 Q2 x2 x3 x4 x5 x6 u := (br_wp (ov_wp (ov_wp (wp_w_notOf (fun _ _ => (bd_wp (sw_wp fun _ => (ov_wp (ov_wp (ov_wp (bd_wp (sw_wp fun _ => (ov_wp (bd_wp (sw_wp fun _ => (ov_wp (ov_wp (bd_wp (sw_wp fun _ => (wp_w_term (fun _ _ => (bd_wp (sw_wp fun _ => (ov_wp (wp_w_term (fun _ _ => (bd_wp (sw_wp fun _ => (ov_wp (hR21 _ _))))))))))))))))))))))))))))) (ov_wp (ov_wp (ov_wp (ov_wp (ov_wp (bd_wp (rd_wp fun _ => (bd_wp (sw_wp fun _ => (ov_wp (hR140 _ _ _ _ _ _))))))))))))
def pw_pathsOf_140 (R21 : Int → iST → Prop) (Q : iST → Prop) (x2 : Int) (x3 : Int) (x4 : Int) (x5 : Int) (x6 : Int) (u : iST) : Prop := ∃ R140 : Int → Int → Int → Int → Int → iST → Prop, (∀ (x2 : Int) (x3 : Int) (x4 : Int) (x5 : Int) (x6 : Int) (u : iST), R140 x2 x3 x4 x5 x6 u → pw_pathsOf_140b R21 R140 Q x2 x3 x4 x5 x6 u) ∧ R140 x2 x3 x4 x5 x6 u
theorem cj_w_pathsOf_140 {Q1 Q2 Q3 : iST → Prop} {R211 R212 R213 : Int → iST → Prop} {x2 : Int} {x3 : Int} {x4 : Int} {x5 : Int} {x6 : Int} {u : iST} (hR21 : ∀ r0 r1, R211 r0 r1 → R212 r0 r1 → R213 r0 r1) (hQ : ∀ r0, Q1 r0 → Q2 r0 → Q3 r0) : w_pathsOf_140 R211 Q1 x2 x3 x4 x5 x6 u → pw_pathsOf_140 R212 Q2 x2 x3 x4 x5 x6 u → w_pathsOf_140 R213 Q3 x2 x3 x4 x5 x6 u := by
  intro a b R3 c3
  obtain ⟨R2, c2, b2⟩ := b
  exact a (fun r0 r1 r2 r3 r4 r5 => R2 r0 r1 r2 r3 r4 r5 → R3 r0 r1 r2 r3 r4 r5) (fun r0 r1 r2 r3 r4 r5 a b => c3 r0 r1 r2 r3 r4 r5 (cj_w_pathsOf_140b hR21 (fun r0 r1 r2 r3 r4 r5 a b => a b) hQ a (c2 r0 r1 r2 r3 r4 r5 b))) b2
theorem pw_pathsOf_140_i {R21 : Int → iST → Prop} {Q : iST → Prop} {x2 : Int} {x3 : Int} {x4 : Int} {x5 : Int} {x6 : Int} {u : iST} (I : Int → Int → Int → Int → Int → iST → Prop) (s : ∀ (x2 : Int) (x3 : Int) (x4 : Int) (x5 : Int) (x6 : Int) (u : iST), I x2 x3 x4 x5 x6 u → pw_pathsOf_140b R21 I Q x2 x3 x4 x5 x6 u) (h : I x2 x3 x4 x5 x6 u) : pw_pathsOf_140 R21 Q x2 x3 x4 x5 x6 u := ⟨I, s, h⟩
theorem mn_w_pathsOf_140 {Q1 Q2 : iST → Prop} {R211 R212 : Int → iST → Prop} {x2 : Int} {x3 : Int} {x4 : Int} {x5 : Int} {x6 : Int} {u : iST} (hR21 : ∀ r0 r1, R211 r0 r1 → R212 r0 r1) (hQ : ∀ r0, Q1 r0 → Q2 r0) : pw_pathsOf_140 R211 Q1 x2 x3 x4 x5 x6 u → pw_pathsOf_140 R212 Q2 x2 x3 x4 x5 x6 u := fun ⟨R, s, h⟩ => ⟨R, fun r0 r1 r2 r3 r4 r5 a => mn_w_pathsOf_140b hR21 (fun r0 r1 r2 r3 r4 r5 a => a) hQ (s r0 r1 r2 r3 r4 r5 a), h⟩
theorem un_w_pathsOf_140 {R21 : Int → iST → Prop} {Q : iST → Prop} {x2 : Int} {x3 : Int} {x4 : Int} {x5 : Int} {x6 : Int} {u : iST} : pw_pathsOf_140 R21 Q x2 x3 x4 x5 x6 u → pw_pathsOf_140b R21 (fun x2 x3 x4 x5 x6 u => pw_pathsOf_140 R21 Q x2 x3 x4 x5 x6 u) Q x2 x3 x4 x5 x6 u := fun ⟨R, s, h⟩ => mn_w_pathsOf_140b (fun _ _ h => h) (fun r0 r1 r2 r3 r4 r5 a => ⟨R, s, a⟩) (fun _ h => h) (s _ _ _ _ _ _ h)
theorem fo_w_pathsOf_140 {R21 : Int → iST → Prop} {Q : iST → Prop} {x2 : Int} {x3 : Int} {x4 : Int} {x5 : Int} {x6 : Int} {u : iST} : pw_pathsOf_140b R21 (fun x2 x3 x4 x5 x6 u => pw_pathsOf_140 R21 Q x2 x3 x4 x5 x6 u) Q x2 x3 x4 x5 x6 u → pw_pathsOf_140 R21 Q x2 x3 x4 x5 x6 u := fun h => ⟨fun x2 x3 x4 x5 x6 u => pw_pathsOf_140b R21 (fun x2 x3 x4 x5 x6 u => pw_pathsOf_140 R21 Q x2 x3 x4 x5 x6 u) Q x2 x3 x4 x5 x6 u, fun r0 r1 r2 r3 r4 r5 a => mn_w_pathsOf_140b (fun _ _ h => h) (fun r0 r1 r2 r3 r4 r5 a => un_w_pathsOf_140 a) (fun _ h => h) a, h⟩
theorem wp_w_pathsOf_140 {Q1 Q2 : iST → Prop} {R211 R212 : Int → iST → Prop} {x2 : Int} {x3 : Int} {x4 : Int} {x5 : Int} {x6 : Int} {u : iST} (hR21 : ∀ r0 r1, R211 r0 r1 → R212 r0 r1) (hQ : ∀ r0, Q1 r0 → Q2 r0) : w_pathsOf_140 R211 Q1 x2 x3 x4 x5 x6 u → pw_pathsOf_140 R212 Q2 x2 x3 x4 x5 x6 u := fun a => a (fun x2 x3 x4 x5 x6 u => pw_pathsOf_140 R212 Q2 x2 x3 x4 x5 x6 u) (fun x2 x3 x4 x5 x6 u b => fo_w_pathsOf_140 (wp_w_pathsOf_140b hR21 (fun r0 r1 r2 r3 r4 r5 a => a) hQ b))
def pw_pathsOf_76b (R21 : Int → iST → Prop) (R76 : Int → Int → Int → iST → Prop) (Q : iST → Prop) (x2 : Int) (x4 : Int) (x5 : Int) (u : iST) : Prop :=
  br (x4 ≤ x5) (
    rd (u.1 126) (fun v28 => 
    ovp (v28 + 1) (
    sw (iI u 126 (v28 + 1)) (fun u => 
    R21 x2 u)))) (
    rd (u.1 126) (fun v30 => 
    ovp (64 * v30) (
    ovp ((64 * v30) + x5) (
    ovp (64 * x2) (
    ovp ((64 * x2) + x5) (
    bdp ((64 * x2) + x5) 8192 (rd (u.2.1 128 ((64 * x2) + x5)) (fun v35 => 
    bdp ((64 * v30) + x5) 8192 (sw (iA u 124 ((64 * v30) + x5) v35) (fun u => 
    ovp (x5 + 1) (
    R76 x2 x4 (x5 + 1) u)))))))))))
theorem cj_w_pathsOf_76b {Q1 Q2 Q3 : iST → Prop} {R211 R212 R213 : Int → iST → Prop} {R761 R762 R763 : Int → Int → Int → iST → Prop} {x2 : Int} {x4 : Int} {x5 : Int} {u : iST} (hR21 : ∀ r0 r1, R211 r0 r1 → R212 r0 r1 → R213 r0 r1) (hR76 : ∀ r0 r1 r2 r3, R761 r0 r1 r2 r3 → R762 r0 r1 r2 r3 → R763 r0 r1 r2 r3) (hQ : ∀ r0, Q1 r0 → Q2 r0 → Q3 r0) : w_pathsOf_76b R211 R761 Q1 x2 x4 x5 u → pw_pathsOf_76b R212 R762 Q2 x2 x4 x5 u → w_pathsOf_76b R213 R763 Q3 x2 x4 x5 u := (br_cj (rd_cj fun _ => (ov_cj (sw_cj fun _ => (hR21 _ _)))) (rd_cj fun _ => (ov_cj (ov_cj (ov_cj (ov_cj (bd_cj (rd_cj fun _ => (bd_cj (sw_cj fun _ => (ov_cj (hR76 _ _ _ _))))))))))))
theorem mn_w_pathsOf_76b {Q1 Q2 : iST → Prop} {R211 R212 : Int → iST → Prop} {R761 R762 : Int → Int → Int → iST → Prop} {x2 : Int} {x4 : Int} {x5 : Int} {u : iST} (hR21 : ∀ r0 r1, R211 r0 r1 → R212 r0 r1) (hR76 : ∀ r0 r1 r2 r3, R761 r0 r1 r2 r3 → R762 r0 r1 r2 r3) (hQ : ∀ r0, Q1 r0 → Q2 r0) : pw_pathsOf_76b R211 R761 Q1 x2 x4 x5 u → pw_pathsOf_76b R212 R762 Q2 x2 x4 x5 u := (br_mn (rd_mn fun _ => (ov_mn (sw_mn fun _ => (hR21 _ _)))) (rd_mn fun _ => (ov_mn (ov_mn (ov_mn (ov_mn (bd_mn (rd_mn fun _ => (bd_mn (sw_mn fun _ => (ov_mn (hR76 _ _ _ _))))))))))))
theorem wp_w_pathsOf_76b {Q1 Q2 : iST → Prop} {R211 R212 : Int → iST → Prop} {R761 R762 : Int → Int → Int → iST → Prop} {x2 : Int} {x4 : Int} {x5 : Int} {u : iST} (hR21 : ∀ r0 r1, R211 r0 r1 → R212 r0 r1) (hR76 : ∀ r0 r1 r2 r3, R761 r0 r1 r2 r3 → R762 r0 r1 r2 r3) (hQ : ∀ r0, Q1 r0 → Q2 r0) : w_pathsOf_76b R211 R761 Q1 x2 x4 x5 u → pw_pathsOf_76b R212 R762 Q2 x2 x4 x5 u := (br_wp (rd_wp fun _ => (ov_wp (sw_wp fun _ => (hR21 _ _)))) (rd_wp fun _ => (ov_wp (ov_wp (ov_wp (ov_wp (bd_wp (rd_wp fun _ => (bd_wp (sw_wp fun _ => (ov_wp (hR76 _ _ _ _))))))))))))
def pw_pathsOf_76 (R21 : Int → iST → Prop) (Q : iST → Prop) (x2 : Int) (x4 : Int) (x5 : Int) (u : iST) : Prop := ∃ R76 : Int → Int → Int → iST → Prop, (∀ (x2 : Int) (x4 : Int) (x5 : Int) (u : iST), R76 x2 x4 x5 u → pw_pathsOf_76b R21 R76 Q x2 x4 x5 u) ∧ R76 x2 x4 x5 u
theorem cj_w_pathsOf_76 {Q1 Q2 Q3 : iST → Prop} {R211 R212 R213 : Int → iST → Prop} {x2 : Int} {x4 : Int} {x5 : Int} {u : iST} (hR21 : ∀ r0 r1, R211 r0 r1 → R212 r0 r1 → R213 r0 r1) (hQ : ∀ r0, Q1 r0 → Q2 r0 → Q3 r0) : w_pathsOf_76 R211 Q1 x2 x4 x5 u → pw_pathsOf_76 R212 Q2 x2 x4 x5 u → w_pathsOf_76 R213 Q3 x2 x4 x5 u := by
  intro a b R3 c3
  obtain ⟨R2, c2, b2⟩ := b
  exact a (fun r0 r1 r2 r3 => R2 r0 r1 r2 r3 → R3 r0 r1 r2 r3) (fun r0 r1 r2 r3 a b => c3 r0 r1 r2 r3 (cj_w_pathsOf_76b hR21 (fun r0 r1 r2 r3 a b => a b) hQ a (c2 r0 r1 r2 r3 b))) b2
theorem pw_pathsOf_76_i {R21 : Int → iST → Prop} {Q : iST → Prop} {x2 : Int} {x4 : Int} {x5 : Int} {u : iST} (I : Int → Int → Int → iST → Prop) (s : ∀ (x2 : Int) (x4 : Int) (x5 : Int) (u : iST), I x2 x4 x5 u → pw_pathsOf_76b R21 I Q x2 x4 x5 u) (h : I x2 x4 x5 u) : pw_pathsOf_76 R21 Q x2 x4 x5 u := ⟨I, s, h⟩
theorem mn_w_pathsOf_76 {Q1 Q2 : iST → Prop} {R211 R212 : Int → iST → Prop} {x2 : Int} {x4 : Int} {x5 : Int} {u : iST} (hR21 : ∀ r0 r1, R211 r0 r1 → R212 r0 r1) (hQ : ∀ r0, Q1 r0 → Q2 r0) : pw_pathsOf_76 R211 Q1 x2 x4 x5 u → pw_pathsOf_76 R212 Q2 x2 x4 x5 u := fun ⟨R, s, h⟩ => ⟨R, fun r0 r1 r2 r3 a => mn_w_pathsOf_76b hR21 (fun r0 r1 r2 r3 a => a) hQ (s r0 r1 r2 r3 a), h⟩
theorem un_w_pathsOf_76 {R21 : Int → iST → Prop} {Q : iST → Prop} {x2 : Int} {x4 : Int} {x5 : Int} {u : iST} : pw_pathsOf_76 R21 Q x2 x4 x5 u → pw_pathsOf_76b R21 (fun x2 x4 x5 u => pw_pathsOf_76 R21 Q x2 x4 x5 u) Q x2 x4 x5 u := fun ⟨R, s, h⟩ => mn_w_pathsOf_76b (fun _ _ h => h) (fun r0 r1 r2 r3 a => ⟨R, s, a⟩) (fun _ h => h) (s _ _ _ _ h)
theorem fo_w_pathsOf_76 {R21 : Int → iST → Prop} {Q : iST → Prop} {x2 : Int} {x4 : Int} {x5 : Int} {u : iST} : pw_pathsOf_76b R21 (fun x2 x4 x5 u => pw_pathsOf_76 R21 Q x2 x4 x5 u) Q x2 x4 x5 u → pw_pathsOf_76 R21 Q x2 x4 x5 u := fun h => ⟨fun x2 x4 x5 u => pw_pathsOf_76b R21 (fun x2 x4 x5 u => pw_pathsOf_76 R21 Q x2 x4 x5 u) Q x2 x4 x5 u, fun r0 r1 r2 r3 a => mn_w_pathsOf_76b (fun _ _ h => h) (fun r0 r1 r2 r3 a => un_w_pathsOf_76 a) (fun _ h => h) a, h⟩
theorem wp_w_pathsOf_76 {Q1 Q2 : iST → Prop} {R211 R212 : Int → iST → Prop} {x2 : Int} {x4 : Int} {x5 : Int} {u : iST} (hR21 : ∀ r0 r1, R211 r0 r1 → R212 r0 r1) (hQ : ∀ r0, Q1 r0 → Q2 r0) : w_pathsOf_76 R211 Q1 x2 x4 x5 u → pw_pathsOf_76 R212 Q2 x2 x4 x5 u := fun a => a (fun x2 x4 x5 u => pw_pathsOf_76 R212 Q2 x2 x4 x5 u) (fun x2 x4 x5 u b => fo_w_pathsOf_76 (wp_w_pathsOf_76b hR21 (fun r0 r1 r2 r3 a => a) hQ b))
def pw_pathsOf_21b (R21 : Int → iST → Prop) (Q : iST → Prop) (x2 : Int) (u : iST) : Prop :=
  br (x2 ≤ 0) (
    Q u) (
    ovp (x2 + (-1)) (
    bdp (x2 + (-1)) 128 (rd (u.2.1 127 (x2 + (-1))) (fun v2 => 
    bdp (x2 + (-1)) 128 (rd (u.2.1 129 (x2 + (-1))) (fun v3 => 
    pw_isCallOf v2 3 (fun v4 u => 
    br (v4 ≠ 0) (
      pw_term v2 1 (fun v5 u => 
      pw_pathsOf_140 R21 Q (x2 + (-1)) v2 v3 v5 0 u) u) (
      rd (u.1 126) (fun v26 => 
      bdp v26 128 (sw (iA u 123 v26 v2) (fun u => 
      rd (u.1 126) (fun v27 => 
      bdp v27 128 (sw (iA u 125 v27 v3) (fun u => 
      pw_pathsOf_76 R21 Q (x2 + (-1)) v3 0 u)))))))) u))))))
theorem cj_w_pathsOf_21b {Q1 Q2 Q3 : iST → Prop} {R211 R212 R213 : Int → iST → Prop} {x2 : Int} {u : iST} (hR21 : ∀ r0 r1, R211 r0 r1 → R212 r0 r1 → R213 r0 r1) (hQ : ∀ r0, Q1 r0 → Q2 r0 → Q3 r0) : w_pathsOf_21b R211 Q1 x2 u → pw_pathsOf_21b R212 Q2 x2 u → w_pathsOf_21b R213 Q3 x2 u := (br_cj (hQ _) (ov_cj (bd_cj (rd_cj fun _ => (bd_cj (rd_cj fun _ => (cj_w_isCallOf (fun _ _ => (br_cj (cj_w_term (fun _ _ => (cj_w_pathsOf_140 hR21 hQ))) (rd_cj fun _ => (bd_cj (sw_cj fun _ => (rd_cj fun _ => (bd_cj (sw_cj fun _ => (cj_w_pathsOf_76 hR21 hQ))))))))))))))))
theorem mn_w_pathsOf_21b {Q1 Q2 : iST → Prop} {R211 R212 : Int → iST → Prop} {x2 : Int} {u : iST} (hR21 : ∀ r0 r1, R211 r0 r1 → R212 r0 r1) (hQ : ∀ r0, Q1 r0 → Q2 r0) : pw_pathsOf_21b R211 Q1 x2 u → pw_pathsOf_21b R212 Q2 x2 u := (br_mn (hQ _) (ov_mn (bd_mn (rd_mn fun _ => (bd_mn (rd_mn fun _ => (mn_w_isCallOf (fun _ _ => (br_mn (mn_w_term (fun _ _ => (mn_w_pathsOf_140 hR21 hQ))) (rd_mn fun _ => (bd_mn (sw_mn fun _ => (rd_mn fun _ => (bd_mn (sw_mn fun _ => (mn_w_pathsOf_76 hR21 hQ))))))))))))))))
theorem wp_w_pathsOf_21b {Q1 Q2 : iST → Prop} {R211 R212 : Int → iST → Prop} {x2 : Int} {u : iST} (hR21 : ∀ r0 r1, R211 r0 r1 → R212 r0 r1) (hQ : ∀ r0, Q1 r0 → Q2 r0) : w_pathsOf_21b R211 Q1 x2 u → pw_pathsOf_21b R212 Q2 x2 u := (br_wp (hQ _) (ov_wp (bd_wp (rd_wp fun _ => (bd_wp (rd_wp fun _ => (wp_w_isCallOf (fun _ _ => (br_wp (wp_w_term (fun _ _ => (wp_w_pathsOf_140 hR21 hQ))) (rd_wp fun _ => (bd_wp (sw_wp fun _ => (rd_wp fun _ => (bd_wp (sw_wp fun _ => (wp_w_pathsOf_76 hR21 hQ))))))))))))))))
def pw_pathsOf_21 (Q : iST → Prop) (x2 : Int) (u : iST) : Prop := ∃ R21 : Int → iST → Prop, (∀ (x2 : Int) (u : iST), R21 x2 u → pw_pathsOf_21b R21 Q x2 u) ∧ R21 x2 u
theorem cj_w_pathsOf_21 {Q1 Q2 Q3 : iST → Prop}  {x2 : Int} {u : iST} (hQ : ∀ r0, Q1 r0 → Q2 r0 → Q3 r0) : w_pathsOf_21 Q1 x2 u → pw_pathsOf_21 Q2 x2 u → w_pathsOf_21 Q3 x2 u := by
  intro a b R3 c3
  obtain ⟨R2, c2, b2⟩ := b
  exact a (fun r0 r1 => R2 r0 r1 → R3 r0 r1) (fun r0 r1 a b => c3 r0 r1 (cj_w_pathsOf_21b (fun r0 r1 a b => a b) hQ a (c2 r0 r1 b))) b2
theorem pw_pathsOf_21_i  {Q : iST → Prop} {x2 : Int} {u : iST} (I : Int → iST → Prop) (s : ∀ (x2 : Int) (u : iST), I x2 u → pw_pathsOf_21b I Q x2 u) (h : I x2 u) : pw_pathsOf_21 Q x2 u := ⟨I, s, h⟩
theorem mn_w_pathsOf_21 {Q1 Q2 : iST → Prop}  {x2 : Int} {u : iST} (hQ : ∀ r0, Q1 r0 → Q2 r0) : pw_pathsOf_21 Q1 x2 u → pw_pathsOf_21 Q2 x2 u := fun ⟨R, s, h⟩ => ⟨R, fun r0 r1 a => mn_w_pathsOf_21b (fun r0 r1 a => a) hQ (s r0 r1 a), h⟩
theorem un_w_pathsOf_21  {Q : iST → Prop} {x2 : Int} {u : iST} : pw_pathsOf_21 Q x2 u → pw_pathsOf_21b (fun x2 u => pw_pathsOf_21 Q x2 u) Q x2 u := fun ⟨R, s, h⟩ => mn_w_pathsOf_21b (fun r0 r1 a => ⟨R, s, a⟩) (fun _ h => h) (s _ _ h)
theorem fo_w_pathsOf_21  {Q : iST → Prop} {x2 : Int} {u : iST} : pw_pathsOf_21b (fun x2 u => pw_pathsOf_21 Q x2 u) Q x2 u → pw_pathsOf_21 Q x2 u := fun h => ⟨fun x2 u => pw_pathsOf_21b (fun x2 u => pw_pathsOf_21 Q x2 u) Q x2 u, fun r0 r1 a => mn_w_pathsOf_21b (fun r0 r1 a => un_w_pathsOf_21 a) (fun _ h => h) a, h⟩
theorem wp_w_pathsOf_21 {Q1 Q2 : iST → Prop}  {x2 : Int} {u : iST} (hQ : ∀ r0, Q1 r0 → Q2 r0) : w_pathsOf_21 Q1 x2 u → pw_pathsOf_21 Q2 x2 u := fun a => a (fun x2 u => pw_pathsOf_21 Q2 x2 u) (fun x2 u b => fo_w_pathsOf_21 (wp_w_pathsOf_21b (fun r0 r1 a => a) hQ b))
def pw_pathsOf (a0 : Int) (Q : iST → Prop) (u : iST) : Prop :=
  sw (iI u 126 0) (fun u => 
  bdp 0 128 (sw (iA u 127 0 a0) (fun u => 
  bdp 0 128 (sw (iA u 129 0 0) (fun u => 
  pw_pathsOf_21 Q 1 u)))))
theorem cj_w_pathsOf {Q1 Q2 Q3 : iST → Prop}  {a0 : Int} {u : iST} (hQ : ∀ r0, Q1 r0 → Q2 r0 → Q3 r0) : w_pathsOf a0 Q1 u → pw_pathsOf a0 Q2 u → w_pathsOf a0 Q3 u := (sw_cj fun _ => (bd_cj (sw_cj fun _ => (bd_cj (sw_cj fun _ => (cj_w_pathsOf_21  hQ))))))
theorem mn_w_pathsOf {Q1 Q2 : iST → Prop}  {a0 : Int} {u : iST} (hQ : ∀ r0, Q1 r0 → Q2 r0) : pw_pathsOf a0 Q1 u → pw_pathsOf a0 Q2 u := (sw_mn fun _ => (bd_mn (sw_mn fun _ => (bd_mn (sw_mn fun _ => (mn_w_pathsOf_21  hQ))))))
theorem wp_w_pathsOf {Q1 Q2 : iST → Prop}  {a0 : Int} {u : iST} (hQ : ∀ r0, Q1 r0 → Q2 r0) : w_pathsOf a0 Q1 u → pw_pathsOf a0 Q2 u := (sw_wp fun _ => (bd_wp (sw_wp fun _ => (bd_wp (sw_wp fun _ => (wp_w_pathsOf_21  hQ))))))
def pw_find_15b (R15 : Int → iST → Prop) (Q : iST → Prop) (x2 : Int) (u : iST) : Prop :=
  rd (u.1 76) (fun v2 => 
  br (v2 ≤ 0) (
    Q u) (
    pw_walkOn (fun v3 u => 
    pw_isCallOf v3 x2 (fun v4 u => 
    br (v4 ≠ 0) (
      rd (u.1 131) (fun v5 => 
      bdp v5 130 (sw (iA u 130 v5 v3) (fun u => 
      rd (u.1 131) (fun v6 => 
      ovp (v6 + 1) (
      sw (iI u 131 (v6 + 1)) (fun u => 
      R15 x2 u))))))) (
      R15 x2 u)) u) u))
theorem cj_w_find_15b {Q1 Q2 Q3 : iST → Prop} {R151 R152 R153 : Int → iST → Prop} {x2 : Int} {u : iST} (hR15 : ∀ r0 r1, R151 r0 r1 → R152 r0 r1 → R153 r0 r1) (hQ : ∀ r0, Q1 r0 → Q2 r0 → Q3 r0) : w_find_15b R151 Q1 x2 u → pw_find_15b R152 Q2 x2 u → w_find_15b R153 Q3 x2 u := (rd_cj fun _ => (br_cj (hQ _) (cj_w_walkOn (fun _ _ => (cj_w_isCallOf (fun _ _ => (br_cj (rd_cj fun _ => (bd_cj (sw_cj fun _ => (rd_cj fun _ => (ov_cj (sw_cj fun _ => (hR15 _ _))))))) (hR15 _ _))))))))
theorem mn_w_find_15b {Q1 Q2 : iST → Prop} {R151 R152 : Int → iST → Prop} {x2 : Int} {u : iST} (hR15 : ∀ r0 r1, R151 r0 r1 → R152 r0 r1) (hQ : ∀ r0, Q1 r0 → Q2 r0) : pw_find_15b R151 Q1 x2 u → pw_find_15b R152 Q2 x2 u := (rd_mn fun _ => (br_mn (hQ _) (mn_w_walkOn (fun _ _ => (mn_w_isCallOf (fun _ _ => (br_mn (rd_mn fun _ => (bd_mn (sw_mn fun _ => (rd_mn fun _ => (ov_mn (sw_mn fun _ => (hR15 _ _))))))) (hR15 _ _))))))))
theorem wp_w_find_15b {Q1 Q2 : iST → Prop} {R151 R152 : Int → iST → Prop} {x2 : Int} {u : iST} (hR15 : ∀ r0 r1, R151 r0 r1 → R152 r0 r1) (hQ : ∀ r0, Q1 r0 → Q2 r0) : w_find_15b R151 Q1 x2 u → pw_find_15b R152 Q2 x2 u := (rd_wp fun _ => (br_wp (hQ _) (wp_w_walkOn (fun _ _ => (wp_w_isCallOf (fun _ _ => (br_wp (rd_wp fun _ => (bd_wp (sw_wp fun _ => (rd_wp fun _ => (ov_wp (sw_wp fun _ => (hR15 _ _))))))) (hR15 _ _))))))))
def pw_find_15 (Q : iST → Prop) (x2 : Int) (u : iST) : Prop := ∃ R15 : Int → iST → Prop, (∀ (x2 : Int) (u : iST), R15 x2 u → pw_find_15b R15 Q x2 u) ∧ R15 x2 u
theorem cj_w_find_15 {Q1 Q2 Q3 : iST → Prop}  {x2 : Int} {u : iST} (hQ : ∀ r0, Q1 r0 → Q2 r0 → Q3 r0) : w_find_15 Q1 x2 u → pw_find_15 Q2 x2 u → w_find_15 Q3 x2 u := by
  intro a b R3 c3
  obtain ⟨R2, c2, b2⟩ := b
  exact a (fun r0 r1 => R2 r0 r1 → R3 r0 r1) (fun r0 r1 a b => c3 r0 r1 (cj_w_find_15b (fun r0 r1 a b => a b) hQ a (c2 r0 r1 b))) b2
theorem pw_find_15_i  {Q : iST → Prop} {x2 : Int} {u : iST} (I : Int → iST → Prop) (s : ∀ (x2 : Int) (u : iST), I x2 u → pw_find_15b I Q x2 u) (h : I x2 u) : pw_find_15 Q x2 u := ⟨I, s, h⟩
theorem mn_w_find_15 {Q1 Q2 : iST → Prop}  {x2 : Int} {u : iST} (hQ : ∀ r0, Q1 r0 → Q2 r0) : pw_find_15 Q1 x2 u → pw_find_15 Q2 x2 u := fun ⟨R, s, h⟩ => ⟨R, fun r0 r1 a => mn_w_find_15b (fun r0 r1 a => a) hQ (s r0 r1 a), h⟩
theorem un_w_find_15  {Q : iST → Prop} {x2 : Int} {u : iST} : pw_find_15 Q x2 u → pw_find_15b (fun x2 u => pw_find_15 Q x2 u) Q x2 u := fun ⟨R, s, h⟩ => mn_w_find_15b (fun r0 r1 a => ⟨R, s, a⟩) (fun _ h => h) (s _ _ h)
theorem fo_w_find_15  {Q : iST → Prop} {x2 : Int} {u : iST} : pw_find_15b (fun x2 u => pw_find_15 Q x2 u) Q x2 u → pw_find_15 Q x2 u := fun h => ⟨fun x2 u => pw_find_15b (fun x2 u => pw_find_15 Q x2 u) Q x2 u, fun r0 r1 a => mn_w_find_15b (fun r0 r1 a => un_w_find_15 a) (fun _ h => h) a, h⟩
theorem wp_w_find_15 {Q1 Q2 : iST → Prop}  {x2 : Int} {u : iST} (hQ : ∀ r0, Q1 r0 → Q2 r0) : w_find_15 Q1 x2 u → pw_find_15 Q2 x2 u := fun a => a (fun x2 u => pw_find_15 Q2 x2 u) (fun x2 u b => fo_w_find_15 (wp_w_find_15b (fun r0 r1 a => a) hQ b))
def pw_find (a0 : Int) (a1 : Int) (Q : iST → Prop) (u : iST) : Prop :=
  sw (iI u 131 0) (fun u => 
  sw (iI u 76 0) (fun u => 
  pw_walkTo a0 (fun u => 
  pw_find_15 Q a1 u) u))
theorem cj_w_find {Q1 Q2 Q3 : iST → Prop}  {a0 : Int} {a1 : Int} {u : iST} (hQ : ∀ r0, Q1 r0 → Q2 r0 → Q3 r0) : w_find a0 a1 Q1 u → pw_find a0 a1 Q2 u → w_find a0 a1 Q3 u := (sw_cj fun _ => (sw_cj fun _ => (cj_w_walkTo (fun _ => (cj_w_find_15  hQ)))))
theorem mn_w_find {Q1 Q2 : iST → Prop}  {a0 : Int} {a1 : Int} {u : iST} (hQ : ∀ r0, Q1 r0 → Q2 r0) : pw_find a0 a1 Q1 u → pw_find a0 a1 Q2 u := (sw_mn fun _ => (sw_mn fun _ => (mn_w_walkTo (fun _ => (mn_w_find_15  hQ)))))
theorem wp_w_find {Q1 Q2 : iST → Prop}  {a0 : Int} {a1 : Int} {u : iST} (hQ : ∀ r0, Q1 r0 → Q2 r0) : w_find a0 a1 Q1 u → pw_find a0 a1 Q2 u := (sw_wp fun _ => (sw_wp fun _ => (wp_w_walkTo (fun _ => (wp_w_find_15  hQ)))))
def pw_isNewName (a0 : Int) (Q : Int → iST → Prop) (u : iST) : Prop :=
  pw_isSymbol a0 (fun v1 u => 
  br (v1 = 0) (
    ztp 0 (Q 0 u)) (
    pw_isReserved a0 (fun v2 u => 
    br (v2 ≠ 0) (
      ztp 0 (Q 0 u)) (
      ztp 1 (Q 1 u))) u)) u
theorem cj_w_isNewName {Q1 Q2 Q3 : Int → iST → Prop}  {a0 : Int} {u : iST} (hQ : ∀ r0 r1, Q1 r0 r1 → Q2 r0 r1 → Q3 r0 r1) : w_isNewName a0 Q1 u → pw_isNewName a0 Q2 u → w_isNewName a0 Q3 u := (cj_w_isSymbol (fun _ _ => (br_cj (zt_cj (hQ _ _)) (cj_w_isReserved (fun _ _ => (br_cj (zt_cj (hQ _ _)) (zt_cj (hQ _ _))))))))
theorem mn_w_isNewName {Q1 Q2 : Int → iST → Prop}  {a0 : Int} {u : iST} (hQ : ∀ r0 r1, Q1 r0 r1 → Q2 r0 r1) : pw_isNewName a0 Q1 u → pw_isNewName a0 Q2 u := (mn_w_isSymbol (fun _ _ => (br_mn (zt_mn (hQ _ _)) (mn_w_isReserved (fun _ _ => (br_mn (zt_mn (hQ _ _)) (zt_mn (hQ _ _))))))))
theorem wp_w_isNewName {Q1 Q2 : Int → iST → Prop}  {a0 : Int} {u : iST} (hQ : ∀ r0 r1, Q1 r0 r1 → Q2 r0 r1) : w_isNewName a0 Q1 u → pw_isNewName a0 Q2 u := (wp_w_isSymbol (fun _ _ => (br_wp (zt_wp (hQ _ _)) (wp_w_isReserved (fun _ _ => (br_wp (zt_wp (hQ _ _)) (zt_wp (hQ _ _))))))))
def pw_definition_2b (R2 : Int → Int → iST → Prop) (Q : Int → iST → Prop) (x1 : Int) (x2 : Int) (u : iST) : Prop :=
  rd (u.1 35) (fun v1 => 
  br (v1 ≤ x2) (
    Q (-1) u) (
    bdp x2 40 (rd (u.2.1 36 x2) (fun v2 => 
    br (v2 ≠ x1) (
      ovp (x2 + 1) (
      R2 x1 (x2 + 1) u)) (
      Q x2 u)))))
theorem cj_w_definition_2b {Q1 Q2 Q3 : Int → iST → Prop} {R21 R22 R23 : Int → Int → iST → Prop} {x1 : Int} {x2 : Int} {u : iST} (hR2 : ∀ r0 r1 r2, R21 r0 r1 r2 → R22 r0 r1 r2 → R23 r0 r1 r2) (hQ : ∀ r0 r1, Q1 r0 r1 → Q2 r0 r1 → Q3 r0 r1) : w_definition_2b R21 Q1 x1 x2 u → pw_definition_2b R22 Q2 x1 x2 u → w_definition_2b R23 Q3 x1 x2 u := (rd_cj fun _ => (br_cj (hQ _ _) (bd_cj (rd_cj fun _ => (br_cj (ov_cj (hR2 _ _ _)) (hQ _ _))))))
theorem mn_w_definition_2b {Q1 Q2 : Int → iST → Prop} {R21 R22 : Int → Int → iST → Prop} {x1 : Int} {x2 : Int} {u : iST} (hR2 : ∀ r0 r1 r2, R21 r0 r1 r2 → R22 r0 r1 r2) (hQ : ∀ r0 r1, Q1 r0 r1 → Q2 r0 r1) : pw_definition_2b R21 Q1 x1 x2 u → pw_definition_2b R22 Q2 x1 x2 u := (rd_mn fun _ => (br_mn (hQ _ _) (bd_mn (rd_mn fun _ => (br_mn (ov_mn (hR2 _ _ _)) (hQ _ _))))))
theorem wp_w_definition_2b {Q1 Q2 : Int → iST → Prop} {R21 R22 : Int → Int → iST → Prop} {x1 : Int} {x2 : Int} {u : iST} (hR2 : ∀ r0 r1 r2, R21 r0 r1 r2 → R22 r0 r1 r2) (hQ : ∀ r0 r1, Q1 r0 r1 → Q2 r0 r1) : w_definition_2b R21 Q1 x1 x2 u → pw_definition_2b R22 Q2 x1 x2 u := (rd_wp fun _ => (br_wp (hQ _ _) (bd_wp (rd_wp fun _ => (br_wp (ov_wp (hR2 _ _ _)) (hQ _ _))))))
def pw_definition_2 (Q : Int → iST → Prop) (x1 : Int) (x2 : Int) (u : iST) : Prop := ∃ R2 : Int → Int → iST → Prop, (∀ (x1 : Int) (x2 : Int) (u : iST), R2 x1 x2 u → pw_definition_2b R2 Q x1 x2 u) ∧ R2 x1 x2 u
theorem cj_w_definition_2 {Q1 Q2 Q3 : Int → iST → Prop}  {x1 : Int} {x2 : Int} {u : iST} (hQ : ∀ r0 r1, Q1 r0 r1 → Q2 r0 r1 → Q3 r0 r1) : w_definition_2 Q1 x1 x2 u → pw_definition_2 Q2 x1 x2 u → w_definition_2 Q3 x1 x2 u := by
  intro a b R3 c3
  obtain ⟨R2, c2, b2⟩ := b
  exact a (fun r0 r1 r2 => R2 r0 r1 r2 → R3 r0 r1 r2) (fun r0 r1 r2 a b => c3 r0 r1 r2 (cj_w_definition_2b (fun r0 r1 r2 a b => a b) hQ a (c2 r0 r1 r2 b))) b2
theorem pw_definition_2_i  {Q : Int → iST → Prop} {x1 : Int} {x2 : Int} {u : iST} (I : Int → Int → iST → Prop) (s : ∀ (x1 : Int) (x2 : Int) (u : iST), I x1 x2 u → pw_definition_2b I Q x1 x2 u) (h : I x1 x2 u) : pw_definition_2 Q x1 x2 u := ⟨I, s, h⟩
theorem mn_w_definition_2 {Q1 Q2 : Int → iST → Prop}  {x1 : Int} {x2 : Int} {u : iST} (hQ : ∀ r0 r1, Q1 r0 r1 → Q2 r0 r1) : pw_definition_2 Q1 x1 x2 u → pw_definition_2 Q2 x1 x2 u := fun ⟨R, s, h⟩ => ⟨R, fun r0 r1 r2 a => mn_w_definition_2b (fun r0 r1 r2 a => a) hQ (s r0 r1 r2 a), h⟩
theorem un_w_definition_2  {Q : Int → iST → Prop} {x1 : Int} {x2 : Int} {u : iST} : pw_definition_2 Q x1 x2 u → pw_definition_2b (fun x1 x2 u => pw_definition_2 Q x1 x2 u) Q x1 x2 u := fun ⟨R, s, h⟩ => mn_w_definition_2b (fun r0 r1 r2 a => ⟨R, s, a⟩) (fun _ _ h => h) (s _ _ _ h)
theorem fo_w_definition_2  {Q : Int → iST → Prop} {x1 : Int} {x2 : Int} {u : iST} : pw_definition_2b (fun x1 x2 u => pw_definition_2 Q x1 x2 u) Q x1 x2 u → pw_definition_2 Q x1 x2 u := fun h => ⟨fun x1 x2 u => pw_definition_2b (fun x1 x2 u => pw_definition_2 Q x1 x2 u) Q x1 x2 u, fun r0 r1 r2 a => mn_w_definition_2b (fun r0 r1 r2 a => un_w_definition_2 a) (fun _ _ h => h) a, h⟩
theorem wp_w_definition_2 {Q1 Q2 : Int → iST → Prop}  {x1 : Int} {x2 : Int} {u : iST} (hQ : ∀ r0 r1, Q1 r0 r1 → Q2 r0 r1) : w_definition_2 Q1 x1 x2 u → pw_definition_2 Q2 x1 x2 u := fun a => a (fun x1 x2 u => pw_definition_2 Q2 x1 x2 u) (fun x1 x2 u b => fo_w_definition_2 (wp_w_definition_2b (fun r0 r1 r2 a => a) hQ b))
def pw_definition (a0 : Int) (Q : Int → iST → Prop) (u : iST) : Prop :=
  pw_definition_2 Q a0 0 u
theorem cj_w_definition {Q1 Q2 Q3 : Int → iST → Prop}  {a0 : Int} {u : iST} (hQ : ∀ r0 r1, Q1 r0 r1 → Q2 r0 r1 → Q3 r0 r1) : w_definition a0 Q1 u → pw_definition a0 Q2 u → w_definition a0 Q3 u := (cj_w_definition_2  hQ)
theorem mn_w_definition {Q1 Q2 : Int → iST → Prop}  {a0 : Int} {u : iST} (hQ : ∀ r0 r1, Q1 r0 r1 → Q2 r0 r1) : pw_definition a0 Q1 u → pw_definition a0 Q2 u := (mn_w_definition_2  hQ)
theorem wp_w_definition {Q1 Q2 : Int → iST → Prop}  {a0 : Int} {u : iST} (hQ : ∀ r0 r1, Q1 r0 r1 → Q2 r0 r1) : w_definition a0 Q1 u → pw_definition a0 Q2 u := (wp_w_definition_2  hQ)
def pw_theoremOf_2b (R2 : Int → Int → iST → Prop) (Q : Int → iST → Prop) (x1 : Int) (x2 : Int) (u : iST) : Prop :=
  rd (u.1 42) (fun v1 => 
  br (v1 ≤ x2) (
    Q (-1) u) (
    bdp x2 60 (rd (u.2.1 43 x2) (fun v2 => 
    br (v2 ≠ x1) (
      ovp (x2 + 1) (
      R2 x1 (x2 + 1) u)) (
      Q x2 u)))))
theorem cj_w_theoremOf_2b {Q1 Q2 Q3 : Int → iST → Prop} {R21 R22 R23 : Int → Int → iST → Prop} {x1 : Int} {x2 : Int} {u : iST} (hR2 : ∀ r0 r1 r2, R21 r0 r1 r2 → R22 r0 r1 r2 → R23 r0 r1 r2) (hQ : ∀ r0 r1, Q1 r0 r1 → Q2 r0 r1 → Q3 r0 r1) : w_theoremOf_2b R21 Q1 x1 x2 u → pw_theoremOf_2b R22 Q2 x1 x2 u → w_theoremOf_2b R23 Q3 x1 x2 u := (rd_cj fun _ => (br_cj (hQ _ _) (bd_cj (rd_cj fun _ => (br_cj (ov_cj (hR2 _ _ _)) (hQ _ _))))))
theorem mn_w_theoremOf_2b {Q1 Q2 : Int → iST → Prop} {R21 R22 : Int → Int → iST → Prop} {x1 : Int} {x2 : Int} {u : iST} (hR2 : ∀ r0 r1 r2, R21 r0 r1 r2 → R22 r0 r1 r2) (hQ : ∀ r0 r1, Q1 r0 r1 → Q2 r0 r1) : pw_theoremOf_2b R21 Q1 x1 x2 u → pw_theoremOf_2b R22 Q2 x1 x2 u := (rd_mn fun _ => (br_mn (hQ _ _) (bd_mn (rd_mn fun _ => (br_mn (ov_mn (hR2 _ _ _)) (hQ _ _))))))
theorem wp_w_theoremOf_2b {Q1 Q2 : Int → iST → Prop} {R21 R22 : Int → Int → iST → Prop} {x1 : Int} {x2 : Int} {u : iST} (hR2 : ∀ r0 r1 r2, R21 r0 r1 r2 → R22 r0 r1 r2) (hQ : ∀ r0 r1, Q1 r0 r1 → Q2 r0 r1) : w_theoremOf_2b R21 Q1 x1 x2 u → pw_theoremOf_2b R22 Q2 x1 x2 u := (rd_wp fun _ => (br_wp (hQ _ _) (bd_wp (rd_wp fun _ => (br_wp (ov_wp (hR2 _ _ _)) (hQ _ _))))))
def pw_theoremOf_2 (Q : Int → iST → Prop) (x1 : Int) (x2 : Int) (u : iST) : Prop := ∃ R2 : Int → Int → iST → Prop, (∀ (x1 : Int) (x2 : Int) (u : iST), R2 x1 x2 u → pw_theoremOf_2b R2 Q x1 x2 u) ∧ R2 x1 x2 u
theorem cj_w_theoremOf_2 {Q1 Q2 Q3 : Int → iST → Prop}  {x1 : Int} {x2 : Int} {u : iST} (hQ : ∀ r0 r1, Q1 r0 r1 → Q2 r0 r1 → Q3 r0 r1) : w_theoremOf_2 Q1 x1 x2 u → pw_theoremOf_2 Q2 x1 x2 u → w_theoremOf_2 Q3 x1 x2 u := by
  intro a b R3 c3
  obtain ⟨R2, c2, b2⟩ := b
  exact a (fun r0 r1 r2 => R2 r0 r1 r2 → R3 r0 r1 r2) (fun r0 r1 r2 a b => c3 r0 r1 r2 (cj_w_theoremOf_2b (fun r0 r1 r2 a b => a b) hQ a (c2 r0 r1 r2 b))) b2
theorem pw_theoremOf_2_i  {Q : Int → iST → Prop} {x1 : Int} {x2 : Int} {u : iST} (I : Int → Int → iST → Prop) (s : ∀ (x1 : Int) (x2 : Int) (u : iST), I x1 x2 u → pw_theoremOf_2b I Q x1 x2 u) (h : I x1 x2 u) : pw_theoremOf_2 Q x1 x2 u := ⟨I, s, h⟩
theorem mn_w_theoremOf_2 {Q1 Q2 : Int → iST → Prop}  {x1 : Int} {x2 : Int} {u : iST} (hQ : ∀ r0 r1, Q1 r0 r1 → Q2 r0 r1) : pw_theoremOf_2 Q1 x1 x2 u → pw_theoremOf_2 Q2 x1 x2 u := fun ⟨R, s, h⟩ => ⟨R, fun r0 r1 r2 a => mn_w_theoremOf_2b (fun r0 r1 r2 a => a) hQ (s r0 r1 r2 a), h⟩
theorem un_w_theoremOf_2  {Q : Int → iST → Prop} {x1 : Int} {x2 : Int} {u : iST} : pw_theoremOf_2 Q x1 x2 u → pw_theoremOf_2b (fun x1 x2 u => pw_theoremOf_2 Q x1 x2 u) Q x1 x2 u := fun ⟨R, s, h⟩ => mn_w_theoremOf_2b (fun r0 r1 r2 a => ⟨R, s, a⟩) (fun _ _ h => h) (s _ _ _ h)
theorem fo_w_theoremOf_2  {Q : Int → iST → Prop} {x1 : Int} {x2 : Int} {u : iST} : pw_theoremOf_2b (fun x1 x2 u => pw_theoremOf_2 Q x1 x2 u) Q x1 x2 u → pw_theoremOf_2 Q x1 x2 u := fun h => ⟨fun x1 x2 u => pw_theoremOf_2b (fun x1 x2 u => pw_theoremOf_2 Q x1 x2 u) Q x1 x2 u, fun r0 r1 r2 a => mn_w_theoremOf_2b (fun r0 r1 r2 a => un_w_theoremOf_2 a) (fun _ _ h => h) a, h⟩
theorem wp_w_theoremOf_2 {Q1 Q2 : Int → iST → Prop}  {x1 : Int} {x2 : Int} {u : iST} (hQ : ∀ r0 r1, Q1 r0 r1 → Q2 r0 r1) : w_theoremOf_2 Q1 x1 x2 u → pw_theoremOf_2 Q2 x1 x2 u := fun a => a (fun x1 x2 u => pw_theoremOf_2 Q2 x1 x2 u) (fun x1 x2 u b => fo_w_theoremOf_2 (wp_w_theoremOf_2b (fun r0 r1 r2 a => a) hQ b))
def pw_theoremOf (a0 : Int) (Q : Int → iST → Prop) (u : iST) : Prop :=
  pw_theoremOf_2 Q a0 0 u
theorem cj_w_theoremOf {Q1 Q2 Q3 : Int → iST → Prop}  {a0 : Int} {u : iST} (hQ : ∀ r0 r1, Q1 r0 r1 → Q2 r0 r1 → Q3 r0 r1) : w_theoremOf a0 Q1 u → pw_theoremOf a0 Q2 u → w_theoremOf a0 Q3 u := (cj_w_theoremOf_2  hQ)
theorem mn_w_theoremOf {Q1 Q2 : Int → iST → Prop}  {a0 : Int} {u : iST} (hQ : ∀ r0 r1, Q1 r0 r1 → Q2 r0 r1) : pw_theoremOf a0 Q1 u → pw_theoremOf a0 Q2 u := (mn_w_theoremOf_2  hQ)
theorem wp_w_theoremOf {Q1 Q2 : Int → iST → Prop}  {a0 : Int} {u : iST} (hQ : ∀ r0 r1, Q1 r0 r1 → Q2 r0 r1) : w_theoremOf a0 Q1 u → pw_theoremOf a0 Q2 u := (wp_w_theoremOf_2  hQ)
def pw_areVariables_46b (R21 : Int → Int → Int → iST → Prop) (R46 : Int → Int → Int → Int → iST → Prop) (Q : Int → iST → Prop) (x1 : Int) (x3 : Int) (x4 : Int) (x5 : Int) (u : iST) : Prop :=
  br (x4 ≤ x5) (
    ovp (x4 + 1) (
    R21 x1 x3 (x4 + 1) u)) (
    pw_nth x1 x5 (fun v5 u => 
    pw_nth x1 x4 (fun v6 u => 
    br (v5 ≠ v6) (
      ovp (x5 + 1) (
      R46 x1 x3 x4 (x5 + 1) u)) (
      ztp 0 (Q 0 u))) u) u)
theorem cj_w_areVariables_46b {Q1 Q2 Q3 : Int → iST → Prop} {R211 R212 R213 : Int → Int → Int → iST → Prop} {R461 R462 R463 : Int → Int → Int → Int → iST → Prop} {x1 : Int} {x3 : Int} {x4 : Int} {x5 : Int} {u : iST} (hR21 : ∀ r0 r1 r2 r3, R211 r0 r1 r2 r3 → R212 r0 r1 r2 r3 → R213 r0 r1 r2 r3) (hR46 : ∀ r0 r1 r2 r3 r4, R461 r0 r1 r2 r3 r4 → R462 r0 r1 r2 r3 r4 → R463 r0 r1 r2 r3 r4) (hQ : ∀ r0 r1, Q1 r0 r1 → Q2 r0 r1 → Q3 r0 r1) : w_areVariables_46b R211 R461 Q1 x1 x3 x4 x5 u → pw_areVariables_46b R212 R462 Q2 x1 x3 x4 x5 u → w_areVariables_46b R213 R463 Q3 x1 x3 x4 x5 u := (br_cj (ov_cj (hR21 _ _ _ _)) (cj_w_nth (fun _ _ => (cj_w_nth (fun _ _ => (br_cj (ov_cj (hR46 _ _ _ _ _)) (zt_cj (hQ _ _))))))))
theorem mn_w_areVariables_46b {Q1 Q2 : Int → iST → Prop} {R211 R212 : Int → Int → Int → iST → Prop} {R461 R462 : Int → Int → Int → Int → iST → Prop} {x1 : Int} {x3 : Int} {x4 : Int} {x5 : Int} {u : iST} (hR21 : ∀ r0 r1 r2 r3, R211 r0 r1 r2 r3 → R212 r0 r1 r2 r3) (hR46 : ∀ r0 r1 r2 r3 r4, R461 r0 r1 r2 r3 r4 → R462 r0 r1 r2 r3 r4) (hQ : ∀ r0 r1, Q1 r0 r1 → Q2 r0 r1) : pw_areVariables_46b R211 R461 Q1 x1 x3 x4 x5 u → pw_areVariables_46b R212 R462 Q2 x1 x3 x4 x5 u := (br_mn (ov_mn (hR21 _ _ _ _)) (mn_w_nth (fun _ _ => (mn_w_nth (fun _ _ => (br_mn (ov_mn (hR46 _ _ _ _ _)) (zt_mn (hQ _ _))))))))
theorem wp_w_areVariables_46b {Q1 Q2 : Int → iST → Prop} {R211 R212 : Int → Int → Int → iST → Prop} {R461 R462 : Int → Int → Int → Int → iST → Prop} {x1 : Int} {x3 : Int} {x4 : Int} {x5 : Int} {u : iST} (hR21 : ∀ r0 r1 r2 r3, R211 r0 r1 r2 r3 → R212 r0 r1 r2 r3) (hR46 : ∀ r0 r1 r2 r3 r4, R461 r0 r1 r2 r3 r4 → R462 r0 r1 r2 r3 r4) (hQ : ∀ r0 r1, Q1 r0 r1 → Q2 r0 r1) : w_areVariables_46b R211 R461 Q1 x1 x3 x4 x5 u → pw_areVariables_46b R212 R462 Q2 x1 x3 x4 x5 u := (br_wp (ov_wp (hR21 _ _ _ _)) (wp_w_nth (fun _ _ => (wp_w_nth (fun _ _ => (br_wp (ov_wp (hR46 _ _ _ _ _)) (zt_wp (hQ _ _))))))))
def pw_areVariables_46 (R21 : Int → Int → Int → iST → Prop) (Q : Int → iST → Prop) (x1 : Int) (x3 : Int) (x4 : Int) (x5 : Int) (u : iST) : Prop := ∃ R46 : Int → Int → Int → Int → iST → Prop, (∀ (x1 : Int) (x3 : Int) (x4 : Int) (x5 : Int) (u : iST), R46 x1 x3 x4 x5 u → pw_areVariables_46b R21 R46 Q x1 x3 x4 x5 u) ∧ R46 x1 x3 x4 x5 u
theorem cj_w_areVariables_46 {Q1 Q2 Q3 : Int → iST → Prop} {R211 R212 R213 : Int → Int → Int → iST → Prop} {x1 : Int} {x3 : Int} {x4 : Int} {x5 : Int} {u : iST} (hR21 : ∀ r0 r1 r2 r3, R211 r0 r1 r2 r3 → R212 r0 r1 r2 r3 → R213 r0 r1 r2 r3) (hQ : ∀ r0 r1, Q1 r0 r1 → Q2 r0 r1 → Q3 r0 r1) : w_areVariables_46 R211 Q1 x1 x3 x4 x5 u → pw_areVariables_46 R212 Q2 x1 x3 x4 x5 u → w_areVariables_46 R213 Q3 x1 x3 x4 x5 u := by
  intro a b R3 c3
  obtain ⟨R2, c2, b2⟩ := b
  exact a (fun r0 r1 r2 r3 r4 => R2 r0 r1 r2 r3 r4 → R3 r0 r1 r2 r3 r4) (fun r0 r1 r2 r3 r4 a b => c3 r0 r1 r2 r3 r4 (cj_w_areVariables_46b hR21 (fun r0 r1 r2 r3 r4 a b => a b) hQ a (c2 r0 r1 r2 r3 r4 b))) b2
theorem pw_areVariables_46_i {R21 : Int → Int → Int → iST → Prop} {Q : Int → iST → Prop} {x1 : Int} {x3 : Int} {x4 : Int} {x5 : Int} {u : iST} (I : Int → Int → Int → Int → iST → Prop) (s : ∀ (x1 : Int) (x3 : Int) (x4 : Int) (x5 : Int) (u : iST), I x1 x3 x4 x5 u → pw_areVariables_46b R21 I Q x1 x3 x4 x5 u) (h : I x1 x3 x4 x5 u) : pw_areVariables_46 R21 Q x1 x3 x4 x5 u := ⟨I, s, h⟩
theorem mn_w_areVariables_46 {Q1 Q2 : Int → iST → Prop} {R211 R212 : Int → Int → Int → iST → Prop} {x1 : Int} {x3 : Int} {x4 : Int} {x5 : Int} {u : iST} (hR21 : ∀ r0 r1 r2 r3, R211 r0 r1 r2 r3 → R212 r0 r1 r2 r3) (hQ : ∀ r0 r1, Q1 r0 r1 → Q2 r0 r1) : pw_areVariables_46 R211 Q1 x1 x3 x4 x5 u → pw_areVariables_46 R212 Q2 x1 x3 x4 x5 u := fun ⟨R, s, h⟩ => ⟨R, fun r0 r1 r2 r3 r4 a => mn_w_areVariables_46b hR21 (fun r0 r1 r2 r3 r4 a => a) hQ (s r0 r1 r2 r3 r4 a), h⟩
theorem un_w_areVariables_46 {R21 : Int → Int → Int → iST → Prop} {Q : Int → iST → Prop} {x1 : Int} {x3 : Int} {x4 : Int} {x5 : Int} {u : iST} : pw_areVariables_46 R21 Q x1 x3 x4 x5 u → pw_areVariables_46b R21 (fun x1 x3 x4 x5 u => pw_areVariables_46 R21 Q x1 x3 x4 x5 u) Q x1 x3 x4 x5 u := fun ⟨R, s, h⟩ => mn_w_areVariables_46b (fun _ _ _ _ h => h) (fun r0 r1 r2 r3 r4 a => ⟨R, s, a⟩) (fun _ _ h => h) (s _ _ _ _ _ h)
theorem fo_w_areVariables_46 {R21 : Int → Int → Int → iST → Prop} {Q : Int → iST → Prop} {x1 : Int} {x3 : Int} {x4 : Int} {x5 : Int} {u : iST} : pw_areVariables_46b R21 (fun x1 x3 x4 x5 u => pw_areVariables_46 R21 Q x1 x3 x4 x5 u) Q x1 x3 x4 x5 u → pw_areVariables_46 R21 Q x1 x3 x4 x5 u := fun h => ⟨fun x1 x3 x4 x5 u => pw_areVariables_46b R21 (fun x1 x3 x4 x5 u => pw_areVariables_46 R21 Q x1 x3 x4 x5 u) Q x1 x3 x4 x5 u, fun r0 r1 r2 r3 r4 a => mn_w_areVariables_46b (fun _ _ _ _ h => h) (fun r0 r1 r2 r3 r4 a => un_w_areVariables_46 a) (fun _ _ h => h) a, h⟩
theorem wp_w_areVariables_46 {Q1 Q2 : Int → iST → Prop} {R211 R212 : Int → Int → Int → iST → Prop} {x1 : Int} {x3 : Int} {x4 : Int} {x5 : Int} {u : iST} (hR21 : ∀ r0 r1 r2 r3, R211 r0 r1 r2 r3 → R212 r0 r1 r2 r3) (hQ : ∀ r0 r1, Q1 r0 r1 → Q2 r0 r1) : w_areVariables_46 R211 Q1 x1 x3 x4 x5 u → pw_areVariables_46 R212 Q2 x1 x3 x4 x5 u := fun a => a (fun x1 x3 x4 x5 u => pw_areVariables_46 R212 Q2 x1 x3 x4 x5 u) (fun x1 x3 x4 x5 u b => fo_w_areVariables_46 (wp_w_areVariables_46b hR21 (fun r0 r1 r2 r3 r4 a => a) hQ b))
def pw_areVariables_21b (R21 : Int → Int → Int → iST → Prop) (Q : Int → iST → Prop) (x1 : Int) (x3 : Int) (x4 : Int) (u : iST) : Prop :=
  br (x3 ≤ x4) (
    ztp 1 (Q 1 u)) (
    pw_nth x1 x4 (fun v2 u => 
    pw_isVariable v2 (fun v3 u => 
    br (v3 ≠ 0) (
      pw_areVariables_46 R21 Q x1 x3 x4 0 u) (
      ztp 0 (Q 0 u))) u) u)
theorem cj_w_areVariables_21b {Q1 Q2 Q3 : Int → iST → Prop} {R211 R212 R213 : Int → Int → Int → iST → Prop} {x1 : Int} {x3 : Int} {x4 : Int} {u : iST} (hR21 : ∀ r0 r1 r2 r3, R211 r0 r1 r2 r3 → R212 r0 r1 r2 r3 → R213 r0 r1 r2 r3) (hQ : ∀ r0 r1, Q1 r0 r1 → Q2 r0 r1 → Q3 r0 r1) : w_areVariables_21b R211 Q1 x1 x3 x4 u → pw_areVariables_21b R212 Q2 x1 x3 x4 u → w_areVariables_21b R213 Q3 x1 x3 x4 u := (br_cj (zt_cj (hQ _ _)) (cj_w_nth (fun _ _ => (cj_w_isVariable (fun _ _ => (br_cj (cj_w_areVariables_46 hR21 hQ) (zt_cj (hQ _ _))))))))
theorem mn_w_areVariables_21b {Q1 Q2 : Int → iST → Prop} {R211 R212 : Int → Int → Int → iST → Prop} {x1 : Int} {x3 : Int} {x4 : Int} {u : iST} (hR21 : ∀ r0 r1 r2 r3, R211 r0 r1 r2 r3 → R212 r0 r1 r2 r3) (hQ : ∀ r0 r1, Q1 r0 r1 → Q2 r0 r1) : pw_areVariables_21b R211 Q1 x1 x3 x4 u → pw_areVariables_21b R212 Q2 x1 x3 x4 u := (br_mn (zt_mn (hQ _ _)) (mn_w_nth (fun _ _ => (mn_w_isVariable (fun _ _ => (br_mn (mn_w_areVariables_46 hR21 hQ) (zt_mn (hQ _ _))))))))
theorem wp_w_areVariables_21b {Q1 Q2 : Int → iST → Prop} {R211 R212 : Int → Int → Int → iST → Prop} {x1 : Int} {x3 : Int} {x4 : Int} {u : iST} (hR21 : ∀ r0 r1 r2 r3, R211 r0 r1 r2 r3 → R212 r0 r1 r2 r3) (hQ : ∀ r0 r1, Q1 r0 r1 → Q2 r0 r1) : w_areVariables_21b R211 Q1 x1 x3 x4 u → pw_areVariables_21b R212 Q2 x1 x3 x4 u := (br_wp (zt_wp (hQ _ _)) (wp_w_nth (fun _ _ => (wp_w_isVariable (fun _ _ => (br_wp (wp_w_areVariables_46 hR21 hQ) (zt_wp (hQ _ _))))))))
def pw_areVariables_21 (Q : Int → iST → Prop) (x1 : Int) (x3 : Int) (x4 : Int) (u : iST) : Prop := ∃ R21 : Int → Int → Int → iST → Prop, (∀ (x1 : Int) (x3 : Int) (x4 : Int) (u : iST), R21 x1 x3 x4 u → pw_areVariables_21b R21 Q x1 x3 x4 u) ∧ R21 x1 x3 x4 u
theorem cj_w_areVariables_21 {Q1 Q2 Q3 : Int → iST → Prop}  {x1 : Int} {x3 : Int} {x4 : Int} {u : iST} (hQ : ∀ r0 r1, Q1 r0 r1 → Q2 r0 r1 → Q3 r0 r1) : w_areVariables_21 Q1 x1 x3 x4 u → pw_areVariables_21 Q2 x1 x3 x4 u → w_areVariables_21 Q3 x1 x3 x4 u := by
  intro a b R3 c3
  obtain ⟨R2, c2, b2⟩ := b
  exact a (fun r0 r1 r2 r3 => R2 r0 r1 r2 r3 → R3 r0 r1 r2 r3) (fun r0 r1 r2 r3 a b => c3 r0 r1 r2 r3 (cj_w_areVariables_21b (fun r0 r1 r2 r3 a b => a b) hQ a (c2 r0 r1 r2 r3 b))) b2
theorem pw_areVariables_21_i  {Q : Int → iST → Prop} {x1 : Int} {x3 : Int} {x4 : Int} {u : iST} (I : Int → Int → Int → iST → Prop) (s : ∀ (x1 : Int) (x3 : Int) (x4 : Int) (u : iST), I x1 x3 x4 u → pw_areVariables_21b I Q x1 x3 x4 u) (h : I x1 x3 x4 u) : pw_areVariables_21 Q x1 x3 x4 u := ⟨I, s, h⟩
theorem mn_w_areVariables_21 {Q1 Q2 : Int → iST → Prop}  {x1 : Int} {x3 : Int} {x4 : Int} {u : iST} (hQ : ∀ r0 r1, Q1 r0 r1 → Q2 r0 r1) : pw_areVariables_21 Q1 x1 x3 x4 u → pw_areVariables_21 Q2 x1 x3 x4 u := fun ⟨R, s, h⟩ => ⟨R, fun r0 r1 r2 r3 a => mn_w_areVariables_21b (fun r0 r1 r2 r3 a => a) hQ (s r0 r1 r2 r3 a), h⟩
theorem un_w_areVariables_21  {Q : Int → iST → Prop} {x1 : Int} {x3 : Int} {x4 : Int} {u : iST} : pw_areVariables_21 Q x1 x3 x4 u → pw_areVariables_21b (fun x1 x3 x4 u => pw_areVariables_21 Q x1 x3 x4 u) Q x1 x3 x4 u := fun ⟨R, s, h⟩ => mn_w_areVariables_21b (fun r0 r1 r2 r3 a => ⟨R, s, a⟩) (fun _ _ h => h) (s _ _ _ _ h)
theorem fo_w_areVariables_21  {Q : Int → iST → Prop} {x1 : Int} {x3 : Int} {x4 : Int} {u : iST} : pw_areVariables_21b (fun x1 x3 x4 u => pw_areVariables_21 Q x1 x3 x4 u) Q x1 x3 x4 u → pw_areVariables_21 Q x1 x3 x4 u := fun h => ⟨fun x1 x3 x4 u => pw_areVariables_21b (fun x1 x3 x4 u => pw_areVariables_21 Q x1 x3 x4 u) Q x1 x3 x4 u, fun r0 r1 r2 r3 a => mn_w_areVariables_21b (fun r0 r1 r2 r3 a => un_w_areVariables_21 a) (fun _ _ h => h) a, h⟩
theorem wp_w_areVariables_21 {Q1 Q2 : Int → iST → Prop}  {x1 : Int} {x3 : Int} {x4 : Int} {u : iST} (hQ : ∀ r0 r1, Q1 r0 r1 → Q2 r0 r1) : w_areVariables_21 Q1 x1 x3 x4 u → pw_areVariables_21 Q2 x1 x3 x4 u := fun a => a (fun x1 x3 x4 u => pw_areVariables_21 Q2 x1 x3 x4 u) (fun x1 x3 x4 u b => fo_w_areVariables_21 (wp_w_areVariables_21b (fun r0 r1 r2 r3 a => a) hQ b))
def pw_areVariables (a0 : Int) (a1 : Int) (Q : Int → iST → Prop) (u : iST) : Prop :=
  pw_lengthOf a0 (fun v1 u => 
  br (v1 = (-1)) (
    ztp 0 (Q 0 u)) (
    br (v1 ≤ a1) (
      pw_areVariables_21 Q a0 v1 0 u) (
      ztp 0 (Q 0 u)))) u
theorem cj_w_areVariables {Q1 Q2 Q3 : Int → iST → Prop}  {a0 : Int} {a1 : Int} {u : iST} (hQ : ∀ r0 r1, Q1 r0 r1 → Q2 r0 r1 → Q3 r0 r1) : w_areVariables a0 a1 Q1 u → pw_areVariables a0 a1 Q2 u → w_areVariables a0 a1 Q3 u := (cj_w_lengthOf (fun _ _ => (br_cj (zt_cj (hQ _ _)) (br_cj (cj_w_areVariables_21  hQ) (zt_cj (hQ _ _))))))
theorem mn_w_areVariables {Q1 Q2 : Int → iST → Prop}  {a0 : Int} {a1 : Int} {u : iST} (hQ : ∀ r0 r1, Q1 r0 r1 → Q2 r0 r1) : pw_areVariables a0 a1 Q1 u → pw_areVariables a0 a1 Q2 u := (mn_w_lengthOf (fun _ _ => (br_mn (zt_mn (hQ _ _)) (br_mn (mn_w_areVariables_21  hQ) (zt_mn (hQ _ _))))))
theorem wp_w_areVariables {Q1 Q2 : Int → iST → Prop}  {a0 : Int} {a1 : Int} {u : iST} (hQ : ∀ r0 r1, Q1 r0 r1 → Q2 r0 r1) : w_areVariables a0 a1 Q1 u → pw_areVariables a0 a1 Q2 u := (wp_w_lengthOf (fun _ _ => (br_wp (zt_wp (hQ _ _)) (br_wp (wp_w_areVariables_21  hQ) (zt_wp (hQ _ _))))))
def pw_isIn_2b (R2 : Int → Int → iST → Prop) (Q : Int → iST → Prop) (x2 : Int) (x3 : Int) (u : iST) : Prop :=
  br (x3 = 0) (
    ztp 0 (Q 0 u)) (
    bdp x3 452000 (rd (u.2.1 0 x3) (fun v1 => 
    br (v1 ≠ x2) (
      bdp x3 452000 (rd (u.2.1 1 x3) (fun v2 => 
      R2 x2 v2 u))) (
      ztp 1 (Q 1 u)))))
theorem cj_w_isIn_2b {Q1 Q2 Q3 : Int → iST → Prop} {R21 R22 R23 : Int → Int → iST → Prop} {x2 : Int} {x3 : Int} {u : iST} (hR2 : ∀ r0 r1 r2, R21 r0 r1 r2 → R22 r0 r1 r2 → R23 r0 r1 r2) (hQ : ∀ r0 r1, Q1 r0 r1 → Q2 r0 r1 → Q3 r0 r1) : w_isIn_2b R21 Q1 x2 x3 u → pw_isIn_2b R22 Q2 x2 x3 u → w_isIn_2b R23 Q3 x2 x3 u := (br_cj (zt_cj (hQ _ _)) (bd_cj (rd_cj fun _ => (br_cj (bd_cj (rd_cj fun _ => (hR2 _ _ _))) (zt_cj (hQ _ _))))))
theorem mn_w_isIn_2b {Q1 Q2 : Int → iST → Prop} {R21 R22 : Int → Int → iST → Prop} {x2 : Int} {x3 : Int} {u : iST} (hR2 : ∀ r0 r1 r2, R21 r0 r1 r2 → R22 r0 r1 r2) (hQ : ∀ r0 r1, Q1 r0 r1 → Q2 r0 r1) : pw_isIn_2b R21 Q1 x2 x3 u → pw_isIn_2b R22 Q2 x2 x3 u := (br_mn (zt_mn (hQ _ _)) (bd_mn (rd_mn fun _ => (br_mn (bd_mn (rd_mn fun _ => (hR2 _ _ _))) (zt_mn (hQ _ _))))))
theorem wp_w_isIn_2b {Q1 Q2 : Int → iST → Prop} {R21 R22 : Int → Int → iST → Prop} {x2 : Int} {x3 : Int} {u : iST} (hR2 : ∀ r0 r1 r2, R21 r0 r1 r2 → R22 r0 r1 r2) (hQ : ∀ r0 r1, Q1 r0 r1 → Q2 r0 r1) : w_isIn_2b R21 Q1 x2 x3 u → pw_isIn_2b R22 Q2 x2 x3 u := (br_wp (zt_wp (hQ _ _)) (bd_wp (rd_wp fun _ => (br_wp (bd_wp (rd_wp fun _ => (hR2 _ _ _))) (zt_wp (hQ _ _))))))
def pw_isIn_2 (Q : Int → iST → Prop) (x2 : Int) (x3 : Int) (u : iST) : Prop := ∃ R2 : Int → Int → iST → Prop, (∀ (x2 : Int) (x3 : Int) (u : iST), R2 x2 x3 u → pw_isIn_2b R2 Q x2 x3 u) ∧ R2 x2 x3 u
theorem cj_w_isIn_2 {Q1 Q2 Q3 : Int → iST → Prop}  {x2 : Int} {x3 : Int} {u : iST} (hQ : ∀ r0 r1, Q1 r0 r1 → Q2 r0 r1 → Q3 r0 r1) : w_isIn_2 Q1 x2 x3 u → pw_isIn_2 Q2 x2 x3 u → w_isIn_2 Q3 x2 x3 u := by
  intro a b R3 c3
  obtain ⟨R2, c2, b2⟩ := b
  exact a (fun r0 r1 r2 => R2 r0 r1 r2 → R3 r0 r1 r2) (fun r0 r1 r2 a b => c3 r0 r1 r2 (cj_w_isIn_2b (fun r0 r1 r2 a b => a b) hQ a (c2 r0 r1 r2 b))) b2
theorem pw_isIn_2_i  {Q : Int → iST → Prop} {x2 : Int} {x3 : Int} {u : iST} (I : Int → Int → iST → Prop) (s : ∀ (x2 : Int) (x3 : Int) (u : iST), I x2 x3 u → pw_isIn_2b I Q x2 x3 u) (h : I x2 x3 u) : pw_isIn_2 Q x2 x3 u := ⟨I, s, h⟩
theorem mn_w_isIn_2 {Q1 Q2 : Int → iST → Prop}  {x2 : Int} {x3 : Int} {u : iST} (hQ : ∀ r0 r1, Q1 r0 r1 → Q2 r0 r1) : pw_isIn_2 Q1 x2 x3 u → pw_isIn_2 Q2 x2 x3 u := fun ⟨R, s, h⟩ => ⟨R, fun r0 r1 r2 a => mn_w_isIn_2b (fun r0 r1 r2 a => a) hQ (s r0 r1 r2 a), h⟩
theorem un_w_isIn_2  {Q : Int → iST → Prop} {x2 : Int} {x3 : Int} {u : iST} : pw_isIn_2 Q x2 x3 u → pw_isIn_2b (fun x2 x3 u => pw_isIn_2 Q x2 x3 u) Q x2 x3 u := fun ⟨R, s, h⟩ => mn_w_isIn_2b (fun r0 r1 r2 a => ⟨R, s, a⟩) (fun _ _ h => h) (s _ _ _ h)
theorem fo_w_isIn_2  {Q : Int → iST → Prop} {x2 : Int} {x3 : Int} {u : iST} : pw_isIn_2b (fun x2 x3 u => pw_isIn_2 Q x2 x3 u) Q x2 x3 u → pw_isIn_2 Q x2 x3 u := fun h => ⟨fun x2 x3 u => pw_isIn_2b (fun x2 x3 u => pw_isIn_2 Q x2 x3 u) Q x2 x3 u, fun r0 r1 r2 a => mn_w_isIn_2b (fun r0 r1 r2 a => un_w_isIn_2 a) (fun _ _ h => h) a, h⟩
theorem wp_w_isIn_2 {Q1 Q2 : Int → iST → Prop}  {x2 : Int} {x3 : Int} {u : iST} (hQ : ∀ r0 r1, Q1 r0 r1 → Q2 r0 r1) : w_isIn_2 Q1 x2 x3 u → pw_isIn_2 Q2 x2 x3 u := fun a => a (fun x2 x3 u => pw_isIn_2 Q2 x2 x3 u) (fun x2 x3 u b => fo_w_isIn_2 (wp_w_isIn_2b (fun r0 r1 r2 a => a) hQ b))
def pw_isIn (a0 : Int) (a1 : Int) (Q : Int → iST → Prop) (u : iST) : Prop :=
  pw_isIn_2 Q a1 a0 u
theorem cj_w_isIn {Q1 Q2 Q3 : Int → iST → Prop}  {a0 : Int} {a1 : Int} {u : iST} (hQ : ∀ r0 r1, Q1 r0 r1 → Q2 r0 r1 → Q3 r0 r1) : w_isIn a0 a1 Q1 u → pw_isIn a0 a1 Q2 u → w_isIn a0 a1 Q3 u := (cj_w_isIn_2  hQ)
theorem mn_w_isIn {Q1 Q2 : Int → iST → Prop}  {a0 : Int} {a1 : Int} {u : iST} (hQ : ∀ r0 r1, Q1 r0 r1 → Q2 r0 r1) : pw_isIn a0 a1 Q1 u → pw_isIn a0 a1 Q2 u := (mn_w_isIn_2  hQ)
theorem wp_w_isIn {Q1 Q2 : Int → iST → Prop}  {a0 : Int} {a1 : Int} {u : iST} (hQ : ∀ r0 r1, Q1 r0 r1 → Q2 r0 r1) : w_isIn a0 a1 Q1 u → pw_isIn a0 a1 Q2 u := (wp_w_isIn_2  hQ)
def pw_hasOnly_7b (R7 : Int → Int → iST → Prop) (Q : Int → iST → Prop) (x2 : Int) (x3 : Int) (u : iST) : Prop :=
  rd (u.1 78) (fun v2 => 
  br (v2 ≤ x3) (
    ztp 1 (Q 1 u)) (
    bdp x3 130 (rd (u.2.1 77 x3) (fun v3 => 
    pw_isIn x2 v3 (fun v4 u => 
    br (v4 ≠ 0) (
      ovp (x3 + 1) (
      R7 x2 (x3 + 1) u)) (
      ztp 0 (Q 0 u))) u))))
theorem cj_w_hasOnly_7b {Q1 Q2 Q3 : Int → iST → Prop} {R71 R72 R73 : Int → Int → iST → Prop} {x2 : Int} {x3 : Int} {u : iST} (hR7 : ∀ r0 r1 r2, R71 r0 r1 r2 → R72 r0 r1 r2 → R73 r0 r1 r2) (hQ : ∀ r0 r1, Q1 r0 r1 → Q2 r0 r1 → Q3 r0 r1) : w_hasOnly_7b R71 Q1 x2 x3 u → pw_hasOnly_7b R72 Q2 x2 x3 u → w_hasOnly_7b R73 Q3 x2 x3 u := (rd_cj fun _ => (br_cj (zt_cj (hQ _ _)) (bd_cj (rd_cj fun _ => (cj_w_isIn (fun _ _ => (br_cj (ov_cj (hR7 _ _ _)) (zt_cj (hQ _ _)))))))))
theorem mn_w_hasOnly_7b {Q1 Q2 : Int → iST → Prop} {R71 R72 : Int → Int → iST → Prop} {x2 : Int} {x3 : Int} {u : iST} (hR7 : ∀ r0 r1 r2, R71 r0 r1 r2 → R72 r0 r1 r2) (hQ : ∀ r0 r1, Q1 r0 r1 → Q2 r0 r1) : pw_hasOnly_7b R71 Q1 x2 x3 u → pw_hasOnly_7b R72 Q2 x2 x3 u := (rd_mn fun _ => (br_mn (zt_mn (hQ _ _)) (bd_mn (rd_mn fun _ => (mn_w_isIn (fun _ _ => (br_mn (ov_mn (hR7 _ _ _)) (zt_mn (hQ _ _)))))))))
theorem wp_w_hasOnly_7b {Q1 Q2 : Int → iST → Prop} {R71 R72 : Int → Int → iST → Prop} {x2 : Int} {x3 : Int} {u : iST} (hR7 : ∀ r0 r1 r2, R71 r0 r1 r2 → R72 r0 r1 r2) (hQ : ∀ r0 r1, Q1 r0 r1 → Q2 r0 r1) : w_hasOnly_7b R71 Q1 x2 x3 u → pw_hasOnly_7b R72 Q2 x2 x3 u := (rd_wp fun _ => (br_wp (zt_wp (hQ _ _)) (bd_wp (rd_wp fun _ => (wp_w_isIn (fun _ _ => (br_wp (ov_wp (hR7 _ _ _)) (zt_wp (hQ _ _)))))))))
def pw_hasOnly_7 (Q : Int → iST → Prop) (x2 : Int) (x3 : Int) (u : iST) : Prop := ∃ R7 : Int → Int → iST → Prop, (∀ (x2 : Int) (x3 : Int) (u : iST), R7 x2 x3 u → pw_hasOnly_7b R7 Q x2 x3 u) ∧ R7 x2 x3 u
theorem cj_w_hasOnly_7 {Q1 Q2 Q3 : Int → iST → Prop}  {x2 : Int} {x3 : Int} {u : iST} (hQ : ∀ r0 r1, Q1 r0 r1 → Q2 r0 r1 → Q3 r0 r1) : w_hasOnly_7 Q1 x2 x3 u → pw_hasOnly_7 Q2 x2 x3 u → w_hasOnly_7 Q3 x2 x3 u := by
  intro a b R3 c3
  obtain ⟨R2, c2, b2⟩ := b
  exact a (fun r0 r1 r2 => R2 r0 r1 r2 → R3 r0 r1 r2) (fun r0 r1 r2 a b => c3 r0 r1 r2 (cj_w_hasOnly_7b (fun r0 r1 r2 a b => a b) hQ a (c2 r0 r1 r2 b))) b2
theorem pw_hasOnly_7_i  {Q : Int → iST → Prop} {x2 : Int} {x3 : Int} {u : iST} (I : Int → Int → iST → Prop) (s : ∀ (x2 : Int) (x3 : Int) (u : iST), I x2 x3 u → pw_hasOnly_7b I Q x2 x3 u) (h : I x2 x3 u) : pw_hasOnly_7 Q x2 x3 u := ⟨I, s, h⟩
theorem mn_w_hasOnly_7 {Q1 Q2 : Int → iST → Prop}  {x2 : Int} {x3 : Int} {u : iST} (hQ : ∀ r0 r1, Q1 r0 r1 → Q2 r0 r1) : pw_hasOnly_7 Q1 x2 x3 u → pw_hasOnly_7 Q2 x2 x3 u := fun ⟨R, s, h⟩ => ⟨R, fun r0 r1 r2 a => mn_w_hasOnly_7b (fun r0 r1 r2 a => a) hQ (s r0 r1 r2 a), h⟩
theorem un_w_hasOnly_7  {Q : Int → iST → Prop} {x2 : Int} {x3 : Int} {u : iST} : pw_hasOnly_7 Q x2 x3 u → pw_hasOnly_7b (fun x2 x3 u => pw_hasOnly_7 Q x2 x3 u) Q x2 x3 u := fun ⟨R, s, h⟩ => mn_w_hasOnly_7b (fun r0 r1 r2 a => ⟨R, s, a⟩) (fun _ _ h => h) (s _ _ _ h)
theorem fo_w_hasOnly_7  {Q : Int → iST → Prop} {x2 : Int} {x3 : Int} {u : iST} : pw_hasOnly_7b (fun x2 x3 u => pw_hasOnly_7 Q x2 x3 u) Q x2 x3 u → pw_hasOnly_7 Q x2 x3 u := fun h => ⟨fun x2 x3 u => pw_hasOnly_7b (fun x2 x3 u => pw_hasOnly_7 Q x2 x3 u) Q x2 x3 u, fun r0 r1 r2 a => mn_w_hasOnly_7b (fun r0 r1 r2 a => un_w_hasOnly_7 a) (fun _ _ h => h) a, h⟩
theorem wp_w_hasOnly_7 {Q1 Q2 : Int → iST → Prop}  {x2 : Int} {x3 : Int} {u : iST} (hQ : ∀ r0 r1, Q1 r0 r1 → Q2 r0 r1) : w_hasOnly_7 Q1 x2 x3 u → pw_hasOnly_7 Q2 x2 x3 u := fun a => a (fun x2 x3 u => pw_hasOnly_7 Q2 x2 x3 u) (fun x2 x3 u b => fo_w_hasOnly_7 (wp_w_hasOnly_7b (fun r0 r1 r2 a => a) hQ b))
def pw_hasOnly (a0 : Int) (a1 : Int) (Q : Int → iST → Prop) (u : iST) : Prop :=
  pw_variablesOf a0 (fun u => 
  pw_hasOnly_7 Q a1 0 u) u
theorem cj_w_hasOnly {Q1 Q2 Q3 : Int → iST → Prop}  {a0 : Int} {a1 : Int} {u : iST} (hQ : ∀ r0 r1, Q1 r0 r1 → Q2 r0 r1 → Q3 r0 r1) : w_hasOnly a0 a1 Q1 u → pw_hasOnly a0 a1 Q2 u → w_hasOnly a0 a1 Q3 u := (cj_w_variablesOf (fun _ => (cj_w_hasOnly_7  hQ)))
theorem mn_w_hasOnly {Q1 Q2 : Int → iST → Prop}  {a0 : Int} {a1 : Int} {u : iST} (hQ : ∀ r0 r1, Q1 r0 r1 → Q2 r0 r1) : pw_hasOnly a0 a1 Q1 u → pw_hasOnly a0 a1 Q2 u := (mn_w_variablesOf (fun _ => (mn_w_hasOnly_7  hQ)))
theorem wp_w_hasOnly {Q1 Q2 : Int → iST → Prop}  {a0 : Int} {a1 : Int} {u : iST} (hQ : ∀ r0 r1, Q1 r0 r1 → Q2 r0 r1) : w_hasOnly a0 a1 Q1 u → pw_hasOnly a0 a1 Q2 u := (wp_w_variablesOf (fun _ => (wp_w_hasOnly_7  hQ)))
def pw_areApart_90b (R2 : Int → Int → iST → Prop) (R62 : Int → Int → Int → iST → Prop) (R90 : Int → Int → Int → Int → Int → iST → Prop) (Q : Int → iST → Prop) (x1 : Int) (x2 : Int) (x3 : Int) (x4 : Int) (x5 : Int) (u : iST) : Prop :=
  br (x4 < x5) (
    ovp (x3 + 1) (
    R62 x1 x2 (x3 + 1) u)) (
    bdp x3 130 (rd (u.2.1 130 x3) (fun v11 => 
    pw_term v11 x5 (fun v12 u => 
    pw_hasCall v12 x1 (fun v13 u => 
    br (v13 = 0) (
      ovp (x5 + 1) (
      R90 x1 x2 x3 x4 (x5 + 1) u)) (
      ztp 0 (Q 0 u))) u) u)))
theorem cj_w_areApart_90b {Q1 Q2 Q3 : Int → iST → Prop} {R21 R22 R23 : Int → Int → iST → Prop} {R621 R622 R623 : Int → Int → Int → iST → Prop} {R901 R902 R903 : Int → Int → Int → Int → Int → iST → Prop} {x1 : Int} {x2 : Int} {x3 : Int} {x4 : Int} {x5 : Int} {u : iST} (hR2 : ∀ r0 r1 r2, R21 r0 r1 r2 → R22 r0 r1 r2 → R23 r0 r1 r2) (hR62 : ∀ r0 r1 r2 r3, R621 r0 r1 r2 r3 → R622 r0 r1 r2 r3 → R623 r0 r1 r2 r3) (hR90 : ∀ r0 r1 r2 r3 r4 r5, R901 r0 r1 r2 r3 r4 r5 → R902 r0 r1 r2 r3 r4 r5 → R903 r0 r1 r2 r3 r4 r5) (hQ : ∀ r0 r1, Q1 r0 r1 → Q2 r0 r1 → Q3 r0 r1) : w_areApart_90b R21 R621 R901 Q1 x1 x2 x3 x4 x5 u → pw_areApart_90b R22 R622 R902 Q2 x1 x2 x3 x4 x5 u → w_areApart_90b R23 R623 R903 Q3 x1 x2 x3 x4 x5 u := (br_cj (ov_cj (hR62 _ _ _ _)) (bd_cj (rd_cj fun _ => (cj_w_term (fun _ _ => (cj_w_hasCall (fun _ _ => (br_cj (ov_cj (hR90 _ _ _ _ _ _)) (zt_cj (hQ _ _))))))))))
theorem mn_w_areApart_90b {Q1 Q2 : Int → iST → Prop} {R21 R22 : Int → Int → iST → Prop} {R621 R622 : Int → Int → Int → iST → Prop} {R901 R902 : Int → Int → Int → Int → Int → iST → Prop} {x1 : Int} {x2 : Int} {x3 : Int} {x4 : Int} {x5 : Int} {u : iST} (hR2 : ∀ r0 r1 r2, R21 r0 r1 r2 → R22 r0 r1 r2) (hR62 : ∀ r0 r1 r2 r3, R621 r0 r1 r2 r3 → R622 r0 r1 r2 r3) (hR90 : ∀ r0 r1 r2 r3 r4 r5, R901 r0 r1 r2 r3 r4 r5 → R902 r0 r1 r2 r3 r4 r5) (hQ : ∀ r0 r1, Q1 r0 r1 → Q2 r0 r1) : pw_areApart_90b R21 R621 R901 Q1 x1 x2 x3 x4 x5 u → pw_areApart_90b R22 R622 R902 Q2 x1 x2 x3 x4 x5 u := (br_mn (ov_mn (hR62 _ _ _ _)) (bd_mn (rd_mn fun _ => (mn_w_term (fun _ _ => (mn_w_hasCall (fun _ _ => (br_mn (ov_mn (hR90 _ _ _ _ _ _)) (zt_mn (hQ _ _))))))))))
theorem wp_w_areApart_90b {Q1 Q2 : Int → iST → Prop} {R21 R22 : Int → Int → iST → Prop} {R621 R622 : Int → Int → Int → iST → Prop} {R901 R902 : Int → Int → Int → Int → Int → iST → Prop} {x1 : Int} {x2 : Int} {x3 : Int} {x4 : Int} {x5 : Int} {u : iST} (hR2 : ∀ r0 r1 r2, R21 r0 r1 r2 → R22 r0 r1 r2) (hR62 : ∀ r0 r1 r2 r3, R621 r0 r1 r2 r3 → R622 r0 r1 r2 r3) (hR90 : ∀ r0 r1 r2 r3 r4 r5, R901 r0 r1 r2 r3 r4 r5 → R902 r0 r1 r2 r3 r4 r5) (hQ : ∀ r0 r1, Q1 r0 r1 → Q2 r0 r1) : w_areApart_90b R21 R621 R901 Q1 x1 x2 x3 x4 x5 u → pw_areApart_90b R22 R622 R902 Q2 x1 x2 x3 x4 x5 u := (br_wp (ov_wp (hR62 _ _ _ _)) (bd_wp (rd_wp fun _ => (wp_w_term (fun _ _ => (wp_w_hasCall (fun _ _ => (br_wp (ov_wp (hR90 _ _ _ _ _ _)) (zt_wp (hQ _ _))))))))))
