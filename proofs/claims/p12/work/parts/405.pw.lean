def pw_areApart_90 (R2 : Int → Int → iST → Prop) (R62 : Int → Int → Int → iST → Prop) (Q : Int → iST → Prop) (x1 : Int) (x2 : Int) (x3 : Int) (x4 : Int) (x5 : Int) (u : iST) : Prop := ∃ R90 : Int → Int → Int → Int → Int → iST → Prop, (∀ (x1 : Int) (x2 : Int) (x3 : Int) (x4 : Int) (x5 : Int) (u : iST), R90 x1 x2 x3 x4 x5 u → pw_areApart_90b R2 R62 R90 Q x1 x2 x3 x4 x5 u) ∧ R90 x1 x2 x3 x4 x5 u
theorem cj_w_areApart_90 {Q1 Q2 Q3 : Int → iST → Prop} {R21 R22 R23 : Int → Int → iST → Prop} {R621 R622 R623 : Int → Int → Int → iST → Prop} {x1 : Int} {x2 : Int} {x3 : Int} {x4 : Int} {x5 : Int} {u : iST} (hR2 : ∀ r0 r1 r2, R21 r0 r1 r2 → R22 r0 r1 r2 → R23 r0 r1 r2) (hR62 : ∀ r0 r1 r2 r3, R621 r0 r1 r2 r3 → R622 r0 r1 r2 r3 → R623 r0 r1 r2 r3) (hQ : ∀ r0 r1, Q1 r0 r1 → Q2 r0 r1 → Q3 r0 r1) : w_areApart_90 R21 R621 Q1 x1 x2 x3 x4 x5 u → pw_areApart_90 R22 R622 Q2 x1 x2 x3 x4 x5 u → w_areApart_90 R23 R623 Q3 x1 x2 x3 x4 x5 u := by
  intro a b R3 c3
  obtain ⟨R2, c2, b2⟩ := b
  exact a (fun r0 r1 r2 r3 r4 r5 => R2 r0 r1 r2 r3 r4 r5 → R3 r0 r1 r2 r3 r4 r5) (fun r0 r1 r2 r3 r4 r5 a b => c3 r0 r1 r2 r3 r4 r5 (cj_w_areApart_90b hR2 hR62 (fun r0 r1 r2 r3 r4 r5 a b => a b) hQ a (c2 r0 r1 r2 r3 r4 r5 b))) b2
theorem pw_areApart_90_i {R2 : Int → Int → iST → Prop} {R62 : Int → Int → Int → iST → Prop} {Q : Int → iST → Prop} {x1 : Int} {x2 : Int} {x3 : Int} {x4 : Int} {x5 : Int} {u : iST} (I : Int → Int → Int → Int → Int → iST → Prop) (s : ∀ (x1 : Int) (x2 : Int) (x3 : Int) (x4 : Int) (x5 : Int) (u : iST), I x1 x2 x3 x4 x5 u → pw_areApart_90b R2 R62 I Q x1 x2 x3 x4 x5 u) (h : I x1 x2 x3 x4 x5 u) : pw_areApart_90 R2 R62 Q x1 x2 x3 x4 x5 u := ⟨I, s, h⟩
theorem mn_w_areApart_90 {Q1 Q2 : Int → iST → Prop} {R21 R22 : Int → Int → iST → Prop} {R621 R622 : Int → Int → Int → iST → Prop} {x1 : Int} {x2 : Int} {x3 : Int} {x4 : Int} {x5 : Int} {u : iST} (hR2 : ∀ r0 r1 r2, R21 r0 r1 r2 → R22 r0 r1 r2) (hR62 : ∀ r0 r1 r2 r3, R621 r0 r1 r2 r3 → R622 r0 r1 r2 r3) (hQ : ∀ r0 r1, Q1 r0 r1 → Q2 r0 r1) : pw_areApart_90 R21 R621 Q1 x1 x2 x3 x4 x5 u → pw_areApart_90 R22 R622 Q2 x1 x2 x3 x4 x5 u := fun ⟨R, s, h⟩ => ⟨R, fun r0 r1 r2 r3 r4 r5 a => mn_w_areApart_90b hR2 hR62 (fun r0 r1 r2 r3 r4 r5 a => a) hQ (s r0 r1 r2 r3 r4 r5 a), h⟩
theorem un_w_areApart_90 {R2 : Int → Int → iST → Prop} {R62 : Int → Int → Int → iST → Prop} {Q : Int → iST → Prop} {x1 : Int} {x2 : Int} {x3 : Int} {x4 : Int} {x5 : Int} {u : iST} : pw_areApart_90 R2 R62 Q x1 x2 x3 x4 x5 u → pw_areApart_90b R2 R62 (fun x1 x2 x3 x4 x5 u => pw_areApart_90 R2 R62 Q x1 x2 x3 x4 x5 u) Q x1 x2 x3 x4 x5 u := fun ⟨R, s, h⟩ => mn_w_areApart_90b (fun _ _ _ h => h) (fun _ _ _ _ h => h) (fun r0 r1 r2 r3 r4 r5 a => ⟨R, s, a⟩) (fun _ _ h => h) (s _ _ _ _ _ _ h)
theorem fo_w_areApart_90 {R2 : Int → Int → iST → Prop} {R62 : Int → Int → Int → iST → Prop} {Q : Int → iST → Prop} {x1 : Int} {x2 : Int} {x3 : Int} {x4 : Int} {x5 : Int} {u : iST} : pw_areApart_90b R2 R62 (fun x1 x2 x3 x4 x5 u => pw_areApart_90 R2 R62 Q x1 x2 x3 x4 x5 u) Q x1 x2 x3 x4 x5 u → pw_areApart_90 R2 R62 Q x1 x2 x3 x4 x5 u := fun h => ⟨fun x1 x2 x3 x4 x5 u => pw_areApart_90b R2 R62 (fun x1 x2 x3 x4 x5 u => pw_areApart_90 R2 R62 Q x1 x2 x3 x4 x5 u) Q x1 x2 x3 x4 x5 u, fun r0 r1 r2 r3 r4 r5 a => mn_w_areApart_90b (fun _ _ _ h => h) (fun _ _ _ _ h => h) (fun r0 r1 r2 r3 r4 r5 a => un_w_areApart_90 a) (fun _ _ h => h) a, h⟩
theorem wp_w_areApart_90 {Q1 Q2 : Int → iST → Prop} {R21 R22 : Int → Int → iST → Prop} {R621 R622 : Int → Int → Int → iST → Prop} {x1 : Int} {x2 : Int} {x3 : Int} {x4 : Int} {x5 : Int} {u : iST} (hR2 : ∀ r0 r1 r2, R21 r0 r1 r2 → R22 r0 r1 r2) (hR62 : ∀ r0 r1 r2 r3, R621 r0 r1 r2 r3 → R622 r0 r1 r2 r3) (hQ : ∀ r0 r1, Q1 r0 r1 → Q2 r0 r1) : w_areApart_90 R21 R621 Q1 x1 x2 x3 x4 x5 u → pw_areApart_90 R22 R622 Q2 x1 x2 x3 x4 x5 u := fun a => a (fun x1 x2 x3 x4 x5 u => pw_areApart_90 R22 R622 Q2 x1 x2 x3 x4 x5 u) (fun x1 x2 x3 x4 x5 u b => fo_w_areApart_90 (wp_w_areApart_90b hR2 hR62 (fun r0 r1 r2 r3 r4 r5 a => a) hQ b))
def pw_areApart_62b (R2 : Int → Int → iST → Prop) (R62 : Int → Int → Int → iST → Prop) (Q : Int → iST → Prop) (x1 : Int) (x2 : Int) (x3 : Int) (u : iST) : Prop :=
  rd (u.1 131) (fun v5 => 
  br (v5 ≤ x3) (
    ovp (x2 + 1) (
    R2 x1 (x2 + 1) u)) (
    bdp x3 130 (rd (u.2.1 130 x3) (fun v7 => 
    bdp v7 452000 (rd (u.2.1 1 v7) (fun v8 => 
    pw_lengthOf v8 (fun v9 u => 
    pw_areApart_90 R2 R62 Q x1 x2 x3 v9 1 u) u))))))
theorem cj_w_areApart_62b {Q1 Q2 Q3 : Int → iST → Prop} {R21 R22 R23 : Int → Int → iST → Prop} {R621 R622 R623 : Int → Int → Int → iST → Prop} {x1 : Int} {x2 : Int} {x3 : Int} {u : iST} (hR2 : ∀ r0 r1 r2, R21 r0 r1 r2 → R22 r0 r1 r2 → R23 r0 r1 r2) (hR62 : ∀ r0 r1 r2 r3, R621 r0 r1 r2 r3 → R622 r0 r1 r2 r3 → R623 r0 r1 r2 r3) (hQ : ∀ r0 r1, Q1 r0 r1 → Q2 r0 r1 → Q3 r0 r1) : w_areApart_62b R21 R621 Q1 x1 x2 x3 u → pw_areApart_62b R22 R622 Q2 x1 x2 x3 u → w_areApart_62b R23 R623 Q3 x1 x2 x3 u := (rd_cj fun _ => (br_cj (ov_cj (hR2 _ _ _)) (bd_cj (rd_cj fun _ => (bd_cj (rd_cj fun _ => (cj_w_lengthOf (fun _ _ => (cj_w_areApart_90 hR2 hR62 hQ)))))))))
theorem mn_w_areApart_62b {Q1 Q2 : Int → iST → Prop} {R21 R22 : Int → Int → iST → Prop} {R621 R622 : Int → Int → Int → iST → Prop} {x1 : Int} {x2 : Int} {x3 : Int} {u : iST} (hR2 : ∀ r0 r1 r2, R21 r0 r1 r2 → R22 r0 r1 r2) (hR62 : ∀ r0 r1 r2 r3, R621 r0 r1 r2 r3 → R622 r0 r1 r2 r3) (hQ : ∀ r0 r1, Q1 r0 r1 → Q2 r0 r1) : pw_areApart_62b R21 R621 Q1 x1 x2 x3 u → pw_areApart_62b R22 R622 Q2 x1 x2 x3 u := (rd_mn fun _ => (br_mn (ov_mn (hR2 _ _ _)) (bd_mn (rd_mn fun _ => (bd_mn (rd_mn fun _ => (mn_w_lengthOf (fun _ _ => (mn_w_areApart_90 hR2 hR62 hQ)))))))))
theorem wp_w_areApart_62b {Q1 Q2 : Int → iST → Prop} {R21 R22 : Int → Int → iST → Prop} {R621 R622 : Int → Int → Int → iST → Prop} {x1 : Int} {x2 : Int} {x3 : Int} {u : iST} (hR2 : ∀ r0 r1 r2, R21 r0 r1 r2 → R22 r0 r1 r2) (hR62 : ∀ r0 r1 r2 r3, R621 r0 r1 r2 r3 → R622 r0 r1 r2 r3) (hQ : ∀ r0 r1, Q1 r0 r1 → Q2 r0 r1) : w_areApart_62b R21 R621 Q1 x1 x2 x3 u → pw_areApart_62b R22 R622 Q2 x1 x2 x3 u := (rd_wp fun _ => (br_wp (ov_wp (hR2 _ _ _)) (bd_wp (rd_wp fun _ => (bd_wp (rd_wp fun _ => (wp_w_lengthOf (fun _ _ => (wp_w_areApart_90 hR2 hR62 hQ)))))))))
def pw_areApart_62 (R2 : Int → Int → iST → Prop) (Q : Int → iST → Prop) (x1 : Int) (x2 : Int) (x3 : Int) (u : iST) : Prop := ∃ R62 : Int → Int → Int → iST → Prop, (∀ (x1 : Int) (x2 : Int) (x3 : Int) (u : iST), R62 x1 x2 x3 u → pw_areApart_62b R2 R62 Q x1 x2 x3 u) ∧ R62 x1 x2 x3 u
theorem cj_w_areApart_62 {Q1 Q2 Q3 : Int → iST → Prop} {R21 R22 R23 : Int → Int → iST → Prop} {x1 : Int} {x2 : Int} {x3 : Int} {u : iST} (hR2 : ∀ r0 r1 r2, R21 r0 r1 r2 → R22 r0 r1 r2 → R23 r0 r1 r2) (hQ : ∀ r0 r1, Q1 r0 r1 → Q2 r0 r1 → Q3 r0 r1) : w_areApart_62 R21 Q1 x1 x2 x3 u → pw_areApart_62 R22 Q2 x1 x2 x3 u → w_areApart_62 R23 Q3 x1 x2 x3 u := by
  intro a b R3 c3
  obtain ⟨R2, c2, b2⟩ := b
  exact a (fun r0 r1 r2 r3 => R2 r0 r1 r2 r3 → R3 r0 r1 r2 r3) (fun r0 r1 r2 r3 a b => c3 r0 r1 r2 r3 (cj_w_areApart_62b hR2 (fun r0 r1 r2 r3 a b => a b) hQ a (c2 r0 r1 r2 r3 b))) b2
theorem pw_areApart_62_i {R2 : Int → Int → iST → Prop} {Q : Int → iST → Prop} {x1 : Int} {x2 : Int} {x3 : Int} {u : iST} (I : Int → Int → Int → iST → Prop) (s : ∀ (x1 : Int) (x2 : Int) (x3 : Int) (u : iST), I x1 x2 x3 u → pw_areApart_62b R2 I Q x1 x2 x3 u) (h : I x1 x2 x3 u) : pw_areApart_62 R2 Q x1 x2 x3 u := ⟨I, s, h⟩
theorem mn_w_areApart_62 {Q1 Q2 : Int → iST → Prop} {R21 R22 : Int → Int → iST → Prop} {x1 : Int} {x2 : Int} {x3 : Int} {u : iST} (hR2 : ∀ r0 r1 r2, R21 r0 r1 r2 → R22 r0 r1 r2) (hQ : ∀ r0 r1, Q1 r0 r1 → Q2 r0 r1) : pw_areApart_62 R21 Q1 x1 x2 x3 u → pw_areApart_62 R22 Q2 x1 x2 x3 u := fun ⟨R, s, h⟩ => ⟨R, fun r0 r1 r2 r3 a => mn_w_areApart_62b hR2 (fun r0 r1 r2 r3 a => a) hQ (s r0 r1 r2 r3 a), h⟩
theorem un_w_areApart_62 {R2 : Int → Int → iST → Prop} {Q : Int → iST → Prop} {x1 : Int} {x2 : Int} {x3 : Int} {u : iST} : pw_areApart_62 R2 Q x1 x2 x3 u → pw_areApart_62b R2 (fun x1 x2 x3 u => pw_areApart_62 R2 Q x1 x2 x3 u) Q x1 x2 x3 u := fun ⟨R, s, h⟩ => mn_w_areApart_62b (fun _ _ _ h => h) (fun r0 r1 r2 r3 a => ⟨R, s, a⟩) (fun _ _ h => h) (s _ _ _ _ h)
theorem fo_w_areApart_62 {R2 : Int → Int → iST → Prop} {Q : Int → iST → Prop} {x1 : Int} {x2 : Int} {x3 : Int} {u : iST} : pw_areApart_62b R2 (fun x1 x2 x3 u => pw_areApart_62 R2 Q x1 x2 x3 u) Q x1 x2 x3 u → pw_areApart_62 R2 Q x1 x2 x3 u := fun h => ⟨fun x1 x2 x3 u => pw_areApart_62b R2 (fun x1 x2 x3 u => pw_areApart_62 R2 Q x1 x2 x3 u) Q x1 x2 x3 u, fun r0 r1 r2 r3 a => mn_w_areApart_62b (fun _ _ _ h => h) (fun r0 r1 r2 r3 a => un_w_areApart_62 a) (fun _ _ h => h) a, h⟩
theorem wp_w_areApart_62 {Q1 Q2 : Int → iST → Prop} {R21 R22 : Int → Int → iST → Prop} {x1 : Int} {x2 : Int} {x3 : Int} {u : iST} (hR2 : ∀ r0 r1 r2, R21 r0 r1 r2 → R22 r0 r1 r2) (hQ : ∀ r0 r1, Q1 r0 r1 → Q2 r0 r1) : w_areApart_62 R21 Q1 x1 x2 x3 u → pw_areApart_62 R22 Q2 x1 x2 x3 u := fun a => a (fun x1 x2 x3 u => pw_areApart_62 R22 Q2 x1 x2 x3 u) (fun x1 x2 x3 u b => fo_w_areApart_62 (wp_w_areApart_62b hR2 (fun r0 r1 r2 r3 a => a) hQ b))
def pw_areApart_12b (R2 : Int → Int → iST → Prop) (R12 : Int → Int → Int → iST → Prop) (Q : Int → iST → Prop) (x1 : Int) (x2 : Int) (x3 : Int) (u : iST) : Prop :=
  bdp x2 128 (rd (u.2.1 125 x2) (fun v2 => 
  br (v2 ≤ x3) (
    bdp x2 128 (rd (u.2.1 123 x2) (fun v3 => 
    pw_find v3 x1 (fun u => 
    pw_areApart_62 R2 Q x1 x2 0 u) u))) (
    ovp (64 * x2) (
    ovp ((64 * x2) + x3) (
    bdp ((64 * x2) + x3) 8192 (rd (u.2.1 124 ((64 * x2) + x3)) (fun v17 => 
    pw_hasCall v17 x1 (fun v18 u => 
    br (v18 = 0) (
      ovp (x3 + 1) (
      R12 x1 x2 (x3 + 1) u)) (
      ztp 0 (Q 0 u))) u)))))))
theorem cj_w_areApart_12b {Q1 Q2 Q3 : Int → iST → Prop} {R21 R22 R23 : Int → Int → iST → Prop} {R121 R122 R123 : Int → Int → Int → iST → Prop} {x1 : Int} {x2 : Int} {x3 : Int} {u : iST} (hR2 : ∀ r0 r1 r2, R21 r0 r1 r2 → R22 r0 r1 r2 → R23 r0 r1 r2) (hR12 : ∀ r0 r1 r2 r3, R121 r0 r1 r2 r3 → R122 r0 r1 r2 r3 → R123 r0 r1 r2 r3) (hQ : ∀ r0 r1, Q1 r0 r1 → Q2 r0 r1 → Q3 r0 r1) : w_areApart_12b R21 R121 Q1 x1 x2 x3 u → pw_areApart_12b R22 R122 Q2 x1 x2 x3 u → w_areApart_12b R23 R123 Q3 x1 x2 x3 u := (bd_cj (rd_cj fun _ => (br_cj (bd_cj (rd_cj fun _ => (cj_w_find (fun _ => (cj_w_areApart_62 hR2 hQ))))) (ov_cj (ov_cj (bd_cj (rd_cj fun _ => (cj_w_hasCall (fun _ _ => (br_cj (ov_cj (hR12 _ _ _ _)) (zt_cj (hQ _ _))))))))))))
theorem mn_w_areApart_12b {Q1 Q2 : Int → iST → Prop} {R21 R22 : Int → Int → iST → Prop} {R121 R122 : Int → Int → Int → iST → Prop} {x1 : Int} {x2 : Int} {x3 : Int} {u : iST} (hR2 : ∀ r0 r1 r2, R21 r0 r1 r2 → R22 r0 r1 r2) (hR12 : ∀ r0 r1 r2 r3, R121 r0 r1 r2 r3 → R122 r0 r1 r2 r3) (hQ : ∀ r0 r1, Q1 r0 r1 → Q2 r0 r1) : pw_areApart_12b R21 R121 Q1 x1 x2 x3 u → pw_areApart_12b R22 R122 Q2 x1 x2 x3 u := (bd_mn (rd_mn fun _ => (br_mn (bd_mn (rd_mn fun _ => (mn_w_find (fun _ => (mn_w_areApart_62 hR2 hQ))))) (ov_mn (ov_mn (bd_mn (rd_mn fun _ => (mn_w_hasCall (fun _ _ => (br_mn (ov_mn (hR12 _ _ _ _)) (zt_mn (hQ _ _))))))))))))
theorem wp_w_areApart_12b {Q1 Q2 : Int → iST → Prop} {R21 R22 : Int → Int → iST → Prop} {R121 R122 : Int → Int → Int → iST → Prop} {x1 : Int} {x2 : Int} {x3 : Int} {u : iST} (hR2 : ∀ r0 r1 r2, R21 r0 r1 r2 → R22 r0 r1 r2) (hR12 : ∀ r0 r1 r2 r3, R121 r0 r1 r2 r3 → R122 r0 r1 r2 r3) (hQ : ∀ r0 r1, Q1 r0 r1 → Q2 r0 r1) : w_areApart_12b R21 R121 Q1 x1 x2 x3 u → pw_areApart_12b R22 R122 Q2 x1 x2 x3 u := (bd_wp (rd_wp fun _ => (br_wp (bd_wp (rd_wp fun _ => (wp_w_find (fun _ => (wp_w_areApart_62 hR2 hQ))))) (ov_wp (ov_wp (bd_wp (rd_wp fun _ => (wp_w_hasCall (fun _ _ => (br_wp (ov_wp (hR12 _ _ _ _)) (zt_wp (hQ _ _))))))))))))
def pw_areApart_12 (R2 : Int → Int → iST → Prop) (Q : Int → iST → Prop) (x1 : Int) (x2 : Int) (x3 : Int) (u : iST) : Prop := ∃ R12 : Int → Int → Int → iST → Prop, (∀ (x1 : Int) (x2 : Int) (x3 : Int) (u : iST), R12 x1 x2 x3 u → pw_areApart_12b R2 R12 Q x1 x2 x3 u) ∧ R12 x1 x2 x3 u
theorem cj_w_areApart_12 {Q1 Q2 Q3 : Int → iST → Prop} {R21 R22 R23 : Int → Int → iST → Prop} {x1 : Int} {x2 : Int} {x3 : Int} {u : iST} (hR2 : ∀ r0 r1 r2, R21 r0 r1 r2 → R22 r0 r1 r2 → R23 r0 r1 r2) (hQ : ∀ r0 r1, Q1 r0 r1 → Q2 r0 r1 → Q3 r0 r1) : w_areApart_12 R21 Q1 x1 x2 x3 u → pw_areApart_12 R22 Q2 x1 x2 x3 u → w_areApart_12 R23 Q3 x1 x2 x3 u := by
  intro a b R3 c3
  obtain ⟨R2, c2, b2⟩ := b
  exact a (fun r0 r1 r2 r3 => R2 r0 r1 r2 r3 → R3 r0 r1 r2 r3) (fun r0 r1 r2 r3 a b => c3 r0 r1 r2 r3 (cj_w_areApart_12b hR2 (fun r0 r1 r2 r3 a b => a b) hQ a (c2 r0 r1 r2 r3 b))) b2
theorem pw_areApart_12_i {R2 : Int → Int → iST → Prop} {Q : Int → iST → Prop} {x1 : Int} {x2 : Int} {x3 : Int} {u : iST} (I : Int → Int → Int → iST → Prop) (s : ∀ (x1 : Int) (x2 : Int) (x3 : Int) (u : iST), I x1 x2 x3 u → pw_areApart_12b R2 I Q x1 x2 x3 u) (h : I x1 x2 x3 u) : pw_areApart_12 R2 Q x1 x2 x3 u := ⟨I, s, h⟩
theorem mn_w_areApart_12 {Q1 Q2 : Int → iST → Prop} {R21 R22 : Int → Int → iST → Prop} {x1 : Int} {x2 : Int} {x3 : Int} {u : iST} (hR2 : ∀ r0 r1 r2, R21 r0 r1 r2 → R22 r0 r1 r2) (hQ : ∀ r0 r1, Q1 r0 r1 → Q2 r0 r1) : pw_areApart_12 R21 Q1 x1 x2 x3 u → pw_areApart_12 R22 Q2 x1 x2 x3 u := fun ⟨R, s, h⟩ => ⟨R, fun r0 r1 r2 r3 a => mn_w_areApart_12b hR2 (fun r0 r1 r2 r3 a => a) hQ (s r0 r1 r2 r3 a), h⟩
theorem un_w_areApart_12 {R2 : Int → Int → iST → Prop} {Q : Int → iST → Prop} {x1 : Int} {x2 : Int} {x3 : Int} {u : iST} : pw_areApart_12 R2 Q x1 x2 x3 u → pw_areApart_12b R2 (fun x1 x2 x3 u => pw_areApart_12 R2 Q x1 x2 x3 u) Q x1 x2 x3 u := fun ⟨R, s, h⟩ => mn_w_areApart_12b (fun _ _ _ h => h) (fun r0 r1 r2 r3 a => ⟨R, s, a⟩) (fun _ _ h => h) (s _ _ _ _ h)
theorem fo_w_areApart_12 {R2 : Int → Int → iST → Prop} {Q : Int → iST → Prop} {x1 : Int} {x2 : Int} {x3 : Int} {u : iST} : pw_areApart_12b R2 (fun x1 x2 x3 u => pw_areApart_12 R2 Q x1 x2 x3 u) Q x1 x2 x3 u → pw_areApart_12 R2 Q x1 x2 x3 u := fun h => ⟨fun x1 x2 x3 u => pw_areApart_12b R2 (fun x1 x2 x3 u => pw_areApart_12 R2 Q x1 x2 x3 u) Q x1 x2 x3 u, fun r0 r1 r2 r3 a => mn_w_areApart_12b (fun _ _ _ h => h) (fun r0 r1 r2 r3 a => un_w_areApart_12 a) (fun _ _ h => h) a, h⟩
theorem wp_w_areApart_12 {Q1 Q2 : Int → iST → Prop} {R21 R22 : Int → Int → iST → Prop} {x1 : Int} {x2 : Int} {x3 : Int} {u : iST} (hR2 : ∀ r0 r1 r2, R21 r0 r1 r2 → R22 r0 r1 r2) (hQ : ∀ r0 r1, Q1 r0 r1 → Q2 r0 r1) : w_areApart_12 R21 Q1 x1 x2 x3 u → pw_areApart_12 R22 Q2 x1 x2 x3 u := fun a => a (fun x1 x2 x3 u => pw_areApart_12 R22 Q2 x1 x2 x3 u) (fun x1 x2 x3 u b => fo_w_areApart_12 (wp_w_areApart_12b hR2 (fun r0 r1 r2 r3 a => a) hQ b))
def pw_areApart_2b (R2 : Int → Int → iST → Prop) (Q : Int → iST → Prop) (x1 : Int) (x2 : Int) (u : iST) : Prop :=
  rd (u.1 126) (fun v1 => 
  br (v1 ≤ x2) (
    ztp 1 (Q 1 u)) (
    pw_areApart_12 R2 Q x1 x2 0 u))
theorem cj_w_areApart_2b {Q1 Q2 Q3 : Int → iST → Prop} {R21 R22 R23 : Int → Int → iST → Prop} {x1 : Int} {x2 : Int} {u : iST} (hR2 : ∀ r0 r1 r2, R21 r0 r1 r2 → R22 r0 r1 r2 → R23 r0 r1 r2) (hQ : ∀ r0 r1, Q1 r0 r1 → Q2 r0 r1 → Q3 r0 r1) : w_areApart_2b R21 Q1 x1 x2 u → pw_areApart_2b R22 Q2 x1 x2 u → w_areApart_2b R23 Q3 x1 x2 u := (rd_cj fun _ => (br_cj (zt_cj (hQ _ _)) (cj_w_areApart_12 hR2 hQ)))
theorem mn_w_areApart_2b {Q1 Q2 : Int → iST → Prop} {R21 R22 : Int → Int → iST → Prop} {x1 : Int} {x2 : Int} {u : iST} (hR2 : ∀ r0 r1 r2, R21 r0 r1 r2 → R22 r0 r1 r2) (hQ : ∀ r0 r1, Q1 r0 r1 → Q2 r0 r1) : pw_areApart_2b R21 Q1 x1 x2 u → pw_areApart_2b R22 Q2 x1 x2 u := (rd_mn fun _ => (br_mn (zt_mn (hQ _ _)) (mn_w_areApart_12 hR2 hQ)))
theorem wp_w_areApart_2b {Q1 Q2 : Int → iST → Prop} {R21 R22 : Int → Int → iST → Prop} {x1 : Int} {x2 : Int} {u : iST} (hR2 : ∀ r0 r1 r2, R21 r0 r1 r2 → R22 r0 r1 r2) (hQ : ∀ r0 r1, Q1 r0 r1 → Q2 r0 r1) : w_areApart_2b R21 Q1 x1 x2 u → pw_areApart_2b R22 Q2 x1 x2 u := (rd_wp fun _ => (br_wp (zt_wp (hQ _ _)) (wp_w_areApart_12 hR2 hQ)))
def pw_areApart_2 (Q : Int → iST → Prop) (x1 : Int) (x2 : Int) (u : iST) : Prop := ∃ R2 : Int → Int → iST → Prop, (∀ (x1 : Int) (x2 : Int) (u : iST), R2 x1 x2 u → pw_areApart_2b R2 Q x1 x2 u) ∧ R2 x1 x2 u
theorem cj_w_areApart_2 {Q1 Q2 Q3 : Int → iST → Prop}  {x1 : Int} {x2 : Int} {u : iST} (hQ : ∀ r0 r1, Q1 r0 r1 → Q2 r0 r1 → Q3 r0 r1) : w_areApart_2 Q1 x1 x2 u → pw_areApart_2 Q2 x1 x2 u → w_areApart_2 Q3 x1 x2 u := by
  intro a b R3 c3
  obtain ⟨R2, c2, b2⟩ := b
  exact a (fun r0 r1 r2 => R2 r0 r1 r2 → R3 r0 r1 r2) (fun r0 r1 r2 a b => c3 r0 r1 r2 (cj_w_areApart_2b (fun r0 r1 r2 a b => a b) hQ a (c2 r0 r1 r2 b))) b2
theorem pw_areApart_2_i  {Q : Int → iST → Prop} {x1 : Int} {x2 : Int} {u : iST} (I : Int → Int → iST → Prop) (s : ∀ (x1 : Int) (x2 : Int) (u : iST), I x1 x2 u → pw_areApart_2b I Q x1 x2 u) (h : I x1 x2 u) : pw_areApart_2 Q x1 x2 u := ⟨I, s, h⟩
theorem mn_w_areApart_2 {Q1 Q2 : Int → iST → Prop}  {x1 : Int} {x2 : Int} {u : iST} (hQ : ∀ r0 r1, Q1 r0 r1 → Q2 r0 r1) : pw_areApart_2 Q1 x1 x2 u → pw_areApart_2 Q2 x1 x2 u := fun ⟨R, s, h⟩ => ⟨R, fun r0 r1 r2 a => mn_w_areApart_2b (fun r0 r1 r2 a => a) hQ (s r0 r1 r2 a), h⟩
theorem un_w_areApart_2  {Q : Int → iST → Prop} {x1 : Int} {x2 : Int} {u : iST} : pw_areApart_2 Q x1 x2 u → pw_areApart_2b (fun x1 x2 u => pw_areApart_2 Q x1 x2 u) Q x1 x2 u := fun ⟨R, s, h⟩ => mn_w_areApart_2b (fun r0 r1 r2 a => ⟨R, s, a⟩) (fun _ _ h => h) (s _ _ _ h)
theorem fo_w_areApart_2  {Q : Int → iST → Prop} {x1 : Int} {x2 : Int} {u : iST} : pw_areApart_2b (fun x1 x2 u => pw_areApart_2 Q x1 x2 u) Q x1 x2 u → pw_areApart_2 Q x1 x2 u := fun h => ⟨fun x1 x2 u => pw_areApart_2b (fun x1 x2 u => pw_areApart_2 Q x1 x2 u) Q x1 x2 u, fun r0 r1 r2 a => mn_w_areApart_2b (fun r0 r1 r2 a => un_w_areApart_2 a) (fun _ _ h => h) a, h⟩
theorem wp_w_areApart_2 {Q1 Q2 : Int → iST → Prop}  {x1 : Int} {x2 : Int} {u : iST} (hQ : ∀ r0 r1, Q1 r0 r1 → Q2 r0 r1) : w_areApart_2 Q1 x1 x2 u → pw_areApart_2 Q2 x1 x2 u := fun a => a (fun x1 x2 u => pw_areApart_2 Q2 x1 x2 u) (fun x1 x2 u b => fo_w_areApart_2 (wp_w_areApart_2b (fun r0 r1 r2 a => a) hQ b))
def pw_areApart (a0 : Int) (Q : Int → iST → Prop) (u : iST) : Prop :=
  pw_areApart_2 Q a0 0 u
theorem cj_w_areApart {Q1 Q2 Q3 : Int → iST → Prop}  {a0 : Int} {u : iST} (hQ : ∀ r0 r1, Q1 r0 r1 → Q2 r0 r1 → Q3 r0 r1) : w_areApart a0 Q1 u → pw_areApart a0 Q2 u → w_areApart a0 Q3 u := (cj_w_areApart_2  hQ)
theorem mn_w_areApart {Q1 Q2 : Int → iST → Prop}  {a0 : Int} {u : iST} (hQ : ∀ r0 r1, Q1 r0 r1 → Q2 r0 r1) : pw_areApart a0 Q1 u → pw_areApart a0 Q2 u := (mn_w_areApart_2  hQ)
theorem wp_w_areApart {Q1 Q2 : Int → iST → Prop}  {a0 : Int} {u : iST} (hQ : ∀ r0 r1, Q1 r0 r1 → Q2 r0 r1) : w_areApart a0 Q1 u → pw_areApart a0 Q2 u := (wp_w_areApart_2  hQ)
def pw_measureRows_106b (R10 : Int → Int → Int → Int → Int → iST → Prop) (R34 : Int → Int → Int → Int → Int → Int → iST → Prop) (R106 : Int → Int → Int → Int → Int → Int → Int → iST → Prop) (Q : iST → Prop) (x1 : Int) (x2 : Int) (x3 : Int) (x4 : Int) (x5 : Int) (x6 : Int) (x7 : Int) (u : iST) : Prop :=
  br (x4 ≤ x7) (
    pw_instance x3 (fun v10 u => 
    pw_made2 9 v10 x3 (fun v11 u => 
    pw_put v11 (fun u => 
    pw_row 0 (fun v13 u => 
    ovp (x6 + 1) (
    R34 x1 x2 x3 x4 x5 (x6 + 1) u)) u) u) u) u) (
    pw_nth x2 x7 (fun v15 u => 
    bdp x7 400 (sw (iA u 72 x7 v15) (fun u => 
    bdp x6 130 (rd (u.2.1 130 x6) (fun v16 => 
    ovp (x7 + 1) (
    pw_term v16 (x7 + 1) (fun v18 u => 
    bdp x7 400 (sw (iA u 73 x7 v18) (fun u => 
    ovp (x7 + 1) (
    R106 x1 x2 x3 x4 x5 x6 (x7 + 1) u)))) u)))))) u)
theorem cj_w_measureRows_106b {Q1 Q2 Q3 : iST → Prop} {R101 R102 R103 : Int → Int → Int → Int → Int → iST → Prop} {R341 R342 R343 : Int → Int → Int → Int → Int → Int → iST → Prop} {R1061 R1062 R1063 : Int → Int → Int → Int → Int → Int → Int → iST → Prop} {x1 : Int} {x2 : Int} {x3 : Int} {x4 : Int} {x5 : Int} {x6 : Int} {x7 : Int} {u : iST} (hR10 : ∀ r0 r1 r2 r3 r4 r5, R101 r0 r1 r2 r3 r4 r5 → R102 r0 r1 r2 r3 r4 r5 → R103 r0 r1 r2 r3 r4 r5) (hR34 : ∀ r0 r1 r2 r3 r4 r5 r6, R341 r0 r1 r2 r3 r4 r5 r6 → R342 r0 r1 r2 r3 r4 r5 r6 → R343 r0 r1 r2 r3 r4 r5 r6) (hR106 : ∀ r0 r1 r2 r3 r4 r5 r6 r7, R1061 r0 r1 r2 r3 r4 r5 r6 r7 → R1062 r0 r1 r2 r3 r4 r5 r6 r7 → R1063 r0 r1 r2 r3 r4 r5 r6 r7) (hQ : ∀ r0, Q1 r0 → Q2 r0 → Q3 r0) : w_measureRows_106b R101 R341 R1061 Q1 x1 x2 x3 x4 x5 x6 x7 u → pw_measureRows_106b R102 R342 R1062 Q2 x1 x2 x3 x4 x5 x6 x7 u → w_measureRows_106b R103 R343 R1063 Q3 x1 x2 x3 x4 x5 x6 x7 u := (br_cj (cj_w_instance (fun _ _ => (cj_w_made2 (fun _ _ => (cj_w_put (fun _ => (cj_w_row (fun _ _ => (ov_cj (hR34 _ _ _ _ _ _ _)))))))))) (cj_w_nth (fun _ _ => (bd_cj (sw_cj fun _ => (bd_cj (rd_cj fun _ => (ov_cj (cj_w_term (fun _ _ => (bd_cj (sw_cj fun _ => (ov_cj (hR106 _ _ _ _ _ _ _ _))))))))))))))
theorem mn_w_measureRows_106b {Q1 Q2 : iST → Prop} {R101 R102 : Int → Int → Int → Int → Int → iST → Prop} {R341 R342 : Int → Int → Int → Int → Int → Int → iST → Prop} {R1061 R1062 : Int → Int → Int → Int → Int → Int → Int → iST → Prop} {x1 : Int} {x2 : Int} {x3 : Int} {x4 : Int} {x5 : Int} {x6 : Int} {x7 : Int} {u : iST} (hR10 : ∀ r0 r1 r2 r3 r4 r5, R101 r0 r1 r2 r3 r4 r5 → R102 r0 r1 r2 r3 r4 r5) (hR34 : ∀ r0 r1 r2 r3 r4 r5 r6, R341 r0 r1 r2 r3 r4 r5 r6 → R342 r0 r1 r2 r3 r4 r5 r6) (hR106 : ∀ r0 r1 r2 r3 r4 r5 r6 r7, R1061 r0 r1 r2 r3 r4 r5 r6 r7 → R1062 r0 r1 r2 r3 r4 r5 r6 r7) (hQ : ∀ r0, Q1 r0 → Q2 r0) : pw_measureRows_106b R101 R341 R1061 Q1 x1 x2 x3 x4 x5 x6 x7 u → pw_measureRows_106b R102 R342 R1062 Q2 x1 x2 x3 x4 x5 x6 x7 u := (br_mn (mn_w_instance (fun _ _ => (mn_w_made2 (fun _ _ => (mn_w_put (fun _ => (mn_w_row (fun _ _ => (ov_mn (hR34 _ _ _ _ _ _ _)))))))))) (mn_w_nth (fun _ _ => (bd_mn (sw_mn fun _ => (bd_mn (rd_mn fun _ => (ov_mn (mn_w_term (fun _ _ => (bd_mn (sw_mn fun _ => (ov_mn (hR106 _ _ _ _ _ _ _ _))))))))))))))
theorem wp_w_measureRows_106b {Q1 Q2 : iST → Prop} {R101 R102 : Int → Int → Int → Int → Int → iST → Prop} {R341 R342 : Int → Int → Int → Int → Int → Int → iST → Prop} {R1061 R1062 : Int → Int → Int → Int → Int → Int → Int → iST → Prop} {x1 : Int} {x2 : Int} {x3 : Int} {x4 : Int} {x5 : Int} {x6 : Int} {x7 : Int} {u : iST} (hR10 : ∀ r0 r1 r2 r3 r4 r5, R101 r0 r1 r2 r3 r4 r5 → R102 r0 r1 r2 r3 r4 r5) (hR34 : ∀ r0 r1 r2 r3 r4 r5 r6, R341 r0 r1 r2 r3 r4 r5 r6 → R342 r0 r1 r2 r3 r4 r5 r6) (hR106 : ∀ r0 r1 r2 r3 r4 r5 r6 r7, R1061 r0 r1 r2 r3 r4 r5 r6 r7 → R1062 r0 r1 r2 r3 r4 r5 r6 r7) (hQ : ∀ r0, Q1 r0 → Q2 r0) : w_measureRows_106b R101 R341 R1061 Q1 x1 x2 x3 x4 x5 x6 x7 u → pw_measureRows_106b R102 R342 R1062 Q2 x1 x2 x3 x4 x5 x6 x7 u := (br_wp (wp_w_instance (fun _ _ => (wp_w_made2 (fun _ _ => (wp_w_put (fun _ => (wp_w_row (fun _ _ => (ov_wp (hR34 _ _ _ _ _ _ _)))))))))) (wp_w_nth (fun _ _ => (bd_wp (sw_wp fun _ => (bd_wp (rd_wp fun _ => (ov_wp (wp_w_term (fun _ _ => (bd_wp (sw_wp fun _ => (ov_wp (hR106 _ _ _ _ _ _ _ _))))))))))))))
def pw_measureRows_106 (R10 : Int → Int → Int → Int → Int → iST → Prop) (R34 : Int → Int → Int → Int → Int → Int → iST → Prop) (Q : iST → Prop) (x1 : Int) (x2 : Int) (x3 : Int) (x4 : Int) (x5 : Int) (x6 : Int) (x7 : Int) (u : iST) : Prop := ∃ R106 : Int → Int → Int → Int → Int → Int → Int → iST → Prop, (∀ (x1 : Int) (x2 : Int) (x3 : Int) (x4 : Int) (x5 : Int) (x6 : Int) (x7 : Int) (u : iST), R106 x1 x2 x3 x4 x5 x6 x7 u → pw_measureRows_106b R10 R34 R106 Q x1 x2 x3 x4 x5 x6 x7 u) ∧ R106 x1 x2 x3 x4 x5 x6 x7 u
theorem cj_w_measureRows_106 {Q1 Q2 Q3 : iST → Prop} {R101 R102 R103 : Int → Int → Int → Int → Int → iST → Prop} {R341 R342 R343 : Int → Int → Int → Int → Int → Int → iST → Prop} {x1 : Int} {x2 : Int} {x3 : Int} {x4 : Int} {x5 : Int} {x6 : Int} {x7 : Int} {u : iST} (hR10 : ∀ r0 r1 r2 r3 r4 r5, R101 r0 r1 r2 r3 r4 r5 → R102 r0 r1 r2 r3 r4 r5 → R103 r0 r1 r2 r3 r4 r5) (hR34 : ∀ r0 r1 r2 r3 r4 r5 r6, R341 r0 r1 r2 r3 r4 r5 r6 → R342 r0 r1 r2 r3 r4 r5 r6 → R343 r0 r1 r2 r3 r4 r5 r6) (hQ : ∀ r0, Q1 r0 → Q2 r0 → Q3 r0) : w_measureRows_106 R101 R341 Q1 x1 x2 x3 x4 x5 x6 x7 u → pw_measureRows_106 R102 R342 Q2 x1 x2 x3 x4 x5 x6 x7 u → w_measureRows_106 R103 R343 Q3 x1 x2 x3 x4 x5 x6 x7 u := by
  intro a b R3 c3
  obtain ⟨R2, c2, b2⟩ := b
  exact a (fun r0 r1 r2 r3 r4 r5 r6 r7 => R2 r0 r1 r2 r3 r4 r5 r6 r7 → R3 r0 r1 r2 r3 r4 r5 r6 r7) (fun r0 r1 r2 r3 r4 r5 r6 r7 a b => c3 r0 r1 r2 r3 r4 r5 r6 r7 (cj_w_measureRows_106b hR10 hR34 (fun r0 r1 r2 r3 r4 r5 r6 r7 a b => a b) hQ a (c2 r0 r1 r2 r3 r4 r5 r6 r7 b))) b2
theorem pw_measureRows_106_i {R10 : Int → Int → Int → Int → Int → iST → Prop} {R34 : Int → Int → Int → Int → Int → Int → iST → Prop} {Q : iST → Prop} {x1 : Int} {x2 : Int} {x3 : Int} {x4 : Int} {x5 : Int} {x6 : Int} {x7 : Int} {u : iST} (I : Int → Int → Int → Int → Int → Int → Int → iST → Prop) (s : ∀ (x1 : Int) (x2 : Int) (x3 : Int) (x4 : Int) (x5 : Int) (x6 : Int) (x7 : Int) (u : iST), I x1 x2 x3 x4 x5 x6 x7 u → pw_measureRows_106b R10 R34 I Q x1 x2 x3 x4 x5 x6 x7 u) (h : I x1 x2 x3 x4 x5 x6 x7 u) : pw_measureRows_106 R10 R34 Q x1 x2 x3 x4 x5 x6 x7 u := ⟨I, s, h⟩
theorem mn_w_measureRows_106 {Q1 Q2 : iST → Prop} {R101 R102 : Int → Int → Int → Int → Int → iST → Prop} {R341 R342 : Int → Int → Int → Int → Int → Int → iST → Prop} {x1 : Int} {x2 : Int} {x3 : Int} {x4 : Int} {x5 : Int} {x6 : Int} {x7 : Int} {u : iST} (hR10 : ∀ r0 r1 r2 r3 r4 r5, R101 r0 r1 r2 r3 r4 r5 → R102 r0 r1 r2 r3 r4 r5) (hR34 : ∀ r0 r1 r2 r3 r4 r5 r6, R341 r0 r1 r2 r3 r4 r5 r6 → R342 r0 r1 r2 r3 r4 r5 r6) (hQ : ∀ r0, Q1 r0 → Q2 r0) : pw_measureRows_106 R101 R341 Q1 x1 x2 x3 x4 x5 x6 x7 u → pw_measureRows_106 R102 R342 Q2 x1 x2 x3 x4 x5 x6 x7 u := fun ⟨R, s, h⟩ => ⟨R, fun r0 r1 r2 r3 r4 r5 r6 r7 a => mn_w_measureRows_106b hR10 hR34 (fun r0 r1 r2 r3 r4 r5 r6 r7 a => a) hQ (s r0 r1 r2 r3 r4 r5 r6 r7 a), h⟩
theorem un_w_measureRows_106 {R10 : Int → Int → Int → Int → Int → iST → Prop} {R34 : Int → Int → Int → Int → Int → Int → iST → Prop} {Q : iST → Prop} {x1 : Int} {x2 : Int} {x3 : Int} {x4 : Int} {x5 : Int} {x6 : Int} {x7 : Int} {u : iST} : pw_measureRows_106 R10 R34 Q x1 x2 x3 x4 x5 x6 x7 u → pw_measureRows_106b R10 R34 (fun x1 x2 x3 x4 x5 x6 x7 u => pw_measureRows_106 R10 R34 Q x1 x2 x3 x4 x5 x6 x7 u) Q x1 x2 x3 x4 x5 x6 x7 u := fun ⟨R, s, h⟩ => mn_w_measureRows_106b (fun _ _ _ _ _ _ h => h) (fun _ _ _ _ _ _ _ h => h) (fun r0 r1 r2 r3 r4 r5 r6 r7 a => ⟨R, s, a⟩) (fun _ h => h) (s _ _ _ _ _ _ _ _ h)
theorem fo_w_measureRows_106 {R10 : Int → Int → Int → Int → Int → iST → Prop} {R34 : Int → Int → Int → Int → Int → Int → iST → Prop} {Q : iST → Prop} {x1 : Int} {x2 : Int} {x3 : Int} {x4 : Int} {x5 : Int} {x6 : Int} {x7 : Int} {u : iST} : pw_measureRows_106b R10 R34 (fun x1 x2 x3 x4 x5 x6 x7 u => pw_measureRows_106 R10 R34 Q x1 x2 x3 x4 x5 x6 x7 u) Q x1 x2 x3 x4 x5 x6 x7 u → pw_measureRows_106 R10 R34 Q x1 x2 x3 x4 x5 x6 x7 u := fun h => ⟨fun x1 x2 x3 x4 x5 x6 x7 u => pw_measureRows_106b R10 R34 (fun x1 x2 x3 x4 x5 x6 x7 u => pw_measureRows_106 R10 R34 Q x1 x2 x3 x4 x5 x6 x7 u) Q x1 x2 x3 x4 x5 x6 x7 u, fun r0 r1 r2 r3 r4 r5 r6 r7 a => mn_w_measureRows_106b (fun _ _ _ _ _ _ h => h) (fun _ _ _ _ _ _ _ h => h) (fun r0 r1 r2 r3 r4 r5 r6 r7 a => un_w_measureRows_106 a) (fun _ h => h) a, h⟩
theorem wp_w_measureRows_106 {Q1 Q2 : iST → Prop} {R101 R102 : Int → Int → Int → Int → Int → iST → Prop} {R341 R342 : Int → Int → Int → Int → Int → Int → iST → Prop} {x1 : Int} {x2 : Int} {x3 : Int} {x4 : Int} {x5 : Int} {x6 : Int} {x7 : Int} {u : iST} (hR10 : ∀ r0 r1 r2 r3 r4 r5, R101 r0 r1 r2 r3 r4 r5 → R102 r0 r1 r2 r3 r4 r5) (hR34 : ∀ r0 r1 r2 r3 r4 r5 r6, R341 r0 r1 r2 r3 r4 r5 r6 → R342 r0 r1 r2 r3 r4 r5 r6) (hQ : ∀ r0, Q1 r0 → Q2 r0) : w_measureRows_106 R101 R341 Q1 x1 x2 x3 x4 x5 x6 x7 u → pw_measureRows_106 R102 R342 Q2 x1 x2 x3 x4 x5 x6 x7 u := fun a => a (fun x1 x2 x3 x4 x5 x6 x7 u => pw_measureRows_106 R102 R342 Q2 x1 x2 x3 x4 x5 x6 x7 u) (fun x1 x2 x3 x4 x5 x6 x7 u b => fo_w_measureRows_106 (wp_w_measureRows_106b hR10 hR34 (fun r0 r1 r2 r3 r4 r5 r6 r7 a => a) hQ b))
def pw_measureRows_58b (R10 : Int → Int → Int → Int → Int → iST → Prop) (R34 : Int → Int → Int → Int → Int → Int → iST → Prop) (R58 : Int → Int → Int → Int → Int → Int → Int → iST → Prop) (Q : iST → Prop) (x1 : Int) (x2 : Int) (x3 : Int) (x4 : Int) (x5 : Int) (x6 : Int) (x7 : Int) (u : iST) : Prop :=
  bdp x5 128 (rd (u.2.1 125 x5) (fun v9 => 
  br (v9 ≤ x7) (
    sw (iI u 74 x4) (fun u => 
    pw_measureRows_106 R10 R34 Q x1 x2 x3 x4 x5 x6 0 u)) (
    ovp (64 * x5) (
    ovp ((64 * x5) + x7) (
    bdp ((64 * x5) + x7) 8192 (rd (u.2.1 124 ((64 * x5) + x7)) (fun v22 => 
    pw_notOf v22 (fun v23 u => 
    pw_put v23 (fun u => 
    ovp (x7 + 1) (
    R58 x1 x2 x3 x4 x5 x6 (x7 + 1) u)) u) u)))))))
theorem cj_w_measureRows_58b {Q1 Q2 Q3 : iST → Prop} {R101 R102 R103 : Int → Int → Int → Int → Int → iST → Prop} {R341 R342 R343 : Int → Int → Int → Int → Int → Int → iST → Prop} {R581 R582 R583 : Int → Int → Int → Int → Int → Int → Int → iST → Prop} {x1 : Int} {x2 : Int} {x3 : Int} {x4 : Int} {x5 : Int} {x6 : Int} {x7 : Int} {u : iST} (hR10 : ∀ r0 r1 r2 r3 r4 r5, R101 r0 r1 r2 r3 r4 r5 → R102 r0 r1 r2 r3 r4 r5 → R103 r0 r1 r2 r3 r4 r5) (hR34 : ∀ r0 r1 r2 r3 r4 r5 r6, R341 r0 r1 r2 r3 r4 r5 r6 → R342 r0 r1 r2 r3 r4 r5 r6 → R343 r0 r1 r2 r3 r4 r5 r6) (hR58 : ∀ r0 r1 r2 r3 r4 r5 r6 r7, R581 r0 r1 r2 r3 r4 r5 r6 r7 → R582 r0 r1 r2 r3 r4 r5 r6 r7 → R583 r0 r1 r2 r3 r4 r5 r6 r7) (hQ : ∀ r0, Q1 r0 → Q2 r0 → Q3 r0) : w_measureRows_58b R101 R341 R581 Q1 x1 x2 x3 x4 x5 x6 x7 u → pw_measureRows_58b R102 R342 R582 Q2 x1 x2 x3 x4 x5 x6 x7 u → w_measureRows_58b R103 R343 R583 Q3 x1 x2 x3 x4 x5 x6 x7 u := (bd_cj (rd_cj fun _ => (br_cj (sw_cj fun _ => (cj_w_measureRows_106 hR10 hR34 hQ)) (ov_cj (ov_cj (bd_cj (rd_cj fun _ => (cj_w_notOf (fun _ _ => (cj_w_put (fun _ => (ov_cj (hR58 _ _ _ _ _ _ _ _)))))))))))))
theorem mn_w_measureRows_58b {Q1 Q2 : iST → Prop} {R101 R102 : Int → Int → Int → Int → Int → iST → Prop} {R341 R342 : Int → Int → Int → Int → Int → Int → iST → Prop} {R581 R582 : Int → Int → Int → Int → Int → Int → Int → iST → Prop} {x1 : Int} {x2 : Int} {x3 : Int} {x4 : Int} {x5 : Int} {x6 : Int} {x7 : Int} {u : iST} (hR10 : ∀ r0 r1 r2 r3 r4 r5, R101 r0 r1 r2 r3 r4 r5 → R102 r0 r1 r2 r3 r4 r5) (hR34 : ∀ r0 r1 r2 r3 r4 r5 r6, R341 r0 r1 r2 r3 r4 r5 r6 → R342 r0 r1 r2 r3 r4 r5 r6) (hR58 : ∀ r0 r1 r2 r3 r4 r5 r6 r7, R581 r0 r1 r2 r3 r4 r5 r6 r7 → R582 r0 r1 r2 r3 r4 r5 r6 r7) (hQ : ∀ r0, Q1 r0 → Q2 r0) : pw_measureRows_58b R101 R341 R581 Q1 x1 x2 x3 x4 x5 x6 x7 u → pw_measureRows_58b R102 R342 R582 Q2 x1 x2 x3 x4 x5 x6 x7 u := (bd_mn (rd_mn fun _ => (br_mn (sw_mn fun _ => (mn_w_measureRows_106 hR10 hR34 hQ)) (ov_mn (ov_mn (bd_mn (rd_mn fun _ => (mn_w_notOf (fun _ _ => (mn_w_put (fun _ => (ov_mn (hR58 _ _ _ _ _ _ _ _)))))))))))))
theorem wp_w_measureRows_58b {Q1 Q2 : iST → Prop} {R101 R102 : Int → Int → Int → Int → Int → iST → Prop} {R341 R342 : Int → Int → Int → Int → Int → Int → iST → Prop} {R581 R582 : Int → Int → Int → Int → Int → Int → Int → iST → Prop} {x1 : Int} {x2 : Int} {x3 : Int} {x4 : Int} {x5 : Int} {x6 : Int} {x7 : Int} {u : iST} (hR10 : ∀ r0 r1 r2 r3 r4 r5, R101 r0 r1 r2 r3 r4 r5 → R102 r0 r1 r2 r3 r4 r5) (hR34 : ∀ r0 r1 r2 r3 r4 r5 r6, R341 r0 r1 r2 r3 r4 r5 r6 → R342 r0 r1 r2 r3 r4 r5 r6) (hR58 : ∀ r0 r1 r2 r3 r4 r5 r6 r7, R581 r0 r1 r2 r3 r4 r5 r6 r7 → R582 r0 r1 r2 r3 r4 r5 r6 r7) (hQ : ∀ r0, Q1 r0 → Q2 r0) : w_measureRows_58b R101 R341 R581 Q1 x1 x2 x3 x4 x5 x6 x7 u → pw_measureRows_58b R102 R342 R582 Q2 x1 x2 x3 x4 x5 x6 x7 u := (bd_wp (rd_wp fun _ => (br_wp (sw_wp fun _ => (wp_w_measureRows_106 hR10 hR34 hQ)) (ov_wp (ov_wp (bd_wp (rd_wp fun _ => (wp_w_notOf (fun _ _ => (wp_w_put (fun _ => (ov_wp (hR58 _ _ _ _ _ _ _ _)))))))))))))
def pw_measureRows_58 (R10 : Int → Int → Int → Int → Int → iST → Prop) (R34 : Int → Int → Int → Int → Int → Int → iST → Prop) (Q : iST → Prop) (x1 : Int) (x2 : Int) (x3 : Int) (x4 : Int) (x5 : Int) (x6 : Int) (x7 : Int) (u : iST) : Prop := ∃ R58 : Int → Int → Int → Int → Int → Int → Int → iST → Prop, (∀ (x1 : Int) (x2 : Int) (x3 : Int) (x4 : Int) (x5 : Int) (x6 : Int) (x7 : Int) (u : iST), R58 x1 x2 x3 x4 x5 x6 x7 u → pw_measureRows_58b R10 R34 R58 Q x1 x2 x3 x4 x5 x6 x7 u) ∧ R58 x1 x2 x3 x4 x5 x6 x7 u
theorem cj_w_measureRows_58 {Q1 Q2 Q3 : iST → Prop} {R101 R102 R103 : Int → Int → Int → Int → Int → iST → Prop} {R341 R342 R343 : Int → Int → Int → Int → Int → Int → iST → Prop} {x1 : Int} {x2 : Int} {x3 : Int} {x4 : Int} {x5 : Int} {x6 : Int} {x7 : Int} {u : iST} (hR10 : ∀ r0 r1 r2 r3 r4 r5, R101 r0 r1 r2 r3 r4 r5 → R102 r0 r1 r2 r3 r4 r5 → R103 r0 r1 r2 r3 r4 r5) (hR34 : ∀ r0 r1 r2 r3 r4 r5 r6, R341 r0 r1 r2 r3 r4 r5 r6 → R342 r0 r1 r2 r3 r4 r5 r6 → R343 r0 r1 r2 r3 r4 r5 r6) (hQ : ∀ r0, Q1 r0 → Q2 r0 → Q3 r0) : w_measureRows_58 R101 R341 Q1 x1 x2 x3 x4 x5 x6 x7 u → pw_measureRows_58 R102 R342 Q2 x1 x2 x3 x4 x5 x6 x7 u → w_measureRows_58 R103 R343 Q3 x1 x2 x3 x4 x5 x6 x7 u := by
  intro a b R3 c3
  obtain ⟨R2, c2, b2⟩ := b
  exact a (fun r0 r1 r2 r3 r4 r5 r6 r7 => R2 r0 r1 r2 r3 r4 r5 r6 r7 → R3 r0 r1 r2 r3 r4 r5 r6 r7) (fun r0 r1 r2 r3 r4 r5 r6 r7 a b => c3 r0 r1 r2 r3 r4 r5 r6 r7 (cj_w_measureRows_58b hR10 hR34 (fun r0 r1 r2 r3 r4 r5 r6 r7 a b => a b) hQ a (c2 r0 r1 r2 r3 r4 r5 r6 r7 b))) b2
theorem pw_measureRows_58_i {R10 : Int → Int → Int → Int → Int → iST → Prop} {R34 : Int → Int → Int → Int → Int → Int → iST → Prop} {Q : iST → Prop} {x1 : Int} {x2 : Int} {x3 : Int} {x4 : Int} {x5 : Int} {x6 : Int} {x7 : Int} {u : iST} (I : Int → Int → Int → Int → Int → Int → Int → iST → Prop) (s : ∀ (x1 : Int) (x2 : Int) (x3 : Int) (x4 : Int) (x5 : Int) (x6 : Int) (x7 : Int) (u : iST), I x1 x2 x3 x4 x5 x6 x7 u → pw_measureRows_58b R10 R34 I Q x1 x2 x3 x4 x5 x6 x7 u) (h : I x1 x2 x3 x4 x5 x6 x7 u) : pw_measureRows_58 R10 R34 Q x1 x2 x3 x4 x5 x6 x7 u := ⟨I, s, h⟩
theorem mn_w_measureRows_58 {Q1 Q2 : iST → Prop} {R101 R102 : Int → Int → Int → Int → Int → iST → Prop} {R341 R342 : Int → Int → Int → Int → Int → Int → iST → Prop} {x1 : Int} {x2 : Int} {x3 : Int} {x4 : Int} {x5 : Int} {x6 : Int} {x7 : Int} {u : iST} (hR10 : ∀ r0 r1 r2 r3 r4 r5, R101 r0 r1 r2 r3 r4 r5 → R102 r0 r1 r2 r3 r4 r5) (hR34 : ∀ r0 r1 r2 r3 r4 r5 r6, R341 r0 r1 r2 r3 r4 r5 r6 → R342 r0 r1 r2 r3 r4 r5 r6) (hQ : ∀ r0, Q1 r0 → Q2 r0) : pw_measureRows_58 R101 R341 Q1 x1 x2 x3 x4 x5 x6 x7 u → pw_measureRows_58 R102 R342 Q2 x1 x2 x3 x4 x5 x6 x7 u := fun ⟨R, s, h⟩ => ⟨R, fun r0 r1 r2 r3 r4 r5 r6 r7 a => mn_w_measureRows_58b hR10 hR34 (fun r0 r1 r2 r3 r4 r5 r6 r7 a => a) hQ (s r0 r1 r2 r3 r4 r5 r6 r7 a), h⟩
theorem un_w_measureRows_58 {R10 : Int → Int → Int → Int → Int → iST → Prop} {R34 : Int → Int → Int → Int → Int → Int → iST → Prop} {Q : iST → Prop} {x1 : Int} {x2 : Int} {x3 : Int} {x4 : Int} {x5 : Int} {x6 : Int} {x7 : Int} {u : iST} : pw_measureRows_58 R10 R34 Q x1 x2 x3 x4 x5 x6 x7 u → pw_measureRows_58b R10 R34 (fun x1 x2 x3 x4 x5 x6 x7 u => pw_measureRows_58 R10 R34 Q x1 x2 x3 x4 x5 x6 x7 u) Q x1 x2 x3 x4 x5 x6 x7 u := fun ⟨R, s, h⟩ => mn_w_measureRows_58b (fun _ _ _ _ _ _ h => h) (fun _ _ _ _ _ _ _ h => h) (fun r0 r1 r2 r3 r4 r5 r6 r7 a => ⟨R, s, a⟩) (fun _ h => h) (s _ _ _ _ _ _ _ _ h)
theorem fo_w_measureRows_58 {R10 : Int → Int → Int → Int → Int → iST → Prop} {R34 : Int → Int → Int → Int → Int → Int → iST → Prop} {Q : iST → Prop} {x1 : Int} {x2 : Int} {x3 : Int} {x4 : Int} {x5 : Int} {x6 : Int} {x7 : Int} {u : iST} : pw_measureRows_58b R10 R34 (fun x1 x2 x3 x4 x5 x6 x7 u => pw_measureRows_58 R10 R34 Q x1 x2 x3 x4 x5 x6 x7 u) Q x1 x2 x3 x4 x5 x6 x7 u → pw_measureRows_58 R10 R34 Q x1 x2 x3 x4 x5 x6 x7 u := fun h => ⟨fun x1 x2 x3 x4 x5 x6 x7 u => pw_measureRows_58b R10 R34 (fun x1 x2 x3 x4 x5 x6 x7 u => pw_measureRows_58 R10 R34 Q x1 x2 x3 x4 x5 x6 x7 u) Q x1 x2 x3 x4 x5 x6 x7 u, fun r0 r1 r2 r3 r4 r5 r6 r7 a => mn_w_measureRows_58b (fun _ _ _ _ _ _ h => h) (fun _ _ _ _ _ _ _ h => h) (fun r0 r1 r2 r3 r4 r5 r6 r7 a => un_w_measureRows_58 a) (fun _ h => h) a, h⟩
theorem wp_w_measureRows_58 {Q1 Q2 : iST → Prop} {R101 R102 : Int → Int → Int → Int → Int → iST → Prop} {R341 R342 : Int → Int → Int → Int → Int → Int → iST → Prop} {x1 : Int} {x2 : Int} {x3 : Int} {x4 : Int} {x5 : Int} {x6 : Int} {x7 : Int} {u : iST} (hR10 : ∀ r0 r1 r2 r3 r4 r5, R101 r0 r1 r2 r3 r4 r5 → R102 r0 r1 r2 r3 r4 r5) (hR34 : ∀ r0 r1 r2 r3 r4 r5 r6, R341 r0 r1 r2 r3 r4 r5 r6 → R342 r0 r1 r2 r3 r4 r5 r6) (hQ : ∀ r0, Q1 r0 → Q2 r0) : w_measureRows_58 R101 R341 Q1 x1 x2 x3 x4 x5 x6 x7 u → pw_measureRows_58 R102 R342 Q2 x1 x2 x3 x4 x5 x6 x7 u := fun a => a (fun x1 x2 x3 x4 x5 x6 x7 u => pw_measureRows_58 R102 R342 Q2 x1 x2 x3 x4 x5 x6 x7 u) (fun x1 x2 x3 x4 x5 x6 x7 u b => fo_w_measureRows_58 (wp_w_measureRows_58b hR10 hR34 (fun r0 r1 r2 r3 r4 r5 r6 r7 a => a) hQ b))
def pw_measureRows_34b (R10 : Int → Int → Int → Int → Int → iST → Prop) (R34 : Int → Int → Int → Int → Int → Int → iST → Prop) (Q : iST → Prop) (x1 : Int) (x2 : Int) (x3 : Int) (x4 : Int) (x5 : Int) (x6 : Int) (u : iST) : Prop :=
  rd (u.1 131) (fun v5 => 
  br (v5 ≤ x6) (
    ovp (x5 + 1) (
    R10 x1 x2 x3 x4 (x5 + 1) u)) (
    rd (u.1 61) (fun v7 => 
    br (v7 ≠ 0) (
      ovp (x5 + 1) (
      R10 x1 x2 x3 x4 (x5 + 1) u)) (
      sw (iI u 122 0) (fun u => 
      pw_measureRows_58 R10 R34 Q x1 x2 x3 x4 x5 x6 0 u)))))
theorem cj_w_measureRows_34b {Q1 Q2 Q3 : iST → Prop} {R101 R102 R103 : Int → Int → Int → Int → Int → iST → Prop} {R341 R342 R343 : Int → Int → Int → Int → Int → Int → iST → Prop} {x1 : Int} {x2 : Int} {x3 : Int} {x4 : Int} {x5 : Int} {x6 : Int} {u : iST} (hR10 : ∀ r0 r1 r2 r3 r4 r5, R101 r0 r1 r2 r3 r4 r5 → R102 r0 r1 r2 r3 r4 r5 → R103 r0 r1 r2 r3 r4 r5) (hR34 : ∀ r0 r1 r2 r3 r4 r5 r6, R341 r0 r1 r2 r3 r4 r5 r6 → R342 r0 r1 r2 r3 r4 r5 r6 → R343 r0 r1 r2 r3 r4 r5 r6) (hQ : ∀ r0, Q1 r0 → Q2 r0 → Q3 r0) : w_measureRows_34b R101 R341 Q1 x1 x2 x3 x4 x5 x6 u → pw_measureRows_34b R102 R342 Q2 x1 x2 x3 x4 x5 x6 u → w_measureRows_34b R103 R343 Q3 x1 x2 x3 x4 x5 x6 u := (rd_cj fun _ => (br_cj (ov_cj (hR10 _ _ _ _ _ _)) (rd_cj fun _ => (br_cj (ov_cj (hR10 _ _ _ _ _ _)) (sw_cj fun _ => (cj_w_measureRows_58 hR10 hR34 hQ))))))
theorem mn_w_measureRows_34b {Q1 Q2 : iST → Prop} {R101 R102 : Int → Int → Int → Int → Int → iST → Prop} {R341 R342 : Int → Int → Int → Int → Int → Int → iST → Prop} {x1 : Int} {x2 : Int} {x3 : Int} {x4 : Int} {x5 : Int} {x6 : Int} {u : iST} (hR10 : ∀ r0 r1 r2 r3 r4 r5, R101 r0 r1 r2 r3 r4 r5 → R102 r0 r1 r2 r3 r4 r5) (hR34 : ∀ r0 r1 r2 r3 r4 r5 r6, R341 r0 r1 r2 r3 r4 r5 r6 → R342 r0 r1 r2 r3 r4 r5 r6) (hQ : ∀ r0, Q1 r0 → Q2 r0) : pw_measureRows_34b R101 R341 Q1 x1 x2 x3 x4 x5 x6 u → pw_measureRows_34b R102 R342 Q2 x1 x2 x3 x4 x5 x6 u := (rd_mn fun _ => (br_mn (ov_mn (hR10 _ _ _ _ _ _)) (rd_mn fun _ => (br_mn (ov_mn (hR10 _ _ _ _ _ _)) (sw_mn fun _ => (mn_w_measureRows_58 hR10 hR34 hQ))))))
theorem wp_w_measureRows_34b {Q1 Q2 : iST → Prop} {R101 R102 : Int → Int → Int → Int → Int → iST → Prop} {R341 R342 : Int → Int → Int → Int → Int → Int → iST → Prop} {x1 : Int} {x2 : Int} {x3 : Int} {x4 : Int} {x5 : Int} {x6 : Int} {u : iST} (hR10 : ∀ r0 r1 r2 r3 r4 r5, R101 r0 r1 r2 r3 r4 r5 → R102 r0 r1 r2 r3 r4 r5) (hR34 : ∀ r0 r1 r2 r3 r4 r5 r6, R341 r0 r1 r2 r3 r4 r5 r6 → R342 r0 r1 r2 r3 r4 r5 r6) (hQ : ∀ r0, Q1 r0 → Q2 r0) : w_measureRows_34b R101 R341 Q1 x1 x2 x3 x4 x5 x6 u → pw_measureRows_34b R102 R342 Q2 x1 x2 x3 x4 x5 x6 u := (rd_wp fun _ => (br_wp (ov_wp (hR10 _ _ _ _ _ _)) (rd_wp fun _ => (br_wp (ov_wp (hR10 _ _ _ _ _ _)) (sw_wp fun _ => (wp_w_measureRows_58 hR10 hR34 hQ))))))
def pw_measureRows_34 (R10 : Int → Int → Int → Int → Int → iST → Prop) (Q : iST → Prop) (x1 : Int) (x2 : Int) (x3 : Int) (x4 : Int) (x5 : Int) (x6 : Int) (u : iST) : Prop := ∃ R34 : Int → Int → Int → Int → Int → Int → iST → Prop, (∀ (x1 : Int) (x2 : Int) (x3 : Int) (x4 : Int) (x5 : Int) (x6 : Int) (u : iST), R34 x1 x2 x3 x4 x5 x6 u → pw_measureRows_34b R10 R34 Q x1 x2 x3 x4 x5 x6 u) ∧ R34 x1 x2 x3 x4 x5 x6 u
theorem cj_w_measureRows_34 {Q1 Q2 Q3 : iST → Prop} {R101 R102 R103 : Int → Int → Int → Int → Int → iST → Prop} {x1 : Int} {x2 : Int} {x3 : Int} {x4 : Int} {x5 : Int} {x6 : Int} {u : iST} (hR10 : ∀ r0 r1 r2 r3 r4 r5, R101 r0 r1 r2 r3 r4 r5 → R102 r0 r1 r2 r3 r4 r5 → R103 r0 r1 r2 r3 r4 r5) (hQ : ∀ r0, Q1 r0 → Q2 r0 → Q3 r0) : w_measureRows_34 R101 Q1 x1 x2 x3 x4 x5 x6 u → pw_measureRows_34 R102 Q2 x1 x2 x3 x4 x5 x6 u → w_measureRows_34 R103 Q3 x1 x2 x3 x4 x5 x6 u := by
  intro a b R3 c3
  obtain ⟨R2, c2, b2⟩ := b
  exact a (fun r0 r1 r2 r3 r4 r5 r6 => R2 r0 r1 r2 r3 r4 r5 r6 → R3 r0 r1 r2 r3 r4 r5 r6) (fun r0 r1 r2 r3 r4 r5 r6 a b => c3 r0 r1 r2 r3 r4 r5 r6 (cj_w_measureRows_34b hR10 (fun r0 r1 r2 r3 r4 r5 r6 a b => a b) hQ a (c2 r0 r1 r2 r3 r4 r5 r6 b))) b2
theorem pw_measureRows_34_i {R10 : Int → Int → Int → Int → Int → iST → Prop} {Q : iST → Prop} {x1 : Int} {x2 : Int} {x3 : Int} {x4 : Int} {x5 : Int} {x6 : Int} {u : iST} (I : Int → Int → Int → Int → Int → Int → iST → Prop) (s : ∀ (x1 : Int) (x2 : Int) (x3 : Int) (x4 : Int) (x5 : Int) (x6 : Int) (u : iST), I x1 x2 x3 x4 x5 x6 u → pw_measureRows_34b R10 I Q x1 x2 x3 x4 x5 x6 u) (h : I x1 x2 x3 x4 x5 x6 u) : pw_measureRows_34 R10 Q x1 x2 x3 x4 x5 x6 u := ⟨I, s, h⟩
theorem mn_w_measureRows_34 {Q1 Q2 : iST → Prop} {R101 R102 : Int → Int → Int → Int → Int → iST → Prop} {x1 : Int} {x2 : Int} {x3 : Int} {x4 : Int} {x5 : Int} {x6 : Int} {u : iST} (hR10 : ∀ r0 r1 r2 r3 r4 r5, R101 r0 r1 r2 r3 r4 r5 → R102 r0 r1 r2 r3 r4 r5) (hQ : ∀ r0, Q1 r0 → Q2 r0) : pw_measureRows_34 R101 Q1 x1 x2 x3 x4 x5 x6 u → pw_measureRows_34 R102 Q2 x1 x2 x3 x4 x5 x6 u := fun ⟨R, s, h⟩ => ⟨R, fun r0 r1 r2 r3 r4 r5 r6 a => mn_w_measureRows_34b hR10 (fun r0 r1 r2 r3 r4 r5 r6 a => a) hQ (s r0 r1 r2 r3 r4 r5 r6 a), h⟩
theorem un_w_measureRows_34 {R10 : Int → Int → Int → Int → Int → iST → Prop} {Q : iST → Prop} {x1 : Int} {x2 : Int} {x3 : Int} {x4 : Int} {x5 : Int} {x6 : Int} {u : iST} : pw_measureRows_34 R10 Q x1 x2 x3 x4 x5 x6 u → pw_measureRows_34b R10 (fun x1 x2 x3 x4 x5 x6 u => pw_measureRows_34 R10 Q x1 x2 x3 x4 x5 x6 u) Q x1 x2 x3 x4 x5 x6 u := fun ⟨R, s, h⟩ => mn_w_measureRows_34b (fun _ _ _ _ _ _ h => h) (fun r0 r1 r2 r3 r4 r5 r6 a => ⟨R, s, a⟩) (fun _ h => h) (s _ _ _ _ _ _ _ h)
theorem fo_w_measureRows_34 {R10 : Int → Int → Int → Int → Int → iST → Prop} {Q : iST → Prop} {x1 : Int} {x2 : Int} {x3 : Int} {x4 : Int} {x5 : Int} {x6 : Int} {u : iST} : pw_measureRows_34b R10 (fun x1 x2 x3 x4 x5 x6 u => pw_measureRows_34 R10 Q x1 x2 x3 x4 x5 x6 u) Q x1 x2 x3 x4 x5 x6 u → pw_measureRows_34 R10 Q x1 x2 x3 x4 x5 x6 u := fun h => ⟨fun x1 x2 x3 x4 x5 x6 u => pw_measureRows_34b R10 (fun x1 x2 x3 x4 x5 x6 u => pw_measureRows_34 R10 Q x1 x2 x3 x4 x5 x6 u) Q x1 x2 x3 x4 x5 x6 u, fun r0 r1 r2 r3 r4 r5 r6 a => mn_w_measureRows_34b (fun _ _ _ _ _ _ h => h) (fun r0 r1 r2 r3 r4 r5 r6 a => un_w_measureRows_34 a) (fun _ h => h) a, h⟩
theorem wp_w_measureRows_34 {Q1 Q2 : iST → Prop} {R101 R102 : Int → Int → Int → Int → Int → iST → Prop} {x1 : Int} {x2 : Int} {x3 : Int} {x4 : Int} {x5 : Int} {x6 : Int} {u : iST} (hR10 : ∀ r0 r1 r2 r3 r4 r5, R101 r0 r1 r2 r3 r4 r5 → R102 r0 r1 r2 r3 r4 r5) (hQ : ∀ r0, Q1 r0 → Q2 r0) : w_measureRows_34 R101 Q1 x1 x2 x3 x4 x5 x6 u → pw_measureRows_34 R102 Q2 x1 x2 x3 x4 x5 x6 u := fun a => a (fun x1 x2 x3 x4 x5 x6 u => pw_measureRows_34 R102 Q2 x1 x2 x3 x4 x5 x6 u) (fun x1 x2 x3 x4 x5 x6 u b => fo_w_measureRows_34 (wp_w_measureRows_34b hR10 (fun r0 r1 r2 r3 r4 r5 r6 a => a) hQ b))
def pw_measureRows_10b (R10 : Int → Int → Int → Int → Int → iST → Prop) (Q : iST → Prop) (x1 : Int) (x2 : Int) (x3 : Int) (x4 : Int) (x5 : Int) (u : iST) : Prop :=
  rd (u.1 126) (fun v2 => 
  br (v2 ≤ x5) (
    Q u) (
    bdp x5 128 (rd (u.2.1 123 x5) (fun v3 => 
    pw_find v3 x1 (fun u => 
    pw_measureRows_34 R10 Q x1 x2 x3 x4 x5 0 u) u))))
theorem cj_w_measureRows_10b {Q1 Q2 Q3 : iST → Prop} {R101 R102 R103 : Int → Int → Int → Int → Int → iST → Prop} {x1 : Int} {x2 : Int} {x3 : Int} {x4 : Int} {x5 : Int} {u : iST} (hR10 : ∀ r0 r1 r2 r3 r4 r5, R101 r0 r1 r2 r3 r4 r5 → R102 r0 r1 r2 r3 r4 r5 → R103 r0 r1 r2 r3 r4 r5) (hQ : ∀ r0, Q1 r0 → Q2 r0 → Q3 r0) : w_measureRows_10b R101 Q1 x1 x2 x3 x4 x5 u → pw_measureRows_10b R102 Q2 x1 x2 x3 x4 x5 u → w_measureRows_10b R103 Q3 x1 x2 x3 x4 x5 u := (rd_cj fun _ => (br_cj (hQ _) (bd_cj (rd_cj fun _ => (cj_w_find (fun _ => (cj_w_measureRows_34 hR10 hQ)))))))
theorem mn_w_measureRows_10b {Q1 Q2 : iST → Prop} {R101 R102 : Int → Int → Int → Int → Int → iST → Prop} {x1 : Int} {x2 : Int} {x3 : Int} {x4 : Int} {x5 : Int} {u : iST} (hR10 : ∀ r0 r1 r2 r3 r4 r5, R101 r0 r1 r2 r3 r4 r5 → R102 r0 r1 r2 r3 r4 r5) (hQ : ∀ r0, Q1 r0 → Q2 r0) : pw_measureRows_10b R101 Q1 x1 x2 x3 x4 x5 u → pw_measureRows_10b R102 Q2 x1 x2 x3 x4 x5 u := (rd_mn fun _ => (br_mn (hQ _) (bd_mn (rd_mn fun _ => (mn_w_find (fun _ => (mn_w_measureRows_34 hR10 hQ)))))))
theorem wp_w_measureRows_10b {Q1 Q2 : iST → Prop} {R101 R102 : Int → Int → Int → Int → Int → iST → Prop} {x1 : Int} {x2 : Int} {x3 : Int} {x4 : Int} {x5 : Int} {u : iST} (hR10 : ∀ r0 r1 r2 r3 r4 r5, R101 r0 r1 r2 r3 r4 r5 → R102 r0 r1 r2 r3 r4 r5) (hQ : ∀ r0, Q1 r0 → Q2 r0) : w_measureRows_10b R101 Q1 x1 x2 x3 x4 x5 u → pw_measureRows_10b R102 Q2 x1 x2 x3 x4 x5 u := (rd_wp fun _ => (br_wp (hQ _) (bd_wp (rd_wp fun _ => (wp_w_find (fun _ => (wp_w_measureRows_34 hR10 hQ)))))))
def pw_measureRows_10 (Q : iST → Prop) (x1 : Int) (x2 : Int) (x3 : Int) (x4 : Int) (x5 : Int) (u : iST) : Prop := ∃ R10 : Int → Int → Int → Int → Int → iST → Prop, (∀ (x1 : Int) (x2 : Int) (x3 : Int) (x4 : Int) (x5 : Int) (u : iST), R10 x1 x2 x3 x4 x5 u → pw_measureRows_10b R10 Q x1 x2 x3 x4 x5 u) ∧ R10 x1 x2 x3 x4 x5 u
theorem cj_w_measureRows_10 {Q1 Q2 Q3 : iST → Prop}  {x1 : Int} {x2 : Int} {x3 : Int} {x4 : Int} {x5 : Int} {u : iST} (hQ : ∀ r0, Q1 r0 → Q2 r0 → Q3 r0) : w_measureRows_10 Q1 x1 x2 x3 x4 x5 u → pw_measureRows_10 Q2 x1 x2 x3 x4 x5 u → w_measureRows_10 Q3 x1 x2 x3 x4 x5 u := by
  intro a b R3 c3
  obtain ⟨R2, c2, b2⟩ := b
  exact a (fun r0 r1 r2 r3 r4 r5 => R2 r0 r1 r2 r3 r4 r5 → R3 r0 r1 r2 r3 r4 r5) (fun r0 r1 r2 r3 r4 r5 a b => c3 r0 r1 r2 r3 r4 r5 (cj_w_measureRows_10b (fun r0 r1 r2 r3 r4 r5 a b => a b) hQ a (c2 r0 r1 r2 r3 r4 r5 b))) b2
theorem pw_measureRows_10_i  {Q : iST → Prop} {x1 : Int} {x2 : Int} {x3 : Int} {x4 : Int} {x5 : Int} {u : iST} (I : Int → Int → Int → Int → Int → iST → Prop) (s : ∀ (x1 : Int) (x2 : Int) (x3 : Int) (x4 : Int) (x5 : Int) (u : iST), I x1 x2 x3 x4 x5 u → pw_measureRows_10b I Q x1 x2 x3 x4 x5 u) (h : I x1 x2 x3 x4 x5 u) : pw_measureRows_10 Q x1 x2 x3 x4 x5 u := ⟨I, s, h⟩
theorem mn_w_measureRows_10 {Q1 Q2 : iST → Prop}  {x1 : Int} {x2 : Int} {x3 : Int} {x4 : Int} {x5 : Int} {u : iST} (hQ : ∀ r0, Q1 r0 → Q2 r0) : pw_measureRows_10 Q1 x1 x2 x3 x4 x5 u → pw_measureRows_10 Q2 x1 x2 x3 x4 x5 u := fun ⟨R, s, h⟩ => ⟨R, fun r0 r1 r2 r3 r4 r5 a => mn_w_measureRows_10b (fun r0 r1 r2 r3 r4 r5 a => a) hQ (s r0 r1 r2 r3 r4 r5 a), h⟩
theorem un_w_measureRows_10  {Q : iST → Prop} {x1 : Int} {x2 : Int} {x3 : Int} {x4 : Int} {x5 : Int} {u : iST} : pw_measureRows_10 Q x1 x2 x3 x4 x5 u → pw_measureRows_10b (fun x1 x2 x3 x4 x5 u => pw_measureRows_10 Q x1 x2 x3 x4 x5 u) Q x1 x2 x3 x4 x5 u := fun ⟨R, s, h⟩ => mn_w_measureRows_10b (fun r0 r1 r2 r3 r4 r5 a => ⟨R, s, a⟩) (fun _ h => h) (s _ _ _ _ _ _ h)
theorem fo_w_measureRows_10  {Q : iST → Prop} {x1 : Int} {x2 : Int} {x3 : Int} {x4 : Int} {x5 : Int} {u : iST} : pw_measureRows_10b (fun x1 x2 x3 x4 x5 u => pw_measureRows_10 Q x1 x2 x3 x4 x5 u) Q x1 x2 x3 x4 x5 u → pw_measureRows_10 Q x1 x2 x3 x4 x5 u := fun h => ⟨fun x1 x2 x3 x4 x5 u => pw_measureRows_10b (fun x1 x2 x3 x4 x5 u => pw_measureRows_10 Q x1 x2 x3 x4 x5 u) Q x1 x2 x3 x4 x5 u, fun r0 r1 r2 r3 r4 r5 a => mn_w_measureRows_10b (fun r0 r1 r2 r3 r4 r5 a => un_w_measureRows_10 a) (fun _ h => h) a, h⟩
theorem wp_w_measureRows_10 {Q1 Q2 : iST → Prop}  {x1 : Int} {x2 : Int} {x3 : Int} {x4 : Int} {x5 : Int} {u : iST} (hQ : ∀ r0, Q1 r0 → Q2 r0) : w_measureRows_10 Q1 x1 x2 x3 x4 x5 u → pw_measureRows_10 Q2 x1 x2 x3 x4 x5 u := fun a => a (fun x1 x2 x3 x4 x5 u => pw_measureRows_10 Q2 x1 x2 x3 x4 x5 u) (fun x1 x2 x3 x4 x5 u b => fo_w_measureRows_10 (wp_w_measureRows_10b (fun r0 r1 r2 r3 r4 r5 a => a) hQ b))
def pw_measureRows (a0 : Int) (a1 : Int) (a2 : Int) (Q : iST → Prop) (u : iST) : Prop :=
  pw_lengthOf a1 (fun v1 u => 
  pw_measureRows_10 Q a0 a1 a2 v1 0 u) u
theorem cj_w_measureRows {Q1 Q2 Q3 : iST → Prop}  {a0 : Int} {a1 : Int} {a2 : Int} {u : iST} (hQ : ∀ r0, Q1 r0 → Q2 r0 → Q3 r0) : w_measureRows a0 a1 a2 Q1 u → pw_measureRows a0 a1 a2 Q2 u → w_measureRows a0 a1 a2 Q3 u := (cj_w_lengthOf (fun _ _ => (cj_w_measureRows_10  hQ)))
theorem mn_w_measureRows {Q1 Q2 : iST → Prop}  {a0 : Int} {a1 : Int} {a2 : Int} {u : iST} (hQ : ∀ r0, Q1 r0 → Q2 r0) : pw_measureRows a0 a1 a2 Q1 u → pw_measureRows a0 a1 a2 Q2 u := (mn_w_lengthOf (fun _ _ => (mn_w_measureRows_10  hQ)))
theorem wp_w_measureRows {Q1 Q2 : iST → Prop}  {a0 : Int} {a1 : Int} {a2 : Int} {u : iST} (hQ : ∀ r0, Q1 r0 → Q2 r0) : w_measureRows a0 a1 a2 Q1 u → pw_measureRows a0 a1 a2 Q2 u := (wp_w_lengthOf (fun _ _ => (wp_w_measureRows_10  hQ)))
def pw_take (a0 : Int) (Q : iST → Prop) (u : iST) : Prop :=
  rd (u.1 54) (fun v1 => 
  bdp v1 100 (sw (iA u 55 v1 a0) (fun u => 
  rd (u.1 54) (fun v2 => 
  rd (u.1 132) (fun v3 => 
  bdp v2 100 (sw (iA u 56 v2 v3) (fun u => 
  rd (u.1 54) (fun v4 => 
  ovp (v4 + 1) (
  sw (iI u 54 (v4 + 1)) (fun u => 
  Q u))))))))))
theorem cj_w_take {Q1 Q2 Q3 : iST → Prop}  {a0 : Int} {u : iST} (hQ : ∀ r0, Q1 r0 → Q2 r0 → Q3 r0) : w_take a0 Q1 u → pw_take a0 Q2 u → w_take a0 Q3 u := (rd_cj fun _ => (bd_cj (sw_cj fun _ => (rd_cj fun _ => (rd_cj fun _ => (bd_cj (sw_cj fun _ => (rd_cj fun _ => (ov_cj (sw_cj fun _ => (hQ _)))))))))))
theorem mn_w_take {Q1 Q2 : iST → Prop}  {a0 : Int} {u : iST} (hQ : ∀ r0, Q1 r0 → Q2 r0) : pw_take a0 Q1 u → pw_take a0 Q2 u := (rd_mn fun _ => (bd_mn (sw_mn fun _ => (rd_mn fun _ => (rd_mn fun _ => (bd_mn (sw_mn fun _ => (rd_mn fun _ => (ov_mn (sw_mn fun _ => (hQ _)))))))))))
theorem wp_w_take {Q1 Q2 : iST → Prop}  {a0 : Int} {u : iST} (hQ : ∀ r0, Q1 r0 → Q2 r0) : w_take a0 Q1 u → pw_take a0 Q2 u := (rd_wp fun _ => (bd_wp (sw_wp fun _ => (rd_wp fun _ => (rd_wp fun _ => (bd_wp (sw_wp fun _ => (rd_wp fun _ => (ov_wp (sw_wp fun _ => (hQ _)))))))))))
def pw_defun_337b (R337 : Int → Int → Int → Int → Int → iST → Prop) (Q : Int → iST → Prop) (x4 : Int) (x5 : Int) (x6 : Int) (x7 : Int) (x9 : Int) (u : iST) : Prop :=
  rd (u.1 35) (fun v22 => 
  bdp v22 40 (rd (u.2.1 37 v22) (fun v23 => 
  br (v23 ≤ x9) (
    rd (u.1 35) (fun v24 => 
    bdp v24 40 (sw (iA u 39 v24 x5) (fun u => 
    rd (u.1 35) (fun v25 => 
    bdp v25 40 (sw (iA u 40 v25 x6) (fun u => 
    rd (u.1 35) (fun v26 => 
    ztp x7 (bdp v26 40 (sw (iA u 41 v26 x7) (fun u => 
    rd (u.1 35) (fun v27 => 
    ovp (v27 + 1) (
    sw (iI u 35 (v27 + 1)) (fun u => 
    pw_take 1 (fun u => 
    Q 0 u) u)))))))))))))) (
    rd (u.1 35) (fun v30 => 
    ovp (6 * v30) (
    ovp ((6 * v30) + x9) (
    pw_nth x4 x9 (fun v33 u => 
    bdp ((6 * v30) + x9) 240 (sw (iA u 38 ((6 * v30) + x9) v33) (fun u => 
    ovp (x9 + 1) (
    R337 x4 x5 x6 x7 (x9 + 1) u)))) u)))))))
theorem cj_w_defun_337b {Q1 Q2 Q3 : Int → iST → Prop} {R3371 R3372 R3373 : Int → Int → Int → Int → Int → iST → Prop} {x4 : Int} {x5 : Int} {x6 : Int} {x7 : Int} {x9 : Int} {u : iST} (hR337 : ∀ r0 r1 r2 r3 r4 r5, R3371 r0 r1 r2 r3 r4 r5 → R3372 r0 r1 r2 r3 r4 r5 → R3373 r0 r1 r2 r3 r4 r5) (hQ : ∀ r0 r1, Q1 r0 r1 → Q2 r0 r1 → Q3 r0 r1) : w_defun_337b R3371 Q1 x4 x5 x6 x7 x9 u → pw_defun_337b R3372 Q2 x4 x5 x6 x7 x9 u → w_defun_337b R3373 Q3 x4 x5 x6 x7 x9 u := (rd_cj fun _ => (bd_cj (rd_cj fun _ => (br_cj (rd_cj fun _ => (bd_cj (sw_cj fun _ => (rd_cj fun _ => (bd_cj (sw_cj fun _ => (rd_cj fun _ => (zt_cj (bd_cj (sw_cj fun _ => (rd_cj fun _ => (ov_cj (sw_cj fun _ => (cj_w_take (fun _ => (hQ _ _)))))))))))))))) (rd_cj fun _ => (ov_cj (ov_cj (cj_w_nth (fun _ _ => (bd_cj (sw_cj fun _ => (ov_cj (hR337 _ _ _ _ _ _)))))))))))))
theorem mn_w_defun_337b {Q1 Q2 : Int → iST → Prop} {R3371 R3372 : Int → Int → Int → Int → Int → iST → Prop} {x4 : Int} {x5 : Int} {x6 : Int} {x7 : Int} {x9 : Int} {u : iST} (hR337 : ∀ r0 r1 r2 r3 r4 r5, R3371 r0 r1 r2 r3 r4 r5 → R3372 r0 r1 r2 r3 r4 r5) (hQ : ∀ r0 r1, Q1 r0 r1 → Q2 r0 r1) : pw_defun_337b R3371 Q1 x4 x5 x6 x7 x9 u → pw_defun_337b R3372 Q2 x4 x5 x6 x7 x9 u := (rd_mn fun _ => (bd_mn (rd_mn fun _ => (br_mn (rd_mn fun _ => (bd_mn (sw_mn fun _ => (rd_mn fun _ => (bd_mn (sw_mn fun _ => (rd_mn fun _ => (zt_mn (bd_mn (sw_mn fun _ => (rd_mn fun _ => (ov_mn (sw_mn fun _ => (mn_w_take (fun _ => (hQ _ _)))))))))))))))) (rd_mn fun _ => (ov_mn (ov_mn (mn_w_nth (fun _ _ => (bd_mn (sw_mn fun _ => (ov_mn (hR337 _ _ _ _ _ _)))))))))))))
theorem wp_w_defun_337b {Q1 Q2 : Int → iST → Prop} {R3371 R3372 : Int → Int → Int → Int → Int → iST → Prop} {x4 : Int} {x5 : Int} {x6 : Int} {x7 : Int} {x9 : Int} {u : iST} (hR337 : ∀ r0 r1 r2 r3 r4 r5, R3371 r0 r1 r2 r3 r4 r5 → R3372 r0 r1 r2 r3 r4 r5) (hQ : ∀ r0 r1, Q1 r0 r1 → Q2 r0 r1) : w_defun_337b R3371 Q1 x4 x5 x6 x7 x9 u → pw_defun_337b R3372 Q2 x4 x5 x6 x7 x9 u := (rd_wp fun _ => (bd_wp (rd_wp fun _ => (br_wp (rd_wp fun _ => (bd_wp (sw_wp fun _ => (rd_wp fun _ => (bd_wp (sw_wp fun _ => (rd_wp fun _ => (zt_wp (bd_wp (sw_wp fun _ => (rd_wp fun _ => (ov_wp (sw_wp fun _ => (wp_w_take (fun _ => (hQ _ _)))))))))))))))) (rd_wp fun _ => (ov_wp (ov_wp (wp_w_nth (fun _ _ => (bd_wp (sw_wp fun _ => (ov_wp (hR337 _ _ _ _ _ _)))))))))))))
def pw_defun_337 (Q : Int → iST → Prop) (x4 : Int) (x5 : Int) (x6 : Int) (x7 : Int) (x9 : Int) (u : iST) : Prop := ∃ R337 : Int → Int → Int → Int → Int → iST → Prop, (∀ (x4 : Int) (x5 : Int) (x6 : Int) (x7 : Int) (x9 : Int) (u : iST), R337 x4 x5 x6 x7 x9 u → pw_defun_337b R337 Q x4 x5 x6 x7 x9 u) ∧ R337 x4 x5 x6 x7 x9 u
theorem cj_w_defun_337 {Q1 Q2 Q3 : Int → iST → Prop}  {x4 : Int} {x5 : Int} {x6 : Int} {x7 : Int} {x9 : Int} {u : iST} (hQ : ∀ r0 r1, Q1 r0 r1 → Q2 r0 r1 → Q3 r0 r1) : w_defun_337 Q1 x4 x5 x6 x7 x9 u → pw_defun_337 Q2 x4 x5 x6 x7 x9 u → w_defun_337 Q3 x4 x5 x6 x7 x9 u := by
  intro a b R3 c3
  obtain ⟨R2, c2, b2⟩ := b
  exact a (fun r0 r1 r2 r3 r4 r5 => R2 r0 r1 r2 r3 r4 r5 → R3 r0 r1 r2 r3 r4 r5) (fun r0 r1 r2 r3 r4 r5 a b => c3 r0 r1 r2 r3 r4 r5 (cj_w_defun_337b (fun r0 r1 r2 r3 r4 r5 a b => a b) hQ a (c2 r0 r1 r2 r3 r4 r5 b))) b2
theorem pw_defun_337_i  {Q : Int → iST → Prop} {x4 : Int} {x5 : Int} {x6 : Int} {x7 : Int} {x9 : Int} {u : iST} (I : Int → Int → Int → Int → Int → iST → Prop) (s : ∀ (x4 : Int) (x5 : Int) (x6 : Int) (x7 : Int) (x9 : Int) (u : iST), I x4 x5 x6 x7 x9 u → pw_defun_337b I Q x4 x5 x6 x7 x9 u) (h : I x4 x5 x6 x7 x9 u) : pw_defun_337 Q x4 x5 x6 x7 x9 u := ⟨I, s, h⟩
theorem mn_w_defun_337 {Q1 Q2 : Int → iST → Prop}  {x4 : Int} {x5 : Int} {x6 : Int} {x7 : Int} {x9 : Int} {u : iST} (hQ : ∀ r0 r1, Q1 r0 r1 → Q2 r0 r1) : pw_defun_337 Q1 x4 x5 x6 x7 x9 u → pw_defun_337 Q2 x4 x5 x6 x7 x9 u := fun ⟨R, s, h⟩ => ⟨R, fun r0 r1 r2 r3 r4 r5 a => mn_w_defun_337b (fun r0 r1 r2 r3 r4 r5 a => a) hQ (s r0 r1 r2 r3 r4 r5 a), h⟩
theorem un_w_defun_337  {Q : Int → iST → Prop} {x4 : Int} {x5 : Int} {x6 : Int} {x7 : Int} {x9 : Int} {u : iST} : pw_defun_337 Q x4 x5 x6 x7 x9 u → pw_defun_337b (fun x4 x5 x6 x7 x9 u => pw_defun_337 Q x4 x5 x6 x7 x9 u) Q x4 x5 x6 x7 x9 u := fun ⟨R, s, h⟩ => mn_w_defun_337b (fun r0 r1 r2 r3 r4 r5 a => ⟨R, s, a⟩) (fun _ _ h => h) (s _ _ _ _ _ _ h)
theorem fo_w_defun_337  {Q : Int → iST → Prop} {x4 : Int} {x5 : Int} {x6 : Int} {x7 : Int} {x9 : Int} {u : iST} : pw_defun_337b (fun x4 x5 x6 x7 x9 u => pw_defun_337 Q x4 x5 x6 x7 x9 u) Q x4 x5 x6 x7 x9 u → pw_defun_337 Q x4 x5 x6 x7 x9 u := fun h => ⟨fun x4 x5 x6 x7 x9 u => pw_defun_337b (fun x4 x5 x6 x7 x9 u => pw_defun_337 Q x4 x5 x6 x7 x9 u) Q x4 x5 x6 x7 x9 u, fun r0 r1 r2 r3 r4 r5 a => mn_w_defun_337b (fun r0 r1 r2 r3 r4 r5 a => un_w_defun_337 a) (fun _ _ h => h) a, h⟩
theorem wp_w_defun_337 {Q1 Q2 : Int → iST → Prop}  {x4 : Int} {x5 : Int} {x6 : Int} {x7 : Int} {x9 : Int} {u : iST} (hQ : ∀ r0 r1, Q1 r0 r1 → Q2 r0 r1) : w_defun_337 Q1 x4 x5 x6 x7 x9 u → pw_defun_337 Q2 x4 x5 x6 x7 x9 u := fun a => a (fun x4 x5 x6 x7 x9 u => pw_defun_337 Q2 x4 x5 x6 x7 x9 u) (fun x4 x5 x6 x7 x9 u b => fo_w_defun_337 (wp_w_defun_337b (fun r0 r1 r2 r3 r4 r5 a => a) hQ b))
def pw_defun_303 (Q : Int → iST → Prop) (x3 : Int) (x4 : Int) (x5 : Int) (x6 : Int) (x7 : Int) (x8 : Int) (u : iST) : Prop :=
  pw_forget x8 (fun u => 
  rd (u.1 35) (fun v19 => 
  bdp v19 40 (sw (iA u 36 v19 x3) (fun u => 
  rd (u.1 35) (fun v20 => 
  pw_lengthOf x4 (fun v21 u => 
  bdp v20 40 (sw (iA u 37 v20 v21) (fun u => 
  pw_defun_337 Q x4 x5 x6 x7 0 u))) u))))) u
theorem cj_w_defun_303 {Q1 Q2 Q3 : Int → iST → Prop}  {x3 : Int} {x4 : Int} {x5 : Int} {x6 : Int} {x7 : Int} {x8 : Int} {u : iST} (hQ : ∀ r0 r1, Q1 r0 r1 → Q2 r0 r1 → Q3 r0 r1) : w_defun_303 Q1 x3 x4 x5 x6 x7 x8 u → pw_defun_303 Q2 x3 x4 x5 x6 x7 x8 u → w_defun_303 Q3 x3 x4 x5 x6 x7 x8 u := (cj_w_forget (fun _ => (rd_cj fun _ => (bd_cj (sw_cj fun _ => (rd_cj fun _ => (cj_w_lengthOf (fun _ _ => (bd_cj (sw_cj fun _ => (cj_w_defun_337  hQ)))))))))))
theorem mn_w_defun_303 {Q1 Q2 : Int → iST → Prop}  {x3 : Int} {x4 : Int} {x5 : Int} {x6 : Int} {x7 : Int} {x8 : Int} {u : iST} (hQ : ∀ r0 r1, Q1 r0 r1 → Q2 r0 r1) : pw_defun_303 Q1 x3 x4 x5 x6 x7 x8 u → pw_defun_303 Q2 x3 x4 x5 x6 x7 x8 u := (mn_w_forget (fun _ => (rd_mn fun _ => (bd_mn (sw_mn fun _ => (rd_mn fun _ => (mn_w_lengthOf (fun _ _ => (bd_mn (sw_mn fun _ => (mn_w_defun_337  hQ)))))))))))
theorem wp_w_defun_303 {Q1 Q2 : Int → iST → Prop}  {x3 : Int} {x4 : Int} {x5 : Int} {x6 : Int} {x7 : Int} {x8 : Int} {u : iST} (hQ : ∀ r0 r1, Q1 r0 r1 → Q2 r0 r1) : w_defun_303 Q1 x3 x4 x5 x6 x7 x8 u → pw_defun_303 Q2 x3 x4 x5 x6 x7 x8 u := (wp_w_forget (fun _ => (rd_wp fun _ => (bd_wp (sw_wp fun _ => (rd_wp fun _ => (wp_w_lengthOf (fun _ _ => (bd_wp (sw_wp fun _ => (wp_w_defun_337  hQ)))))))))))
def pw_defun_281 (Q : Int → iST → Prop) (x3 : Int) (x4 : Int) (x5 : Int) (x6 : Int) (x7 : Int) (x8 : Int) (y0 : Int) (u : iST) : Prop :=
  rd (u.1 61) (fun v37 => 
  br (v37 = 0) (
    br (y0 ≠ 0) (
      pw_defun_303 Q x3 x4 x5 x6 x7 x8 u) (
      pw_tellLeft (fun u => 
      Q 5 u) u)) (
    Q 4 u))
theorem cj_w_defun_281 {Q1 Q2 Q3 : Int → iST → Prop}  {x3 : Int} {x4 : Int} {x5 : Int} {x6 : Int} {x7 : Int} {x8 : Int} {y0 : Int} {u : iST} (hQ : ∀ r0 r1, Q1 r0 r1 → Q2 r0 r1 → Q3 r0 r1) : w_defun_281 Q1 x3 x4 x5 x6 x7 x8 y0 u → pw_defun_281 Q2 x3 x4 x5 x6 x7 x8 y0 u → w_defun_281 Q3 x3 x4 x5 x6 x7 x8 y0 u := (rd_cj fun _ => (br_cj (br_cj (cj_w_defun_303  hQ) (cj_w_tellLeft (fun _ => (hQ _ _)))) (hQ _ _)))
theorem mn_w_defun_281 {Q1 Q2 : Int → iST → Prop}  {x3 : Int} {x4 : Int} {x5 : Int} {x6 : Int} {x7 : Int} {x8 : Int} {y0 : Int} {u : iST} (hQ : ∀ r0 r1, Q1 r0 r1 → Q2 r0 r1) : pw_defun_281 Q1 x3 x4 x5 x6 x7 x8 y0 u → pw_defun_281 Q2 x3 x4 x5 x6 x7 x8 y0 u := (rd_mn fun _ => (br_mn (br_mn (mn_w_defun_303  hQ) (mn_w_tellLeft (fun _ => (hQ _ _)))) (hQ _ _)))
theorem wp_w_defun_281 {Q1 Q2 : Int → iST → Prop}  {x3 : Int} {x4 : Int} {x5 : Int} {x6 : Int} {x7 : Int} {x8 : Int} {y0 : Int} {u : iST} (hQ : ∀ r0 r1, Q1 r0 r1 → Q2 r0 r1) : w_defun_281 Q1 x3 x4 x5 x6 x7 x8 y0 u → pw_defun_281 Q2 x3 x4 x5 x6 x7 x8 y0 u := (rd_wp fun _ => (br_wp (br_wp (wp_w_defun_303  hQ) (wp_w_tellLeft (fun _ => (hQ _ _)))) (hQ _ _)))
def pw_defun_280 (Q : Int → iST → Prop) (x3 : Int) (x4 : Int) (x5 : Int) (x6 : Int) (x7 : Int) (x8 : Int) (u : iST) : Prop :=
  pw_defun_281 Q x3 x4 x5 x6 x7 x8 0 u
theorem cj_w_defun_280 {Q1 Q2 Q3 : Int → iST → Prop}  {x3 : Int} {x4 : Int} {x5 : Int} {x6 : Int} {x7 : Int} {x8 : Int} {u : iST} (hQ : ∀ r0 r1, Q1 r0 r1 → Q2 r0 r1 → Q3 r0 r1) : w_defun_280 Q1 x3 x4 x5 x6 x7 x8 u → pw_defun_280 Q2 x3 x4 x5 x6 x7 x8 u → w_defun_280 Q3 x3 x4 x5 x6 x7 x8 u := (cj_w_defun_281  hQ)
theorem mn_w_defun_280 {Q1 Q2 : Int → iST → Prop}  {x3 : Int} {x4 : Int} {x5 : Int} {x6 : Int} {x7 : Int} {x8 : Int} {u : iST} (hQ : ∀ r0 r1, Q1 r0 r1 → Q2 r0 r1) : pw_defun_280 Q1 x3 x4 x5 x6 x7 x8 u → pw_defun_280 Q2 x3 x4 x5 x6 x7 x8 u := (mn_w_defun_281  hQ)
theorem wp_w_defun_280 {Q1 Q2 : Int → iST → Prop}  {x3 : Int} {x4 : Int} {x5 : Int} {x6 : Int} {x7 : Int} {x8 : Int} {u : iST} (hQ : ∀ r0 r1, Q1 r0 r1 → Q2 r0 r1) : w_defun_280 Q1 x3 x4 x5 x6 x7 x8 u → pw_defun_280 Q2 x3 x4 x5 x6 x7 x8 u := (wp_w_defun_281  hQ)
def pw_defun_198 (Q : Int → iST → Prop) (x3 : Int) (x4 : Int) (x5 : Int) (x6 : Int) (x7 : Int) (u : iST) : Prop :=
  rd (u.1 8) (fun v13 => 
  pw_pathsOf x5 (fun u => 
  pw_areApart x3 (fun v15 u => 
  br (v15 ≠ 0) (
    pw_definition x3 (fun v16 u => 
    br (v16 = (-1)) (
      rd (u.1 35) (fun v17 => 
      br (v17 ≠ 40) (
        br (x7 = 0) (
          pw_defun_303 Q x3 x4 x5 x6 x7 v13 u) (
          sw (iI u 117 0) (fun u => 
          pw_measureRows x3 x4 x6 (fun u => 
          rd (u.1 61) (fun v36 => 
          br (v36 ≠ 0) (
            pw_defun_280 Q x3 x4 x5 x6 x7 v13 u) (
            pw_prove (fun v39 u => 
            br (v39 = 0) (
              pw_defun_280 Q x3 x4 x5 x6 x7 v13 u) (
              pw_defun_281 Q x3 x4 x5 x6 x7 v13 1 u)) u))) u))) (
        Q 8 u))) (
      Q 3 u)) u) (
    Q 2 u)) u) u)
theorem cj_w_defun_198 {Q1 Q2 Q3 : Int → iST → Prop}  {x3 : Int} {x4 : Int} {x5 : Int} {x6 : Int} {x7 : Int} {u : iST} (hQ : ∀ r0 r1, Q1 r0 r1 → Q2 r0 r1 → Q3 r0 r1) : w_defun_198 Q1 x3 x4 x5 x6 x7 u → pw_defun_198 Q2 x3 x4 x5 x6 x7 u → w_defun_198 Q3 x3 x4 x5 x6 x7 u := (rd_cj fun _ => (cj_w_pathsOf (fun _ => (cj_w_areApart (fun _ _ => (br_cj (cj_w_definition (fun _ _ => (br_cj (rd_cj fun _ => (br_cj (br_cj (cj_w_defun_303  hQ) (sw_cj fun _ => (cj_w_measureRows (fun _ => (rd_cj fun _ => (br_cj (cj_w_defun_280  hQ) (cj_w_prove (fun _ _ => (br_cj (cj_w_defun_280  hQ) (cj_w_defun_281  hQ)))))))))) (hQ _ _))) (hQ _ _)))) (hQ _ _)))))))
theorem mn_w_defun_198 {Q1 Q2 : Int → iST → Prop}  {x3 : Int} {x4 : Int} {x5 : Int} {x6 : Int} {x7 : Int} {u : iST} (hQ : ∀ r0 r1, Q1 r0 r1 → Q2 r0 r1) : pw_defun_198 Q1 x3 x4 x5 x6 x7 u → pw_defun_198 Q2 x3 x4 x5 x6 x7 u := (rd_mn fun _ => (mn_w_pathsOf (fun _ => (mn_w_areApart (fun _ _ => (br_mn (mn_w_definition (fun _ _ => (br_mn (rd_mn fun _ => (br_mn (br_mn (mn_w_defun_303  hQ) (sw_mn fun _ => (mn_w_measureRows (fun _ => (rd_mn fun _ => (br_mn (mn_w_defun_280  hQ) (mn_w_prove (fun _ _ => (br_mn (mn_w_defun_280  hQ) (mn_w_defun_281  hQ)))))))))) (hQ _ _))) (hQ _ _)))) (hQ _ _)))))))
theorem wp_w_defun_198 {Q1 Q2 : Int → iST → Prop}  {x3 : Int} {x4 : Int} {x5 : Int} {x6 : Int} {x7 : Int} {u : iST} (hQ : ∀ r0 r1, Q1 r0 r1 → Q2 r0 r1) : w_defun_198 Q1 x3 x4 x5 x6 x7 u → pw_defun_198 Q2 x3 x4 x5 x6 x7 u := (rd_wp fun _ => (wp_w_pathsOf (fun _ => (wp_w_areApart (fun _ _ => (br_wp (wp_w_definition (fun _ _ => (br_wp (rd_wp fun _ => (br_wp (br_wp (wp_w_defun_303  hQ) (sw_wp fun _ => (wp_w_measureRows (fun _ => (rd_wp fun _ => (br_wp (wp_w_defun_280  hQ) (wp_w_prove (fun _ _ => (br_wp (wp_w_defun_280  hQ) (wp_w_defun_281  hQ)))))))))) (hQ _ _))) (hQ _ _)))) (hQ _ _)))))))
def pw_defun_165 (Q : Int → iST → Prop) (x2 : Int) (x3 : Int) (x4 : Int) (x5 : Int) (x6 : Int) (x7 : Int) (y0 : Int) (y1 : Int) (u : iST) : Prop :=
  br (y0 = y1) (
    br (x2 ≠ 5) (
      pw_defun_198 Q x3 x4 x5 x6 x7 u) (
      pw_hasOnly x6 x4 (fun v40 u => 
      br (v40 = 0) (
        Q 2 u) (
        pw_hasCall x6 x3 (fun v41 u => 
        br (v41 = 0) (
          pw_defun_198 Q x3 x4 x5 x6 x7 u) (
          Q 2 u)) u)) u)) (
    Q 2 u)
theorem cj_w_defun_165 {Q1 Q2 Q3 : Int → iST → Prop}  {x2 : Int} {x3 : Int} {x4 : Int} {x5 : Int} {x6 : Int} {x7 : Int} {y0 : Int} {y1 : Int} {u : iST} (hQ : ∀ r0 r1, Q1 r0 r1 → Q2 r0 r1 → Q3 r0 r1) : w_defun_165 Q1 x2 x3 x4 x5 x6 x7 y0 y1 u → pw_defun_165 Q2 x2 x3 x4 x5 x6 x7 y0 y1 u → w_defun_165 Q3 x2 x3 x4 x5 x6 x7 y0 y1 u := (br_cj (br_cj (cj_w_defun_198  hQ) (cj_w_hasOnly (fun _ _ => (br_cj (hQ _ _) (cj_w_hasCall (fun _ _ => (br_cj (cj_w_defun_198  hQ) (hQ _ _)))))))) (hQ _ _))
theorem mn_w_defun_165 {Q1 Q2 : Int → iST → Prop}  {x2 : Int} {x3 : Int} {x4 : Int} {x5 : Int} {x6 : Int} {x7 : Int} {y0 : Int} {y1 : Int} {u : iST} (hQ : ∀ r0 r1, Q1 r0 r1 → Q2 r0 r1) : pw_defun_165 Q1 x2 x3 x4 x5 x6 x7 y0 y1 u → pw_defun_165 Q2 x2 x3 x4 x5 x6 x7 y0 y1 u := (br_mn (br_mn (mn_w_defun_198  hQ) (mn_w_hasOnly (fun _ _ => (br_mn (hQ _ _) (mn_w_hasCall (fun _ _ => (br_mn (mn_w_defun_198  hQ) (hQ _ _)))))))) (hQ _ _))
theorem wp_w_defun_165 {Q1 Q2 : Int → iST → Prop}  {x2 : Int} {x3 : Int} {x4 : Int} {x5 : Int} {x6 : Int} {x7 : Int} {y0 : Int} {y1 : Int} {u : iST} (hQ : ∀ r0 r1, Q1 r0 r1 → Q2 r0 r1) : w_defun_165 Q1 x2 x3 x4 x5 x6 x7 y0 y1 u → pw_defun_165 Q2 x2 x3 x4 x5 x6 x7 y0 y1 u := (br_wp (br_wp (wp_w_defun_198  hQ) (wp_w_hasOnly (fun _ _ => (br_wp (hQ _ _) (wp_w_hasCall (fun _ _ => (br_wp (wp_w_defun_198  hQ) (hQ _ _)))))))) (hQ _ _))
def pw_defun_131 (Q : Int → iST → Prop) (x2 : Int) (x3 : Int) (x4 : Int) (x5 : Int) (x6 : Int) (u : iST) : Prop :=
  pw_hasOnly x5 x4 (fun v11 u => 
  br (v11 ≠ 0) (
    pw_hasCall x5 x3 (fun v12 u => 
    br (x2 ≠ 5) (
      pw_defun_165 Q x2 x3 x4 x5 x6 v12 v12 0 u) (
      pw_defun_165 Q x2 x3 x4 x5 x6 v12 v12 1 u)) u) (
    Q 2 u)) u
theorem cj_w_defun_131 {Q1 Q2 Q3 : Int → iST → Prop}  {x2 : Int} {x3 : Int} {x4 : Int} {x5 : Int} {x6 : Int} {u : iST} (hQ : ∀ r0 r1, Q1 r0 r1 → Q2 r0 r1 → Q3 r0 r1) : w_defun_131 Q1 x2 x3 x4 x5 x6 u → pw_defun_131 Q2 x2 x3 x4 x5 x6 u → w_defun_131 Q3 x2 x3 x4 x5 x6 u := (cj_w_hasOnly (fun _ _ => (br_cj (cj_w_hasCall (fun _ _ => (br_cj (cj_w_defun_165  hQ) (cj_w_defun_165  hQ)))) (hQ _ _))))
theorem mn_w_defun_131 {Q1 Q2 : Int → iST → Prop}  {x2 : Int} {x3 : Int} {x4 : Int} {x5 : Int} {x6 : Int} {u : iST} (hQ : ∀ r0 r1, Q1 r0 r1 → Q2 r0 r1) : pw_defun_131 Q1 x2 x3 x4 x5 x6 u → pw_defun_131 Q2 x2 x3 x4 x5 x6 u := (mn_w_hasOnly (fun _ _ => (br_mn (mn_w_hasCall (fun _ _ => (br_mn (mn_w_defun_165  hQ) (mn_w_defun_165  hQ)))) (hQ _ _))))
theorem wp_w_defun_131 {Q1 Q2 : Int → iST → Prop}  {x2 : Int} {x3 : Int} {x4 : Int} {x5 : Int} {x6 : Int} {u : iST} (hQ : ∀ r0 r1, Q1 r0 r1 → Q2 r0 r1) : w_defun_131 Q1 x2 x3 x4 x5 x6 u → pw_defun_131 Q2 x2 x3 x4 x5 x6 u := (wp_w_hasOnly (fun _ _ => (br_wp (wp_w_hasCall (fun _ _ => (br_wp (wp_w_defun_165  hQ) (wp_w_defun_165  hQ)))) (hQ _ _))))
def pw_defun_107 (Q : Int → iST → Prop) (x2 : Int) (x3 : Int) (x4 : Int) (x5 : Int) (y0 : Int) (u : iST) : Prop :=
  sw (iI u 57 (-1)) (fun u => 
  br (x5 = (-1)) (
    Q 2 u) (
    br (x2 ≠ 5) (
      pw_defun_131 Q x2 x3 x4 x5 y0 u) (
      br (y0 = (-1)) (
        Q 2 u) (
        pw_defun_131 Q x2 x3 x4 x5 y0 u))))
theorem cj_w_defun_107 {Q1 Q2 Q3 : Int → iST → Prop}  {x2 : Int} {x3 : Int} {x4 : Int} {x5 : Int} {y0 : Int} {u : iST} (hQ : ∀ r0 r1, Q1 r0 r1 → Q2 r0 r1 → Q3 r0 r1) : w_defun_107 Q1 x2 x3 x4 x5 y0 u → pw_defun_107 Q2 x2 x3 x4 x5 y0 u → w_defun_107 Q3 x2 x3 x4 x5 y0 u := (sw_cj fun _ => (br_cj (hQ _ _) (br_cj (cj_w_defun_131  hQ) (br_cj (hQ _ _) (cj_w_defun_131  hQ)))))
theorem mn_w_defun_107 {Q1 Q2 : Int → iST → Prop}  {x2 : Int} {x3 : Int} {x4 : Int} {x5 : Int} {y0 : Int} {u : iST} (hQ : ∀ r0 r1, Q1 r0 r1 → Q2 r0 r1) : pw_defun_107 Q1 x2 x3 x4 x5 y0 u → pw_defun_107 Q2 x2 x3 x4 x5 y0 u := (sw_mn fun _ => (br_mn (hQ _ _) (br_mn (mn_w_defun_131  hQ) (br_mn (hQ _ _) (mn_w_defun_131  hQ)))))
theorem wp_w_defun_107 {Q1 Q2 : Int → iST → Prop}  {x2 : Int} {x3 : Int} {x4 : Int} {x5 : Int} {y0 : Int} {u : iST} (hQ : ∀ r0 r1, Q1 r0 r1 → Q2 r0 r1) : w_defun_107 Q1 x2 x3 x4 x5 y0 u → pw_defun_107 Q2 x2 x3 x4 x5 y0 u := (sw_wp fun _ => (br_wp (hQ _ _) (br_wp (wp_w_defun_131  hQ) (br_wp (hQ _ _) (wp_w_defun_131  hQ)))))
def pw_defun_16 (Q : Int → iST → Prop) (x1 : Int) (x2 : Int) (u : iST) : Prop :=
  pw_nth x1 1 (fun v2 u => 
  pw_isNewName v2 (fun v3 u => 
  br (v3 = 0) (
    Q 2 u) (
    pw_nth x1 2 (fun v4 u => 
    pw_areVariables v4 6 (fun v5 u => 
    br (v5 ≠ 0) (
      pw_nth x1 1 (fun v6 u => 
      pw_nth x1 2 (fun v7 u => 
      sw (iI u 57 v6) (fun u => 
      pw_lengthOf v7 (fun v8 u => 
      sw (iI u 58 v8) (fun u => 
      pw_nth x1 3 (fun v9 u => 
      pw_termOf v9 (fun v10 u => 
      br (x2 ≠ 5) (
        pw_defun_107 Q x2 v6 v7 v10 (-1) u) (
        pw_nth x1 4 (fun v42 u => 
        pw_termOf v42 (fun v43 u => 
        pw_defun_107 Q x2 v6 v7 v10 v43 u) u) u)) u) u)) u)) u) u) (
      Q 2 u)) u) u)) u) u
theorem cj_w_defun_16 {Q1 Q2 Q3 : Int → iST → Prop}  {x1 : Int} {x2 : Int} {u : iST} (hQ : ∀ r0 r1, Q1 r0 r1 → Q2 r0 r1 → Q3 r0 r1) : w_defun_16 Q1 x1 x2 u → pw_defun_16 Q2 x1 x2 u → w_defun_16 Q3 x1 x2 u := (cj_w_nth (fun _ _ => (cj_w_isNewName (fun _ _ => (br_cj (hQ _ _) (cj_w_nth (fun _ _ => (cj_w_areVariables (fun _ _ => (br_cj (cj_w_nth (fun _ _ => (cj_w_nth (fun _ _ => (sw_cj fun _ => (cj_w_lengthOf (fun _ _ => (sw_cj fun _ => (cj_w_nth (fun _ _ => (cj_w_termOf (fun _ _ => (br_cj (cj_w_defun_107  hQ) (cj_w_nth (fun _ _ => (cj_w_termOf (fun _ _ => (cj_w_defun_107  hQ)))))))))))))))))) (hQ _ _)))))))))))
theorem mn_w_defun_16 {Q1 Q2 : Int → iST → Prop}  {x1 : Int} {x2 : Int} {u : iST} (hQ : ∀ r0 r1, Q1 r0 r1 → Q2 r0 r1) : pw_defun_16 Q1 x1 x2 u → pw_defun_16 Q2 x1 x2 u := (mn_w_nth (fun _ _ => (mn_w_isNewName (fun _ _ => (br_mn (hQ _ _) (mn_w_nth (fun _ _ => (mn_w_areVariables (fun _ _ => (br_mn (mn_w_nth (fun _ _ => (mn_w_nth (fun _ _ => (sw_mn fun _ => (mn_w_lengthOf (fun _ _ => (sw_mn fun _ => (mn_w_nth (fun _ _ => (mn_w_termOf (fun _ _ => (br_mn (mn_w_defun_107  hQ) (mn_w_nth (fun _ _ => (mn_w_termOf (fun _ _ => (mn_w_defun_107  hQ)))))))))))))))))) (hQ _ _)))))))))))
theorem wp_w_defun_16 {Q1 Q2 : Int → iST → Prop}  {x1 : Int} {x2 : Int} {u : iST} (hQ : ∀ r0 r1, Q1 r0 r1 → Q2 r0 r1) : w_defun_16 Q1 x1 x2 u → pw_defun_16 Q2 x1 x2 u := (wp_w_nth (fun _ _ => (wp_w_isNewName (fun _ _ => (br_wp (hQ _ _) (wp_w_nth (fun _ _ => (wp_w_areVariables (fun _ _ => (br_wp (wp_w_nth (fun _ _ => (wp_w_nth (fun _ _ => (sw_wp fun _ => (wp_w_lengthOf (fun _ _ => (sw_wp fun _ => (wp_w_nth (fun _ _ => (wp_w_termOf (fun _ _ => (br_wp (wp_w_defun_107  hQ) (wp_w_nth (fun _ _ => (wp_w_termOf (fun _ _ => (wp_w_defun_107  hQ)))))))))))))))))) (hQ _ _)))))))))))
def pw_defun (a0 : Int) (Q : Int → iST → Prop) (u : iST) : Prop :=
  pw_lengthOf a0 (fun v1 u => 
  br (v1 = 4) (
    pw_defun_16 Q a0 v1 u) (
    br (v1 ≠ 5) (
      Q 2 u) (
      pw_defun_16 Q a0 v1 u))) u
theorem cj_w_defun {Q1 Q2 Q3 : Int → iST → Prop}  {a0 : Int} {u : iST} (hQ : ∀ r0 r1, Q1 r0 r1 → Q2 r0 r1 → Q3 r0 r1) : w_defun a0 Q1 u → pw_defun a0 Q2 u → w_defun a0 Q3 u := (cj_w_lengthOf (fun _ _ => (br_cj (cj_w_defun_16  hQ) (br_cj (hQ _ _) (cj_w_defun_16  hQ)))))
theorem mn_w_defun {Q1 Q2 : Int → iST → Prop}  {a0 : Int} {u : iST} (hQ : ∀ r0 r1, Q1 r0 r1 → Q2 r0 r1) : pw_defun a0 Q1 u → pw_defun a0 Q2 u := (mn_w_lengthOf (fun _ _ => (br_mn (mn_w_defun_16  hQ) (br_mn (hQ _ _) (mn_w_defun_16  hQ)))))
theorem wp_w_defun {Q1 Q2 : Int → iST → Prop}  {a0 : Int} {u : iST} (hQ : ∀ r0 r1, Q1 r0 r1 → Q2 r0 r1) : w_defun a0 Q1 u → pw_defun a0 Q2 u := (wp_w_lengthOf (fun _ _ => (br_wp (wp_w_defun_16  hQ) (br_wp (hQ _ _) (wp_w_defun_16  hQ)))))
def pw_hypotheses_78 (R9 : Int → Int → iST → Prop) (Q : iST → Prop) (x1 : Int) (x3 : Int) (x4 : Int) (u : iST) : Prop :=
  ovp (120 * x1) (
  bdp x1 60 (rd (u.2.1 48 x1) (fun v5 => 
  ovp ((120 * x1) + v5) (
  bdp ((120 * x1) + v5) 7200 (sw (iA u 49 ((120 * x1) + v5) x4) (fun u => 
  bdp x1 60 (rd (u.2.1 48 x1) (fun v7 => 
  ovp (v7 + 1) (
  bdp x1 60 (sw (iA u 48 x1 (v7 + 1)) (fun u => 
  R9 x1 x3 u)))))))))))
theorem cj_w_hypotheses_78 {Q1 Q2 Q3 : iST → Prop} {R91 R92 R93 : Int → Int → iST → Prop} {x1 : Int} {x3 : Int} {x4 : Int} {u : iST} (hR9 : ∀ r0 r1 r2, R91 r0 r1 r2 → R92 r0 r1 r2 → R93 r0 r1 r2) (hQ : ∀ r0, Q1 r0 → Q2 r0 → Q3 r0) : w_hypotheses_78 R91 Q1 x1 x3 x4 u → pw_hypotheses_78 R92 Q2 x1 x3 x4 u → w_hypotheses_78 R93 Q3 x1 x3 x4 u := (ov_cj (bd_cj (rd_cj fun _ => (ov_cj (bd_cj (sw_cj fun _ => (bd_cj (rd_cj fun _ => (ov_cj (bd_cj (sw_cj fun _ => (hR9 _ _ _))))))))))))
theorem mn_w_hypotheses_78 {Q1 Q2 : iST → Prop} {R91 R92 : Int → Int → iST → Prop} {x1 : Int} {x3 : Int} {x4 : Int} {u : iST} (hR9 : ∀ r0 r1 r2, R91 r0 r1 r2 → R92 r0 r1 r2) (hQ : ∀ r0, Q1 r0 → Q2 r0) : pw_hypotheses_78 R91 Q1 x1 x3 x4 u → pw_hypotheses_78 R92 Q2 x1 x3 x4 u := (ov_mn (bd_mn (rd_mn fun _ => (ov_mn (bd_mn (sw_mn fun _ => (bd_mn (rd_mn fun _ => (ov_mn (bd_mn (sw_mn fun _ => (hR9 _ _ _))))))))))))
theorem wp_w_hypotheses_78 {Q1 Q2 : iST → Prop} {R91 R92 : Int → Int → iST → Prop} {x1 : Int} {x3 : Int} {x4 : Int} {u : iST} (hR9 : ∀ r0 r1 r2, R91 r0 r1 r2 → R92 r0 r1 r2) (hQ : ∀ r0, Q1 r0 → Q2 r0) : w_hypotheses_78 R91 Q1 x1 x3 x4 u → pw_hypotheses_78 R92 Q2 x1 x3 x4 u := (ov_wp (bd_wp (rd_wp fun _ => (ov_wp (bd_wp (sw_wp fun _ => (bd_wp (rd_wp fun _ => (ov_wp (bd_wp (sw_wp fun _ => (hR9 _ _ _))))))))))))
def pw_hypotheses_9b (R9 : Int → Int → iST → Prop) (Q : iST → Prop) (x1 : Int) (x3 : Int) (u : iST) : Prop :=
  br (x3 ≤ 0) (
    Q u) (
    ovp (x3 + (-1)) (
    bdp (x3 + (-1)) 800 (rd (u.2.1 112 (x3 + (-1))) (fun v2 => 
    pw_isCallOf v2 3 (fun v3 u => 
    br (v3 = 0) (
      pw_hypotheses_78 R9 Q x1 (x3 + (-1)) v2 u) (
      pw_term v2 3 (fun v9 u => 
      br (v9 ≠ 0) (
        pw_hypotheses_78 R9 Q x1 (x3 + (-1)) v2 u) (
        pw_term v2 2 (fun v10 u => 
        bdp (x3 + (-1)) 800 (sw (iA u 112 (x3 + (-1)) v10) (fun u => 
        ovp ((x3 + (-1)) + 1) (
        pw_term v2 1 (fun v12 u => 
        bdp ((x3 + (-1)) + 1) 800 (sw (iA u 112 ((x3 + (-1)) + 1) v12) (fun u => 
        ovp ((x3 + (-1)) + 2) (
        R9 x1 ((x3 + (-1)) + 2) u)))) u)))) u)) u)) u))))
theorem cj_w_hypotheses_9b {Q1 Q2 Q3 : iST → Prop} {R91 R92 R93 : Int → Int → iST → Prop} {x1 : Int} {x3 : Int} {u : iST} (hR9 : ∀ r0 r1 r2, R91 r0 r1 r2 → R92 r0 r1 r2 → R93 r0 r1 r2) (hQ : ∀ r0, Q1 r0 → Q2 r0 → Q3 r0) : w_hypotheses_9b R91 Q1 x1 x3 u → pw_hypotheses_9b R92 Q2 x1 x3 u → w_hypotheses_9b R93 Q3 x1 x3 u := (br_cj (hQ _) (ov_cj (bd_cj (rd_cj fun _ => (cj_w_isCallOf (fun _ _ => (br_cj (cj_w_hypotheses_78 hR9 hQ) (cj_w_term (fun _ _ => (br_cj (cj_w_hypotheses_78 hR9 hQ) (cj_w_term (fun _ _ => (bd_cj (sw_cj fun _ => (ov_cj (cj_w_term (fun _ _ => (bd_cj (sw_cj fun _ => (ov_cj (hR9 _ _ _)))))))))))))))))))))
theorem mn_w_hypotheses_9b {Q1 Q2 : iST → Prop} {R91 R92 : Int → Int → iST → Prop} {x1 : Int} {x3 : Int} {u : iST} (hR9 : ∀ r0 r1 r2, R91 r0 r1 r2 → R92 r0 r1 r2) (hQ : ∀ r0, Q1 r0 → Q2 r0) : pw_hypotheses_9b R91 Q1 x1 x3 u → pw_hypotheses_9b R92 Q2 x1 x3 u := (br_mn (hQ _) (ov_mn (bd_mn (rd_mn fun _ => (mn_w_isCallOf (fun _ _ => (br_mn (mn_w_hypotheses_78 hR9 hQ) (mn_w_term (fun _ _ => (br_mn (mn_w_hypotheses_78 hR9 hQ) (mn_w_term (fun _ _ => (bd_mn (sw_mn fun _ => (ov_mn (mn_w_term (fun _ _ => (bd_mn (sw_mn fun _ => (ov_mn (hR9 _ _ _)))))))))))))))))))))
theorem wp_w_hypotheses_9b {Q1 Q2 : iST → Prop} {R91 R92 : Int → Int → iST → Prop} {x1 : Int} {x3 : Int} {u : iST} (hR9 : ∀ r0 r1 r2, R91 r0 r1 r2 → R92 r0 r1 r2) (hQ : ∀ r0, Q1 r0 → Q2 r0) : w_hypotheses_9b R91 Q1 x1 x3 u → pw_hypotheses_9b R92 Q2 x1 x3 u := (br_wp (hQ _) (ov_wp (bd_wp (rd_wp fun _ => (wp_w_isCallOf (fun _ _ => (br_wp (wp_w_hypotheses_78 hR9 hQ) (wp_w_term (fun _ _ => (br_wp (wp_w_hypotheses_78 hR9 hQ) (wp_w_term (fun _ _ => (bd_wp (sw_wp fun _ => (ov_wp (wp_w_term (fun _ _ => (bd_wp (sw_wp fun _ => (ov_wp (hR9 _ _ _)))))))))))))))))))))
def pw_hypotheses_9 (Q : iST → Prop) (x1 : Int) (x3 : Int) (u : iST) : Prop := ∃ R9 : Int → Int → iST → Prop, (∀ (x1 : Int) (x3 : Int) (u : iST), R9 x1 x3 u → pw_hypotheses_9b R9 Q x1 x3 u) ∧ R9 x1 x3 u
theorem cj_w_hypotheses_9 {Q1 Q2 Q3 : iST → Prop}  {x1 : Int} {x3 : Int} {u : iST} (hQ : ∀ r0, Q1 r0 → Q2 r0 → Q3 r0) : w_hypotheses_9 Q1 x1 x3 u → pw_hypotheses_9 Q2 x1 x3 u → w_hypotheses_9 Q3 x1 x3 u := by
  intro a b R3 c3
  obtain ⟨R2, c2, b2⟩ := b
  exact a (fun r0 r1 r2 => R2 r0 r1 r2 → R3 r0 r1 r2) (fun r0 r1 r2 a b => c3 r0 r1 r2 (cj_w_hypotheses_9b (fun r0 r1 r2 a b => a b) hQ a (c2 r0 r1 r2 b))) b2
theorem pw_hypotheses_9_i  {Q : iST → Prop} {x1 : Int} {x3 : Int} {u : iST} (I : Int → Int → iST → Prop) (s : ∀ (x1 : Int) (x3 : Int) (u : iST), I x1 x3 u → pw_hypotheses_9b I Q x1 x3 u) (h : I x1 x3 u) : pw_hypotheses_9 Q x1 x3 u := ⟨I, s, h⟩
theorem mn_w_hypotheses_9 {Q1 Q2 : iST → Prop}  {x1 : Int} {x3 : Int} {u : iST} (hQ : ∀ r0, Q1 r0 → Q2 r0) : pw_hypotheses_9 Q1 x1 x3 u → pw_hypotheses_9 Q2 x1 x3 u := fun ⟨R, s, h⟩ => ⟨R, fun r0 r1 r2 a => mn_w_hypotheses_9b (fun r0 r1 r2 a => a) hQ (s r0 r1 r2 a), h⟩
theorem un_w_hypotheses_9  {Q : iST → Prop} {x1 : Int} {x3 : Int} {u : iST} : pw_hypotheses_9 Q x1 x3 u → pw_hypotheses_9b (fun x1 x3 u => pw_hypotheses_9 Q x1 x3 u) Q x1 x3 u := fun ⟨R, s, h⟩ => mn_w_hypotheses_9b (fun r0 r1 r2 a => ⟨R, s, a⟩) (fun _ h => h) (s _ _ _ h)
theorem fo_w_hypotheses_9  {Q : iST → Prop} {x1 : Int} {x3 : Int} {u : iST} : pw_hypotheses_9b (fun x1 x3 u => pw_hypotheses_9 Q x1 x3 u) Q x1 x3 u → pw_hypotheses_9 Q x1 x3 u := fun h => ⟨fun x1 x3 u => pw_hypotheses_9b (fun x1 x3 u => pw_hypotheses_9 Q x1 x3 u) Q x1 x3 u, fun r0 r1 r2 a => mn_w_hypotheses_9b (fun r0 r1 r2 a => un_w_hypotheses_9 a) (fun _ h => h) a, h⟩
theorem wp_w_hypotheses_9 {Q1 Q2 : iST → Prop}  {x1 : Int} {x3 : Int} {u : iST} (hQ : ∀ r0, Q1 r0 → Q2 r0) : w_hypotheses_9 Q1 x1 x3 u → pw_hypotheses_9 Q2 x1 x3 u := fun a => a (fun x1 x3 u => pw_hypotheses_9 Q2 x1 x3 u) (fun x1 x3 u b => fo_w_hypotheses_9 (wp_w_hypotheses_9b (fun r0 r1 r2 a => a) hQ b))
def pw_hypotheses (a0 : Int) (a1 : Int) (Q : iST → Prop) (u : iST) : Prop :=
  bdp 0 800 (sw (iA u 112 0 a1) (fun u => 
  pw_hypotheses_9 Q a0 1 u))
theorem cj_w_hypotheses {Q1 Q2 Q3 : iST → Prop}  {a0 : Int} {a1 : Int} {u : iST} (hQ : ∀ r0, Q1 r0 → Q2 r0 → Q3 r0) : w_hypotheses a0 a1 Q1 u → pw_hypotheses a0 a1 Q2 u → w_hypotheses a0 a1 Q3 u := (bd_cj (sw_cj fun _ => (cj_w_hypotheses_9  hQ)))
theorem mn_w_hypotheses {Q1 Q2 : iST → Prop}  {a0 : Int} {a1 : Int} {u : iST} (hQ : ∀ r0, Q1 r0 → Q2 r0) : pw_hypotheses a0 a1 Q1 u → pw_hypotheses a0 a1 Q2 u := (bd_mn (sw_mn fun _ => (mn_w_hypotheses_9  hQ)))
theorem wp_w_hypotheses {Q1 Q2 : iST → Prop}  {a0 : Int} {a1 : Int} {u : iST} (hQ : ∀ r0, Q1 r0 → Q2 r0) : w_hypotheses a0 a1 Q1 u → pw_hypotheses a0 a1 Q2 u := (bd_wp (sw_wp fun _ => (wp_w_hypotheses_9  hQ)))
def pw_covers_13b (R13 : Int → Int → Int → iST → Prop) (Q : Int → iST → Prop) (x1 : Int) (x3 : Int) (x4 : Int) (u : iST) : Prop :=
  br (x3 ≤ x4) (
    ztp 1 (Q 1 u)) (
    bdp x4 130 (rd (u.2.1 77 x4) (fun v3 => 
    pw_hasVariable x1 v3 (fun v4 u => 
    br (v4 ≠ 0) (
      ovp (x4 + 1) (
      R13 x1 x3 (x4 + 1) u)) (
      ztp 0 (Q 0 u))) u)))
theorem cj_w_covers_13b {Q1 Q2 Q3 : Int → iST → Prop} {R131 R132 R133 : Int → Int → Int → iST → Prop} {x1 : Int} {x3 : Int} {x4 : Int} {u : iST} (hR13 : ∀ r0 r1 r2 r3, R131 r0 r1 r2 r3 → R132 r0 r1 r2 r3 → R133 r0 r1 r2 r3) (hQ : ∀ r0 r1, Q1 r0 r1 → Q2 r0 r1 → Q3 r0 r1) : w_covers_13b R131 Q1 x1 x3 x4 u → pw_covers_13b R132 Q2 x1 x3 x4 u → w_covers_13b R133 Q3 x1 x3 x4 u := (br_cj (zt_cj (hQ _ _)) (bd_cj (rd_cj fun _ => (cj_w_hasVariable (fun _ _ => (br_cj (ov_cj (hR13 _ _ _ _)) (zt_cj (hQ _ _))))))))
theorem mn_w_covers_13b {Q1 Q2 : Int → iST → Prop} {R131 R132 : Int → Int → Int → iST → Prop} {x1 : Int} {x3 : Int} {x4 : Int} {u : iST} (hR13 : ∀ r0 r1 r2 r3, R131 r0 r1 r2 r3 → R132 r0 r1 r2 r3) (hQ : ∀ r0 r1, Q1 r0 r1 → Q2 r0 r1) : pw_covers_13b R131 Q1 x1 x3 x4 u → pw_covers_13b R132 Q2 x1 x3 x4 u := (br_mn (zt_mn (hQ _ _)) (bd_mn (rd_mn fun _ => (mn_w_hasVariable (fun _ _ => (br_mn (ov_mn (hR13 _ _ _ _)) (zt_mn (hQ _ _))))))))
theorem wp_w_covers_13b {Q1 Q2 : Int → iST → Prop} {R131 R132 : Int → Int → Int → iST → Prop} {x1 : Int} {x3 : Int} {x4 : Int} {u : iST} (hR13 : ∀ r0 r1 r2 r3, R131 r0 r1 r2 r3 → R132 r0 r1 r2 r3) (hQ : ∀ r0 r1, Q1 r0 r1 → Q2 r0 r1) : w_covers_13b R131 Q1 x1 x3 x4 u → pw_covers_13b R132 Q2 x1 x3 x4 u := (br_wp (zt_wp (hQ _ _)) (bd_wp (rd_wp fun _ => (wp_w_hasVariable (fun _ _ => (br_wp (ov_wp (hR13 _ _ _ _)) (zt_wp (hQ _ _))))))))
def pw_covers_13 (Q : Int → iST → Prop) (x1 : Int) (x3 : Int) (x4 : Int) (u : iST) : Prop := ∃ R13 : Int → Int → Int → iST → Prop, (∀ (x1 : Int) (x3 : Int) (x4 : Int) (u : iST), R13 x1 x3 x4 u → pw_covers_13b R13 Q x1 x3 x4 u) ∧ R13 x1 x3 x4 u
theorem cj_w_covers_13 {Q1 Q2 Q3 : Int → iST → Prop}  {x1 : Int} {x3 : Int} {x4 : Int} {u : iST} (hQ : ∀ r0 r1, Q1 r0 r1 → Q2 r0 r1 → Q3 r0 r1) : w_covers_13 Q1 x1 x3 x4 u → pw_covers_13 Q2 x1 x3 x4 u → w_covers_13 Q3 x1 x3 x4 u := by
  intro a b R3 c3
  obtain ⟨R2, c2, b2⟩ := b
  exact a (fun r0 r1 r2 r3 => R2 r0 r1 r2 r3 → R3 r0 r1 r2 r3) (fun r0 r1 r2 r3 a b => c3 r0 r1 r2 r3 (cj_w_covers_13b (fun r0 r1 r2 r3 a b => a b) hQ a (c2 r0 r1 r2 r3 b))) b2
theorem pw_covers_13_i  {Q : Int → iST → Prop} {x1 : Int} {x3 : Int} {x4 : Int} {u : iST} (I : Int → Int → Int → iST → Prop) (s : ∀ (x1 : Int) (x3 : Int) (x4 : Int) (u : iST), I x1 x3 x4 u → pw_covers_13b I Q x1 x3 x4 u) (h : I x1 x3 x4 u) : pw_covers_13 Q x1 x3 x4 u := ⟨I, s, h⟩
theorem mn_w_covers_13 {Q1 Q2 : Int → iST → Prop}  {x1 : Int} {x3 : Int} {x4 : Int} {u : iST} (hQ : ∀ r0 r1, Q1 r0 r1 → Q2 r0 r1) : pw_covers_13 Q1 x1 x3 x4 u → pw_covers_13 Q2 x1 x3 x4 u := fun ⟨R, s, h⟩ => ⟨R, fun r0 r1 r2 r3 a => mn_w_covers_13b (fun r0 r1 r2 r3 a => a) hQ (s r0 r1 r2 r3 a), h⟩
theorem un_w_covers_13  {Q : Int → iST → Prop} {x1 : Int} {x3 : Int} {x4 : Int} {u : iST} : pw_covers_13 Q x1 x3 x4 u → pw_covers_13b (fun x1 x3 x4 u => pw_covers_13 Q x1 x3 x4 u) Q x1 x3 x4 u := fun ⟨R, s, h⟩ => mn_w_covers_13b (fun r0 r1 r2 r3 a => ⟨R, s, a⟩) (fun _ _ h => h) (s _ _ _ _ h)
theorem fo_w_covers_13  {Q : Int → iST → Prop} {x1 : Int} {x3 : Int} {x4 : Int} {u : iST} : pw_covers_13b (fun x1 x3 x4 u => pw_covers_13 Q x1 x3 x4 u) Q x1 x3 x4 u → pw_covers_13 Q x1 x3 x4 u := fun h => ⟨fun x1 x3 x4 u => pw_covers_13b (fun x1 x3 x4 u => pw_covers_13 Q x1 x3 x4 u) Q x1 x3 x4 u, fun r0 r1 r2 r3 a => mn_w_covers_13b (fun r0 r1 r2 r3 a => un_w_covers_13 a) (fun _ _ h => h) a, h⟩
theorem wp_w_covers_13 {Q1 Q2 : Int → iST → Prop}  {x1 : Int} {x3 : Int} {x4 : Int} {u : iST} (hQ : ∀ r0 r1, Q1 r0 r1 → Q2 r0 r1) : w_covers_13 Q1 x1 x3 x4 u → pw_covers_13 Q2 x1 x3 x4 u := fun a => a (fun x1 x3 x4 u => pw_covers_13 Q2 x1 x3 x4 u) (fun x1 x3 x4 u b => fo_w_covers_13 (wp_w_covers_13b (fun r0 r1 r2 r3 a => a) hQ b))
def pw_covers (a0 : Int) (a1 : Int) (Q : Int → iST → Prop) (u : iST) : Prop :=
  pw_variablesOf a1 (fun u => 
  rd (u.1 78) (fun v2 => 
  pw_covers_13 Q a0 v2 0 u)) u
theorem cj_w_covers {Q1 Q2 Q3 : Int → iST → Prop}  {a0 : Int} {a1 : Int} {u : iST} (hQ : ∀ r0 r1, Q1 r0 r1 → Q2 r0 r1 → Q3 r0 r1) : w_covers a0 a1 Q1 u → pw_covers a0 a1 Q2 u → w_covers a0 a1 Q3 u := (cj_w_variablesOf (fun _ => (rd_cj fun _ => (cj_w_covers_13  hQ))))
theorem mn_w_covers {Q1 Q2 : Int → iST → Prop}  {a0 : Int} {a1 : Int} {u : iST} (hQ : ∀ r0 r1, Q1 r0 r1 → Q2 r0 r1) : pw_covers a0 a1 Q1 u → pw_covers a0 a1 Q2 u := (mn_w_variablesOf (fun _ => (rd_mn fun _ => (mn_w_covers_13  hQ))))
theorem wp_w_covers {Q1 Q2 : Int → iST → Prop}  {a0 : Int} {a1 : Int} {u : iST} (hQ : ∀ r0 r1, Q1 r0 r1 → Q2 r0 r1) : w_covers a0 a1 Q1 u → pw_covers a0 a1 Q2 u := (wp_w_variablesOf (fun _ => (rd_wp fun _ => (wp_w_covers_13  hQ))))
def pw_ruleOf_295 (Q : iST → Prop) (x1 : Int) (x4 : Int) (x5 : Int) (x6 : Int) (x8 : Int) (y1 : Int) (y2 : Int) (u : iST) : Prop :=
  ztp y2 (bdp y1 60 (sw (iA u 50 y1 y2) (fun u => 
  br (x8 = 0) (
    ztp 0 (bdp x1 60 (sw (iA u 51 x1 0) (fun u => 
    Q u)))) (
    br (x4 ≠ 0) (
      ztp 0 (bdp x1 60 (sw (iA u 51 x1 0) (fun u => 
      Q u)))) (
      br (x5 ≠ 0) (
        ztp 0 (bdp x1 60 (sw (iA u 51 x1 0) (fun u => 
        Q u)))) (
        pw_isBoolean x6 (fun v7 u => 
        br (v7 ≠ 0) (
          ztp 0 (bdp x1 60 (sw (iA u 51 x1 0) (fun u => 
          Q u)))) (
          ztp 1 (bdp x1 60 (sw (iA u 51 x1 1) (fun u => 
          Q u))))) u))))))
theorem cj_w_ruleOf_295 {Q1 Q2 Q3 : iST → Prop}  {x1 : Int} {x4 : Int} {x5 : Int} {x6 : Int} {x8 : Int} {y1 : Int} {y2 : Int} {u : iST} (hQ : ∀ r0, Q1 r0 → Q2 r0 → Q3 r0) : w_ruleOf_295 Q1 x1 x4 x5 x6 x8 y1 y2 u → pw_ruleOf_295 Q2 x1 x4 x5 x6 x8 y1 y2 u → w_ruleOf_295 Q3 x1 x4 x5 x6 x8 y1 y2 u := (zt_cj (bd_cj (sw_cj fun _ => (br_cj (zt_cj (bd_cj (sw_cj fun _ => (hQ _)))) (br_cj (zt_cj (bd_cj (sw_cj fun _ => (hQ _)))) (br_cj (zt_cj (bd_cj (sw_cj fun _ => (hQ _)))) (cj_w_isBoolean (fun _ _ => (br_cj (zt_cj (bd_cj (sw_cj fun _ => (hQ _)))) (zt_cj (bd_cj (sw_cj fun _ => (hQ _)))))))))))))
theorem mn_w_ruleOf_295 {Q1 Q2 : iST → Prop}  {x1 : Int} {x4 : Int} {x5 : Int} {x6 : Int} {x8 : Int} {y1 : Int} {y2 : Int} {u : iST} (hQ : ∀ r0, Q1 r0 → Q2 r0) : pw_ruleOf_295 Q1 x1 x4 x5 x6 x8 y1 y2 u → pw_ruleOf_295 Q2 x1 x4 x5 x6 x8 y1 y2 u := (zt_mn (bd_mn (sw_mn fun _ => (br_mn (zt_mn (bd_mn (sw_mn fun _ => (hQ _)))) (br_mn (zt_mn (bd_mn (sw_mn fun _ => (hQ _)))) (br_mn (zt_mn (bd_mn (sw_mn fun _ => (hQ _)))) (mn_w_isBoolean (fun _ _ => (br_mn (zt_mn (bd_mn (sw_mn fun _ => (hQ _)))) (zt_mn (bd_mn (sw_mn fun _ => (hQ _)))))))))))))
theorem wp_w_ruleOf_295 {Q1 Q2 : iST → Prop}  {x1 : Int} {x4 : Int} {x5 : Int} {x6 : Int} {x8 : Int} {y1 : Int} {y2 : Int} {u : iST} (hQ : ∀ r0, Q1 r0 → Q2 r0) : w_ruleOf_295 Q1 x1 x4 x5 x6 x8 y1 y2 u → pw_ruleOf_295 Q2 x1 x4 x5 x6 x8 y1 y2 u := (zt_wp (bd_wp (sw_wp fun _ => (br_wp (zt_wp (bd_wp (sw_wp fun _ => (hQ _)))) (br_wp (zt_wp (bd_wp (sw_wp fun _ => (hQ _)))) (br_wp (zt_wp (bd_wp (sw_wp fun _ => (hQ _)))) (wp_w_isBoolean (fun _ _ => (br_wp (zt_wp (bd_wp (sw_wp fun _ => (hQ _)))) (zt_wp (bd_wp (sw_wp fun _ => (hQ _)))))))))))))
def pw_ruleOf_294 (Q : iST → Prop) (x1 : Int) (x4 : Int) (x5 : Int) (x6 : Int) (x8 : Int) (y1 : Int) (u : iST) : Prop :=
  pw_ruleOf_295 Q x1 x4 x5 x6 x8 y1 0 u
theorem cj_w_ruleOf_294 {Q1 Q2 Q3 : iST → Prop}  {x1 : Int} {x4 : Int} {x5 : Int} {x6 : Int} {x8 : Int} {y1 : Int} {u : iST} (hQ : ∀ r0, Q1 r0 → Q2 r0 → Q3 r0) : w_ruleOf_294 Q1 x1 x4 x5 x6 x8 y1 u → pw_ruleOf_294 Q2 x1 x4 x5 x6 x8 y1 u → w_ruleOf_294 Q3 x1 x4 x5 x6 x8 y1 u := (cj_w_ruleOf_295  hQ)
theorem mn_w_ruleOf_294 {Q1 Q2 : iST → Prop}  {x1 : Int} {x4 : Int} {x5 : Int} {x6 : Int} {x8 : Int} {y1 : Int} {u : iST} (hQ : ∀ r0, Q1 r0 → Q2 r0) : pw_ruleOf_294 Q1 x1 x4 x5 x6 x8 y1 u → pw_ruleOf_294 Q2 x1 x4 x5 x6 x8 y1 u := (mn_w_ruleOf_295  hQ)
theorem wp_w_ruleOf_294 {Q1 Q2 : iST → Prop}  {x1 : Int} {x4 : Int} {x5 : Int} {x6 : Int} {x8 : Int} {y1 : Int} {u : iST} (hQ : ∀ r0, Q1 r0 → Q2 r0) : w_ruleOf_294 Q1 x1 x4 x5 x6 x8 y1 u → pw_ruleOf_294 Q2 x1 x4 x5 x6 x8 y1 u := (wp_w_ruleOf_295  hQ)
def pw_ruleOf_243 (Q : iST → Prop) (x1 : Int) (x4 : Int) (x5 : Int) (x6 : Int) (x7 : Int) (x8 : Int) (y1 : Int) (y2 : Int) (u : iST) : Prop :=
  bdp y1 60 (sw (iA u 46 y1 y2) (fun u => 
  bdp x1 60 (sw (iA u 47 x1 x7) (fun u => 
  ztp x8 (bdp x1 60 (sw (iA u 52 x1 x8) (fun u => 
  ztp 0 (bdp x1 60 (sw (iA u 53 x1 0) (fun u => 
  br (x8 = 0) (
    pw_ruleOf_294 Q x1 x4 x5 x6 x8 x1 u) (
    pw_matches x6 x7 0 1 (fun v8 u => 
    br (v8 = 0) (
      pw_ruleOf_294 Q x1 x4 x5 x6 x8 x1 u) (
      pw_ruleOf_295 Q x1 x4 x5 x6 x8 x1 1 u)) u)))))))))))
theorem cj_w_ruleOf_243 {Q1 Q2 Q3 : iST → Prop}  {x1 : Int} {x4 : Int} {x5 : Int} {x6 : Int} {x7 : Int} {x8 : Int} {y1 : Int} {y2 : Int} {u : iST} (hQ : ∀ r0, Q1 r0 → Q2 r0 → Q3 r0) : w_ruleOf_243 Q1 x1 x4 x5 x6 x7 x8 y1 y2 u → pw_ruleOf_243 Q2 x1 x4 x5 x6 x7 x8 y1 y2 u → w_ruleOf_243 Q3 x1 x4 x5 x6 x7 x8 y1 y2 u := (bd_cj (sw_cj fun _ => (bd_cj (sw_cj fun _ => (zt_cj (bd_cj (sw_cj fun _ => (zt_cj (bd_cj (sw_cj fun _ => (br_cj (cj_w_ruleOf_294  hQ) (cj_w_matches (fun _ _ => (br_cj (cj_w_ruleOf_294  hQ) (cj_w_ruleOf_295  hQ)))))))))))))))
theorem mn_w_ruleOf_243 {Q1 Q2 : iST → Prop}  {x1 : Int} {x4 : Int} {x5 : Int} {x6 : Int} {x7 : Int} {x8 : Int} {y1 : Int} {y2 : Int} {u : iST} (hQ : ∀ r0, Q1 r0 → Q2 r0) : pw_ruleOf_243 Q1 x1 x4 x5 x6 x7 x8 y1 y2 u → pw_ruleOf_243 Q2 x1 x4 x5 x6 x7 x8 y1 y2 u := (bd_mn (sw_mn fun _ => (bd_mn (sw_mn fun _ => (zt_mn (bd_mn (sw_mn fun _ => (zt_mn (bd_mn (sw_mn fun _ => (br_mn (mn_w_ruleOf_294  hQ) (mn_w_matches (fun _ _ => (br_mn (mn_w_ruleOf_294  hQ) (mn_w_ruleOf_295  hQ)))))))))))))))
theorem wp_w_ruleOf_243 {Q1 Q2 : iST → Prop}  {x1 : Int} {x4 : Int} {x5 : Int} {x6 : Int} {x7 : Int} {x8 : Int} {y1 : Int} {y2 : Int} {u : iST} (hQ : ∀ r0, Q1 r0 → Q2 r0) : w_ruleOf_243 Q1 x1 x4 x5 x6 x7 x8 y1 y2 u → pw_ruleOf_243 Q2 x1 x4 x5 x6 x7 x8 y1 y2 u := (bd_wp (sw_wp fun _ => (bd_wp (sw_wp fun _ => (zt_wp (bd_wp (sw_wp fun _ => (zt_wp (bd_wp (sw_wp fun _ => (br_wp (wp_w_ruleOf_294  hQ) (wp_w_matches (fun _ _ => (br_wp (wp_w_ruleOf_294  hQ) (wp_w_ruleOf_295  hQ)))))))))))))))
def pw_ruleOf_177b (R177 : Int → Int → Int → Int → Int → Int → Int → iST → Prop) (Q : iST → Prop) (x1 : Int) (x4 : Int) (x5 : Int) (x6 : Int) (x7 : Int) (x8 : Int) (x9 : Int) (u : iST) : Prop :=
  bdp x1 60 (rd (u.2.1 48 x1) (fun v6 => 
  br (v6 ≤ x9) (
    br (x8 = 0) (
      pw_ruleOf_243 Q x1 x4 x5 x6 x7 x8 x1 (-1) u) (
      pw_ruleOf_243 Q x1 x4 x5 x6 x7 x8 x1 x6 u)) (
    br (x8 = 0) (
      ovp (x9 + 1) (
      R177 x1 x4 x5 x6 x7 0 (x9 + 1) u)) (
      ovp (120 * x1) (
      ovp ((120 * x1) + x9) (
      bdp ((120 * x1) + x9) 7200 (rd (u.2.1 49 ((120 * x1) + x9)) (fun v12 => 
      pw_covers x6 v12 (fun v13 u => 
      br (v13 = 0) (
        ovp (x9 + 1) (
        R177 x1 x4 x5 x6 x7 0 (x9 + 1) u)) (
        ovp (x9 + 1) (
        R177 x1 x4 x5 x6 x7 1 (x9 + 1) u))) u))))))))
theorem cj_w_ruleOf_177b {Q1 Q2 Q3 : iST → Prop} {R1771 R1772 R1773 : Int → Int → Int → Int → Int → Int → Int → iST → Prop} {x1 : Int} {x4 : Int} {x5 : Int} {x6 : Int} {x7 : Int} {x8 : Int} {x9 : Int} {u : iST} (hR177 : ∀ r0 r1 r2 r3 r4 r5 r6 r7, R1771 r0 r1 r2 r3 r4 r5 r6 r7 → R1772 r0 r1 r2 r3 r4 r5 r6 r7 → R1773 r0 r1 r2 r3 r4 r5 r6 r7) (hQ : ∀ r0, Q1 r0 → Q2 r0 → Q3 r0) : w_ruleOf_177b R1771 Q1 x1 x4 x5 x6 x7 x8 x9 u → pw_ruleOf_177b R1772 Q2 x1 x4 x5 x6 x7 x8 x9 u → w_ruleOf_177b R1773 Q3 x1 x4 x5 x6 x7 x8 x9 u := (bd_cj (rd_cj fun _ => (br_cj (br_cj (cj_w_ruleOf_243  hQ) (cj_w_ruleOf_243  hQ)) (br_cj (ov_cj (hR177 _ _ _ _ _ _ _ _)) (ov_cj (ov_cj (bd_cj (rd_cj fun _ => (cj_w_covers (fun _ _ => (br_cj (ov_cj (hR177 _ _ _ _ _ _ _ _)) (ov_cj (hR177 _ _ _ _ _ _ _ _)))))))))))))
theorem mn_w_ruleOf_177b {Q1 Q2 : iST → Prop} {R1771 R1772 : Int → Int → Int → Int → Int → Int → Int → iST → Prop} {x1 : Int} {x4 : Int} {x5 : Int} {x6 : Int} {x7 : Int} {x8 : Int} {x9 : Int} {u : iST} (hR177 : ∀ r0 r1 r2 r3 r4 r5 r6 r7, R1771 r0 r1 r2 r3 r4 r5 r6 r7 → R1772 r0 r1 r2 r3 r4 r5 r6 r7) (hQ : ∀ r0, Q1 r0 → Q2 r0) : pw_ruleOf_177b R1771 Q1 x1 x4 x5 x6 x7 x8 x9 u → pw_ruleOf_177b R1772 Q2 x1 x4 x5 x6 x7 x8 x9 u := (bd_mn (rd_mn fun _ => (br_mn (br_mn (mn_w_ruleOf_243  hQ) (mn_w_ruleOf_243  hQ)) (br_mn (ov_mn (hR177 _ _ _ _ _ _ _ _)) (ov_mn (ov_mn (bd_mn (rd_mn fun _ => (mn_w_covers (fun _ _ => (br_mn (ov_mn (hR177 _ _ _ _ _ _ _ _)) (ov_mn (hR177 _ _ _ _ _ _ _ _)))))))))))))
theorem wp_w_ruleOf_177b {Q1 Q2 : iST → Prop} {R1771 R1772 : Int → Int → Int → Int → Int → Int → Int → iST → Prop} {x1 : Int} {x4 : Int} {x5 : Int} {x6 : Int} {x7 : Int} {x8 : Int} {x9 : Int} {u : iST} (hR177 : ∀ r0 r1 r2 r3 r4 r5 r6 r7, R1771 r0 r1 r2 r3 r4 r5 r6 r7 → R1772 r0 r1 r2 r3 r4 r5 r6 r7) (hQ : ∀ r0, Q1 r0 → Q2 r0) : w_ruleOf_177b R1771 Q1 x1 x4 x5 x6 x7 x8 x9 u → pw_ruleOf_177b R1772 Q2 x1 x4 x5 x6 x7 x8 x9 u := (bd_wp (rd_wp fun _ => (br_wp (br_wp (wp_w_ruleOf_243  hQ) (wp_w_ruleOf_243  hQ)) (br_wp (ov_wp (hR177 _ _ _ _ _ _ _ _)) (ov_wp (ov_wp (bd_wp (rd_wp fun _ => (wp_w_covers (fun _ _ => (br_wp (ov_wp (hR177 _ _ _ _ _ _ _ _)) (ov_wp (hR177 _ _ _ _ _ _ _ _)))))))))))))
def pw_ruleOf_177 (Q : iST → Prop) (x1 : Int) (x4 : Int) (x5 : Int) (x6 : Int) (x7 : Int) (x8 : Int) (x9 : Int) (u : iST) : Prop := ∃ R177 : Int → Int → Int → Int → Int → Int → Int → iST → Prop, (∀ (x1 : Int) (x4 : Int) (x5 : Int) (x6 : Int) (x7 : Int) (x8 : Int) (x9 : Int) (u : iST), R177 x1 x4 x5 x6 x7 x8 x9 u → pw_ruleOf_177b R177 Q x1 x4 x5 x6 x7 x8 x9 u) ∧ R177 x1 x4 x5 x6 x7 x8 x9 u
theorem cj_w_ruleOf_177 {Q1 Q2 Q3 : iST → Prop}  {x1 : Int} {x4 : Int} {x5 : Int} {x6 : Int} {x7 : Int} {x8 : Int} {x9 : Int} {u : iST} (hQ : ∀ r0, Q1 r0 → Q2 r0 → Q3 r0) : w_ruleOf_177 Q1 x1 x4 x5 x6 x7 x8 x9 u → pw_ruleOf_177 Q2 x1 x4 x5 x6 x7 x8 x9 u → w_ruleOf_177 Q3 x1 x4 x5 x6 x7 x8 x9 u := by
  intro a b R3 c3
  obtain ⟨R2, c2, b2⟩ := b
  exact a (fun r0 r1 r2 r3 r4 r5 r6 r7 => R2 r0 r1 r2 r3 r4 r5 r6 r7 → R3 r0 r1 r2 r3 r4 r5 r6 r7) (fun r0 r1 r2 r3 r4 r5 r6 r7 a b => c3 r0 r1 r2 r3 r4 r5 r6 r7 (cj_w_ruleOf_177b (fun r0 r1 r2 r3 r4 r5 r6 r7 a b => a b) hQ a (c2 r0 r1 r2 r3 r4 r5 r6 r7 b))) b2
theorem pw_ruleOf_177_i  {Q : iST → Prop} {x1 : Int} {x4 : Int} {x5 : Int} {x6 : Int} {x7 : Int} {x8 : Int} {x9 : Int} {u : iST} (I : Int → Int → Int → Int → Int → Int → Int → iST → Prop) (s : ∀ (x1 : Int) (x4 : Int) (x5 : Int) (x6 : Int) (x7 : Int) (x8 : Int) (x9 : Int) (u : iST), I x1 x4 x5 x6 x7 x8 x9 u → pw_ruleOf_177b I Q x1 x4 x5 x6 x7 x8 x9 u) (h : I x1 x4 x5 x6 x7 x8 x9 u) : pw_ruleOf_177 Q x1 x4 x5 x6 x7 x8 x9 u := ⟨I, s, h⟩
theorem mn_w_ruleOf_177 {Q1 Q2 : iST → Prop}  {x1 : Int} {x4 : Int} {x5 : Int} {x6 : Int} {x7 : Int} {x8 : Int} {x9 : Int} {u : iST} (hQ : ∀ r0, Q1 r0 → Q2 r0) : pw_ruleOf_177 Q1 x1 x4 x5 x6 x7 x8 x9 u → pw_ruleOf_177 Q2 x1 x4 x5 x6 x7 x8 x9 u := fun ⟨R, s, h⟩ => ⟨R, fun r0 r1 r2 r3 r4 r5 r6 r7 a => mn_w_ruleOf_177b (fun r0 r1 r2 r3 r4 r5 r6 r7 a => a) hQ (s r0 r1 r2 r3 r4 r5 r6 r7 a), h⟩
theorem un_w_ruleOf_177  {Q : iST → Prop} {x1 : Int} {x4 : Int} {x5 : Int} {x6 : Int} {x7 : Int} {x8 : Int} {x9 : Int} {u : iST} : pw_ruleOf_177 Q x1 x4 x5 x6 x7 x8 x9 u → pw_ruleOf_177b (fun x1 x4 x5 x6 x7 x8 x9 u => pw_ruleOf_177 Q x1 x4 x5 x6 x7 x8 x9 u) Q x1 x4 x5 x6 x7 x8 x9 u := fun ⟨R, s, h⟩ => mn_w_ruleOf_177b (fun r0 r1 r2 r3 r4 r5 r6 r7 a => ⟨R, s, a⟩) (fun _ h => h) (s _ _ _ _ _ _ _ _ h)
theorem fo_w_ruleOf_177  {Q : iST → Prop} {x1 : Int} {x4 : Int} {x5 : Int} {x6 : Int} {x7 : Int} {x8 : Int} {x9 : Int} {u : iST} : pw_ruleOf_177b (fun x1 x4 x5 x6 x7 x8 x9 u => pw_ruleOf_177 Q x1 x4 x5 x6 x7 x8 x9 u) Q x1 x4 x5 x6 x7 x8 x9 u → pw_ruleOf_177 Q x1 x4 x5 x6 x7 x8 x9 u := fun h => ⟨fun x1 x4 x5 x6 x7 x8 x9 u => pw_ruleOf_177b (fun x1 x4 x5 x6 x7 x8 x9 u => pw_ruleOf_177 Q x1 x4 x5 x6 x7 x8 x9 u) Q x1 x4 x5 x6 x7 x8 x9 u, fun r0 r1 r2 r3 r4 r5 r6 r7 a => mn_w_ruleOf_177b (fun r0 r1 r2 r3 r4 r5 r6 r7 a => un_w_ruleOf_177 a) (fun _ h => h) a, h⟩
theorem wp_w_ruleOf_177 {Q1 Q2 : iST → Prop}  {x1 : Int} {x4 : Int} {x5 : Int} {x6 : Int} {x7 : Int} {x8 : Int} {x9 : Int} {u : iST} (hQ : ∀ r0, Q1 r0 → Q2 r0) : w_ruleOf_177 Q1 x1 x4 x5 x6 x7 x8 x9 u → pw_ruleOf_177 Q2 x1 x4 x5 x6 x7 x8 x9 u := fun a => a (fun x1 x4 x5 x6 x7 x8 x9 u => pw_ruleOf_177 Q2 x1 x4 x5 x6 x7 x8 x9 u) (fun x1 x4 x5 x6 x7 x8 x9 u b => fo_w_ruleOf_177 (wp_w_ruleOf_177b (fun r0 r1 r2 r3 r4 r5 r6 r7 a => a) hQ b))
def pw_ruleOf_172 (Q : iST → Prop) (x1 : Int) (x4 : Int) (x5 : Int) (x6 : Int) (x7 : Int) (y0 : Int) (u : iST) : Prop :=
  pw_ruleOf_177 Q x1 x4 x5 x6 x7 y0 0 u
theorem cj_w_ruleOf_172 {Q1 Q2 Q3 : iST → Prop}  {x1 : Int} {x4 : Int} {x5 : Int} {x6 : Int} {x7 : Int} {y0 : Int} {u : iST} (hQ : ∀ r0, Q1 r0 → Q2 r0 → Q3 r0) : w_ruleOf_172 Q1 x1 x4 x5 x6 x7 y0 u → pw_ruleOf_172 Q2 x1 x4 x5 x6 x7 y0 u → w_ruleOf_172 Q3 x1 x4 x5 x6 x7 y0 u := (cj_w_ruleOf_177  hQ)
theorem mn_w_ruleOf_172 {Q1 Q2 : iST → Prop}  {x1 : Int} {x4 : Int} {x5 : Int} {x6 : Int} {x7 : Int} {y0 : Int} {u : iST} (hQ : ∀ r0, Q1 r0 → Q2 r0) : pw_ruleOf_172 Q1 x1 x4 x5 x6 x7 y0 u → pw_ruleOf_172 Q2 x1 x4 x5 x6 x7 y0 u := (mn_w_ruleOf_177  hQ)
theorem wp_w_ruleOf_172 {Q1 Q2 : iST → Prop}  {x1 : Int} {x4 : Int} {x5 : Int} {x6 : Int} {x7 : Int} {y0 : Int} {u : iST} (hQ : ∀ r0, Q1 r0 → Q2 r0) : w_ruleOf_172 Q1 x1 x4 x5 x6 x7 y0 u → pw_ruleOf_172 Q2 x1 x4 x5 x6 x7 y0 u := (wp_w_ruleOf_177  hQ)
def pw_ruleOf_171 (Q : iST → Prop) (x1 : Int) (x4 : Int) (x5 : Int) (x6 : Int) (x7 : Int) (u : iST) : Prop :=
  pw_ruleOf_172 Q x1 x4 x5 x6 x7 0 u
theorem cj_w_ruleOf_171 {Q1 Q2 Q3 : iST → Prop}  {x1 : Int} {x4 : Int} {x5 : Int} {x6 : Int} {x7 : Int} {u : iST} (hQ : ∀ r0, Q1 r0 → Q2 r0 → Q3 r0) : w_ruleOf_171 Q1 x1 x4 x5 x6 x7 u → pw_ruleOf_171 Q2 x1 x4 x5 x6 x7 u → w_ruleOf_171 Q3 x1 x4 x5 x6 x7 u := (cj_w_ruleOf_172  hQ)
theorem mn_w_ruleOf_171 {Q1 Q2 : iST → Prop}  {x1 : Int} {x4 : Int} {x5 : Int} {x6 : Int} {x7 : Int} {u : iST} (hQ : ∀ r0, Q1 r0 → Q2 r0) : pw_ruleOf_171 Q1 x1 x4 x5 x6 x7 u → pw_ruleOf_171 Q2 x1 x4 x5 x6 x7 u := (mn_w_ruleOf_172  hQ)
theorem wp_w_ruleOf_171 {Q1 Q2 : iST → Prop}  {x1 : Int} {x4 : Int} {x5 : Int} {x6 : Int} {x7 : Int} {u : iST} (hQ : ∀ r0, Q1 r0 → Q2 r0) : w_ruleOf_171 Q1 x1 x4 x5 x6 x7 u → pw_ruleOf_171 Q2 x1 x4 x5 x6 x7 u := (wp_w_ruleOf_172  hQ)
def pw_ruleOf_103 (Q : iST → Prop) (x1 : Int) (x4 : Int) (x5 : Int) (x6 : Int) (y0 : Int) (u : iST) : Prop :=
  pw_isCall x6 (fun v5 u => 
  br (v5 = 0) (
    pw_ruleOf_171 Q x1 x4 x5 x6 y0 u) (
    bdp x6 452000 (rd (u.2.1 0 x6) (fun v16 => 
    br (v16 = 3) (
      pw_ruleOf_171 Q x1 x4 x5 x6 y0 u) (
      bdp x6 452000 (rd (u.2.1 0 x6) (fun v17 => 
      br (v17 = 15) (
        pw_ruleOf_171 Q x1 x4 x5 x6 y0 u) (
        bdp x6 452000 (rd (u.2.1 0 x6) (fun v18 => 
        br (v18 = 6) (
          pw_ruleOf_171 Q x1 x4 x5 x6 y0 u) (
          br (x6 = y0) (
            pw_ruleOf_171 Q x1 x4 x5 x6 y0 u) (
            pw_covers x6 y0 (fun v19 u => 
            br (v19 = 0) (
              pw_ruleOf_171 Q x1 x4 x5 x6 y0 u) (
              pw_ruleOf_172 Q x1 x4 x5 x6 y0 1 u)) u)))))))))))) u
theorem cj_w_ruleOf_103 {Q1 Q2 Q3 : iST → Prop}  {x1 : Int} {x4 : Int} {x5 : Int} {x6 : Int} {y0 : Int} {u : iST} (hQ : ∀ r0, Q1 r0 → Q2 r0 → Q3 r0) : w_ruleOf_103 Q1 x1 x4 x5 x6 y0 u → pw_ruleOf_103 Q2 x1 x4 x5 x6 y0 u → w_ruleOf_103 Q3 x1 x4 x5 x6 y0 u := (cj_w_isCall (fun _ _ => (br_cj (cj_w_ruleOf_171  hQ) (bd_cj (rd_cj fun _ => (br_cj (cj_w_ruleOf_171  hQ) (bd_cj (rd_cj fun _ => (br_cj (cj_w_ruleOf_171  hQ) (bd_cj (rd_cj fun _ => (br_cj (cj_w_ruleOf_171  hQ) (br_cj (cj_w_ruleOf_171  hQ) (cj_w_covers (fun _ _ => (br_cj (cj_w_ruleOf_171  hQ) (cj_w_ruleOf_172  hQ)))))))))))))))))
theorem mn_w_ruleOf_103 {Q1 Q2 : iST → Prop}  {x1 : Int} {x4 : Int} {x5 : Int} {x6 : Int} {y0 : Int} {u : iST} (hQ : ∀ r0, Q1 r0 → Q2 r0) : pw_ruleOf_103 Q1 x1 x4 x5 x6 y0 u → pw_ruleOf_103 Q2 x1 x4 x5 x6 y0 u := (mn_w_isCall (fun _ _ => (br_mn (mn_w_ruleOf_171  hQ) (bd_mn (rd_mn fun _ => (br_mn (mn_w_ruleOf_171  hQ) (bd_mn (rd_mn fun _ => (br_mn (mn_w_ruleOf_171  hQ) (bd_mn (rd_mn fun _ => (br_mn (mn_w_ruleOf_171  hQ) (br_mn (mn_w_ruleOf_171  hQ) (mn_w_covers (fun _ _ => (br_mn (mn_w_ruleOf_171  hQ) (mn_w_ruleOf_172  hQ)))))))))))))))))
theorem wp_w_ruleOf_103 {Q1 Q2 : iST → Prop}  {x1 : Int} {x4 : Int} {x5 : Int} {x6 : Int} {y0 : Int} {u : iST} (hQ : ∀ r0, Q1 r0 → Q2 r0) : w_ruleOf_103 Q1 x1 x4 x5 x6 y0 u → pw_ruleOf_103 Q2 x1 x4 x5 x6 y0 u := (wp_w_isCall (fun _ _ => (br_wp (wp_w_ruleOf_171  hQ) (bd_wp (rd_wp fun _ => (br_wp (wp_w_ruleOf_171  hQ) (bd_wp (rd_wp fun _ => (br_wp (wp_w_ruleOf_171  hQ) (bd_wp (rd_wp fun _ => (br_wp (wp_w_ruleOf_171  hQ) (br_wp (wp_w_ruleOf_171  hQ) (wp_w_covers (fun _ _ => (br_wp (wp_w_ruleOf_171  hQ) (wp_w_ruleOf_172  hQ)))))))))))))))))
def pw_ruleOf_77 (Q : iST → Prop) (x1 : Int) (x3 : Int) (x4 : Int) (x5 : Int) (y0 : Int) (u : iST) : Prop :=
  br (x4 = 0) (
    br (x5 = 0) (
      pw_ruleOf_103 Q x1 x4 x5 y0 1 u) (
      pw_ruleOf_103 Q x1 x4 x5 y0 0 u)) (
    pw_term x3 2 (fun v20 u => 
    pw_ruleOf_103 Q x1 x4 x5 y0 v20 u) u)
theorem cj_w_ruleOf_77 {Q1 Q2 Q3 : iST → Prop}  {x1 : Int} {x3 : Int} {x4 : Int} {x5 : Int} {y0 : Int} {u : iST} (hQ : ∀ r0, Q1 r0 → Q2 r0 → Q3 r0) : w_ruleOf_77 Q1 x1 x3 x4 x5 y0 u → pw_ruleOf_77 Q2 x1 x3 x4 x5 y0 u → w_ruleOf_77 Q3 x1 x3 x4 x5 y0 u := (br_cj (br_cj (cj_w_ruleOf_103  hQ) (cj_w_ruleOf_103  hQ)) (cj_w_term (fun _ _ => (cj_w_ruleOf_103  hQ))))
theorem mn_w_ruleOf_77 {Q1 Q2 : iST → Prop}  {x1 : Int} {x3 : Int} {x4 : Int} {x5 : Int} {y0 : Int} {u : iST} (hQ : ∀ r0, Q1 r0 → Q2 r0) : pw_ruleOf_77 Q1 x1 x3 x4 x5 y0 u → pw_ruleOf_77 Q2 x1 x3 x4 x5 y0 u := (br_mn (br_mn (mn_w_ruleOf_103  hQ) (mn_w_ruleOf_103  hQ)) (mn_w_term (fun _ _ => (mn_w_ruleOf_103  hQ))))
theorem wp_w_ruleOf_77 {Q1 Q2 : iST → Prop}  {x1 : Int} {x3 : Int} {x4 : Int} {x5 : Int} {y0 : Int} {u : iST} (hQ : ∀ r0, Q1 r0 → Q2 r0) : w_ruleOf_77 Q1 x1 x3 x4 x5 y0 u → pw_ruleOf_77 Q2 x1 x3 x4 x5 y0 u := (br_wp (br_wp (wp_w_ruleOf_103  hQ) (wp_w_ruleOf_103  hQ)) (wp_w_term (fun _ _ => (wp_w_ruleOf_103  hQ))))
def pw_ruleOf_67 (Q : iST → Prop) (x1 : Int) (x3 : Int) (x4 : Int) (x5 : Int) (u : iST) : Prop :=
  pw_term x3 1 (fun v4 u => 
  pw_ruleOf_77 Q x1 x3 x4 x5 v4 u) u
theorem cj_w_ruleOf_67 {Q1 Q2 Q3 : iST → Prop}  {x1 : Int} {x3 : Int} {x4 : Int} {x5 : Int} {u : iST} (hQ : ∀ r0, Q1 r0 → Q2 r0 → Q3 r0) : w_ruleOf_67 Q1 x1 x3 x4 x5 u → pw_ruleOf_67 Q2 x1 x3 x4 x5 u → w_ruleOf_67 Q3 x1 x3 x4 x5 u := (cj_w_term (fun _ _ => (cj_w_ruleOf_77  hQ)))
theorem mn_w_ruleOf_67 {Q1 Q2 : iST → Prop}  {x1 : Int} {x3 : Int} {x4 : Int} {x5 : Int} {u : iST} (hQ : ∀ r0, Q1 r0 → Q2 r0) : pw_ruleOf_67 Q1 x1 x3 x4 x5 u → pw_ruleOf_67 Q2 x1 x3 x4 x5 u := (mn_w_term (fun _ _ => (mn_w_ruleOf_77  hQ)))
theorem wp_w_ruleOf_67 {Q1 Q2 : iST → Prop}  {x1 : Int} {x3 : Int} {x4 : Int} {x5 : Int} {u : iST} (hQ : ∀ r0, Q1 r0 → Q2 r0) : w_ruleOf_67 Q1 x1 x3 x4 x5 u → pw_ruleOf_67 Q2 x1 x3 x4 x5 u := (wp_w_term (fun _ _ => (wp_w_ruleOf_77  hQ)))
def pw_ruleOf_9b (R9 : Int → Int → iST → Prop) (Q : iST → Prop) (x1 : Int) (x3 : Int) (u : iST) : Prop :=
  pw_isCallOf x3 6 (fun v1 u => 
  br (v1 = 0) (
    pw_isCallOf x3 4 (fun v2 u => 
    pw_isCallOf x3 15 (fun v3 u => 
    br (v2 ≠ 0) (
      pw_ruleOf_67 Q x1 x3 v2 v3 u) (
      br (v3 = 0) (
        pw_ruleOf_77 Q x1 x3 v2 v3 x3 u) (
        pw_ruleOf_67 Q x1 x3 v2 v3 u))) u) u) (
    pw_term x3 1 (fun v21 u => 
    pw_hypotheses x1 v21 (fun u => 
    pw_term x3 2 (fun v23 u => 
    R9 x1 v23 u) u) u) u)) u
theorem cj_w_ruleOf_9b {Q1 Q2 Q3 : iST → Prop} {R91 R92 R93 : Int → Int → iST → Prop} {x1 : Int} {x3 : Int} {u : iST} (hR9 : ∀ r0 r1 r2, R91 r0 r1 r2 → R92 r0 r1 r2 → R93 r0 r1 r2) (hQ : ∀ r0, Q1 r0 → Q2 r0 → Q3 r0) : w_ruleOf_9b R91 Q1 x1 x3 u → pw_ruleOf_9b R92 Q2 x1 x3 u → w_ruleOf_9b R93 Q3 x1 x3 u := (cj_w_isCallOf (fun _ _ => (br_cj (cj_w_isCallOf (fun _ _ => (cj_w_isCallOf (fun _ _ => (br_cj (cj_w_ruleOf_67  hQ) (br_cj (cj_w_ruleOf_77  hQ) (cj_w_ruleOf_67  hQ))))))) (cj_w_term (fun _ _ => (cj_w_hypotheses (fun _ => (cj_w_term (fun _ _ => (hR9 _ _ _))))))))))
theorem mn_w_ruleOf_9b {Q1 Q2 : iST → Prop} {R91 R92 : Int → Int → iST → Prop} {x1 : Int} {x3 : Int} {u : iST} (hR9 : ∀ r0 r1 r2, R91 r0 r1 r2 → R92 r0 r1 r2) (hQ : ∀ r0, Q1 r0 → Q2 r0) : pw_ruleOf_9b R91 Q1 x1 x3 u → pw_ruleOf_9b R92 Q2 x1 x3 u := (mn_w_isCallOf (fun _ _ => (br_mn (mn_w_isCallOf (fun _ _ => (mn_w_isCallOf (fun _ _ => (br_mn (mn_w_ruleOf_67  hQ) (br_mn (mn_w_ruleOf_77  hQ) (mn_w_ruleOf_67  hQ))))))) (mn_w_term (fun _ _ => (mn_w_hypotheses (fun _ => (mn_w_term (fun _ _ => (hR9 _ _ _))))))))))
theorem wp_w_ruleOf_9b {Q1 Q2 : iST → Prop} {R91 R92 : Int → Int → iST → Prop} {x1 : Int} {x3 : Int} {u : iST} (hR9 : ∀ r0 r1 r2, R91 r0 r1 r2 → R92 r0 r1 r2) (hQ : ∀ r0, Q1 r0 → Q2 r0) : w_ruleOf_9b R91 Q1 x1 x3 u → pw_ruleOf_9b R92 Q2 x1 x3 u := (wp_w_isCallOf (fun _ _ => (br_wp (wp_w_isCallOf (fun _ _ => (wp_w_isCallOf (fun _ _ => (br_wp (wp_w_ruleOf_67  hQ) (br_wp (wp_w_ruleOf_77  hQ) (wp_w_ruleOf_67  hQ))))))) (wp_w_term (fun _ _ => (wp_w_hypotheses (fun _ => (wp_w_term (fun _ _ => (hR9 _ _ _))))))))))
def pw_ruleOf_9 (Q : iST → Prop) (x1 : Int) (x3 : Int) (u : iST) : Prop := ∃ R9 : Int → Int → iST → Prop, (∀ (x1 : Int) (x3 : Int) (u : iST), R9 x1 x3 u → pw_ruleOf_9b R9 Q x1 x3 u) ∧ R9 x1 x3 u
theorem cj_w_ruleOf_9 {Q1 Q2 Q3 : iST → Prop}  {x1 : Int} {x3 : Int} {u : iST} (hQ : ∀ r0, Q1 r0 → Q2 r0 → Q3 r0) : w_ruleOf_9 Q1 x1 x3 u → pw_ruleOf_9 Q2 x1 x3 u → w_ruleOf_9 Q3 x1 x3 u := by
  intro a b R3 c3
  obtain ⟨R2, c2, b2⟩ := b
  exact a (fun r0 r1 r2 => R2 r0 r1 r2 → R3 r0 r1 r2) (fun r0 r1 r2 a b => c3 r0 r1 r2 (cj_w_ruleOf_9b (fun r0 r1 r2 a b => a b) hQ a (c2 r0 r1 r2 b))) b2
theorem pw_ruleOf_9_i  {Q : iST → Prop} {x1 : Int} {x3 : Int} {u : iST} (I : Int → Int → iST → Prop) (s : ∀ (x1 : Int) (x3 : Int) (u : iST), I x1 x3 u → pw_ruleOf_9b I Q x1 x3 u) (h : I x1 x3 u) : pw_ruleOf_9 Q x1 x3 u := ⟨I, s, h⟩
theorem mn_w_ruleOf_9 {Q1 Q2 : iST → Prop}  {x1 : Int} {x3 : Int} {u : iST} (hQ : ∀ r0, Q1 r0 → Q2 r0) : pw_ruleOf_9 Q1 x1 x3 u → pw_ruleOf_9 Q2 x1 x3 u := fun ⟨R, s, h⟩ => ⟨R, fun r0 r1 r2 a => mn_w_ruleOf_9b (fun r0 r1 r2 a => a) hQ (s r0 r1 r2 a), h⟩
theorem un_w_ruleOf_9  {Q : iST → Prop} {x1 : Int} {x3 : Int} {u : iST} : pw_ruleOf_9 Q x1 x3 u → pw_ruleOf_9b (fun x1 x3 u => pw_ruleOf_9 Q x1 x3 u) Q x1 x3 u := fun ⟨R, s, h⟩ => mn_w_ruleOf_9b (fun r0 r1 r2 a => ⟨R, s, a⟩) (fun _ h => h) (s _ _ _ h)
theorem fo_w_ruleOf_9  {Q : iST → Prop} {x1 : Int} {x3 : Int} {u : iST} : pw_ruleOf_9b (fun x1 x3 u => pw_ruleOf_9 Q x1 x3 u) Q x1 x3 u → pw_ruleOf_9 Q x1 x3 u := fun h => ⟨fun x1 x3 u => pw_ruleOf_9b (fun x1 x3 u => pw_ruleOf_9 Q x1 x3 u) Q x1 x3 u, fun r0 r1 r2 a => mn_w_ruleOf_9b (fun r0 r1 r2 a => un_w_ruleOf_9 a) (fun _ h => h) a, h⟩
theorem wp_w_ruleOf_9 {Q1 Q2 : iST → Prop}  {x1 : Int} {x3 : Int} {u : iST} (hQ : ∀ r0, Q1 r0 → Q2 r0) : w_ruleOf_9 Q1 x1 x3 u → pw_ruleOf_9 Q2 x1 x3 u := fun a => a (fun x1 x3 u => pw_ruleOf_9 Q2 x1 x3 u) (fun x1 x3 u b => fo_w_ruleOf_9 (wp_w_ruleOf_9b (fun r0 r1 r2 a => a) hQ b))
def pw_ruleOf (a0 : Int) (a1 : Int) (Q : iST → Prop) (u : iST) : Prop :=
  bdp a0 60 (sw (iA u 48 a0 0) (fun u => 
  pw_ruleOf_9 Q a0 a1 u))
theorem cj_w_ruleOf {Q1 Q2 Q3 : iST → Prop}  {a0 : Int} {a1 : Int} {u : iST} (hQ : ∀ r0, Q1 r0 → Q2 r0 → Q3 r0) : w_ruleOf a0 a1 Q1 u → pw_ruleOf a0 a1 Q2 u → w_ruleOf a0 a1 Q3 u := (bd_cj (sw_cj fun _ => (cj_w_ruleOf_9  hQ)))
theorem mn_w_ruleOf {Q1 Q2 : iST → Prop}  {a0 : Int} {a1 : Int} {u : iST} (hQ : ∀ r0, Q1 r0 → Q2 r0) : pw_ruleOf a0 a1 Q1 u → pw_ruleOf a0 a1 Q2 u := (bd_mn (sw_mn fun _ => (mn_w_ruleOf_9  hQ)))
theorem wp_w_ruleOf {Q1 Q2 : iST → Prop}  {a0 : Int} {a1 : Int} {u : iST} (hQ : ∀ r0, Q1 r0 → Q2 r0) : w_ruleOf a0 a1 Q1 u → pw_ruleOf a0 a1 Q2 u := (bd_wp (sw_wp fun _ => (wp_w_ruleOf_9  hQ)))
def pw_wrong_15 (Q : iST → Prop) (x1 : Int) (u : iST) : Prop :=
  sw (iI u 136 x1) (fun u => 
  Q u)
theorem cj_w_wrong_15 {Q1 Q2 Q3 : iST → Prop}  {x1 : Int} {u : iST} (hQ : ∀ r0, Q1 r0 → Q2 r0 → Q3 r0) : w_wrong_15 Q1 x1 u → pw_wrong_15 Q2 x1 u → w_wrong_15 Q3 x1 u := (sw_cj fun _ => (hQ _))
theorem mn_w_wrong_15 {Q1 Q2 : iST → Prop}  {x1 : Int} {u : iST} (hQ : ∀ r0, Q1 r0 → Q2 r0) : pw_wrong_15 Q1 x1 u → pw_wrong_15 Q2 x1 u := (sw_mn fun _ => (hQ _))
theorem wp_w_wrong_15 {Q1 Q2 : iST → Prop}  {x1 : Int} {u : iST} (hQ : ∀ r0, Q1 r0 → Q2 r0) : w_wrong_15 Q1 x1 u → pw_wrong_15 Q2 x1 u := (sw_wp fun _ => (hQ _))
def pw_wrong (a0 : Int) (Q : iST → Prop) (u : iST) : Prop :=
  rd (u.1 136) (fun v1 => 
  br (v1 = 0) (
    pw_wrong_15 Q a0 u) (
    rd (u.1 136) (fun v2 => 
    br (v2 ≤ a0) (
      Q u) (
      pw_wrong_15 Q a0 u))))
theorem cj_w_wrong {Q1 Q2 Q3 : iST → Prop}  {a0 : Int} {u : iST} (hQ : ∀ r0, Q1 r0 → Q2 r0 → Q3 r0) : w_wrong a0 Q1 u → pw_wrong a0 Q2 u → w_wrong a0 Q3 u := (rd_cj fun _ => (br_cj (cj_w_wrong_15  hQ) (rd_cj fun _ => (br_cj (hQ _) (cj_w_wrong_15  hQ)))))
theorem mn_w_wrong {Q1 Q2 : iST → Prop}  {a0 : Int} {u : iST} (hQ : ∀ r0, Q1 r0 → Q2 r0) : pw_wrong a0 Q1 u → pw_wrong a0 Q2 u := (rd_mn fun _ => (br_mn (mn_w_wrong_15  hQ) (rd_mn fun _ => (br_mn (hQ _) (mn_w_wrong_15  hQ)))))
theorem wp_w_wrong {Q1 Q2 : iST → Prop}  {a0 : Int} {u : iST} (hQ : ∀ r0, Q1 r0 → Q2 r0) : w_wrong a0 Q1 u → pw_wrong a0 Q2 u := (rd_wp fun _ => (br_wp (wp_w_wrong_15  hQ) (rd_wp fun _ => (br_wp (hQ _) (wp_w_wrong_15  hQ)))))
def pw_induction_160 (Q : iST → Prop) (u : iST) : Prop :=
  pw_wrong 2 (fun u => 
  Q u) u
theorem cj_w_induction_160 {Q1 Q2 Q3 : iST → Prop}  {u : iST} (hQ : ∀ r0, Q1 r0 → Q2 r0 → Q3 r0) : w_induction_160 Q1 u → pw_induction_160 Q2 u → w_induction_160 Q3 u := (cj_w_wrong (fun _ => (hQ _)))
theorem mn_w_induction_160 {Q1 Q2 : iST → Prop}  {u : iST} (hQ : ∀ r0, Q1 r0 → Q2 r0) : pw_induction_160 Q1 u → pw_induction_160 Q2 u := (mn_w_wrong (fun _ => (hQ _)))
theorem wp_w_induction_160 {Q1 Q2 : iST → Prop}  {u : iST} (hQ : ∀ r0, Q1 r0 → Q2 r0) : w_induction_160 Q1 u → pw_induction_160 Q2 u := (wp_w_wrong (fun _ => (hQ _)))
def pw_induction_74 (Q : iST → Prop) (x1 : Int) (y0 : Int) (u : iST) : Prop :=
  br (y0 ≠ 0) (
    pw_nth x1 1 (fun v2 u => 
    bdp v2 452000 (rd (u.2.1 1 v2) (fun v3 => 
    sw (iI u 134 v3) (fun u => 
    sw (iI u 133 0) (fun u => 
    pw_nth x1 1 (fun v4 u => 
    bdp v4 452000 (rd (u.2.1 0 v4) (fun v5 => 
    pw_definition v5 (fun v6 u => 
    br (v6 ≠ (-1)) (
      bdp v6 40 (rz (u.2.1 41 v6) (fun v7 => 
      br (v7 = 0) (
        pw_induction_160 Q u) (
        rd (u.1 134) (fun v9 => 
        pw_lengthOf v9 (fun v10 u => 
        bdp v6 40 (rd (u.2.1 37 v6) (fun v11 => 
        br (v10 = v11) (
          ovp (100 + v6) (
          sw (iI u 133 (100 + v6)) (fun u => 
          Q u))) (
          pw_induction_160 Q u)))) u))))) (
      pw_wrong 3 (fun u => 
      Q u) u)) u))) u))))) u) (
    pw_wrong 2 (fun u => 
    Q u) u)
theorem cj_w_induction_74 {Q1 Q2 Q3 : iST → Prop}  {x1 : Int} {y0 : Int} {u : iST} (hQ : ∀ r0, Q1 r0 → Q2 r0 → Q3 r0) : w_induction_74 Q1 x1 y0 u → pw_induction_74 Q2 x1 y0 u → w_induction_74 Q3 x1 y0 u := (br_cj (cj_w_nth (fun _ _ => (bd_cj (rd_cj fun _ => (sw_cj fun _ => (sw_cj fun _ => (cj_w_nth (fun _ _ => (bd_cj (rd_cj fun _ => (cj_w_definition (fun _ _ => (br_cj (bd_cj (rz_cj fun _ => (br_cj (cj_w_induction_160  hQ) (rd_cj fun _ => (cj_w_lengthOf (fun _ _ => (bd_cj (rd_cj fun _ => (br_cj (ov_cj (sw_cj fun _ => (hQ _))) (cj_w_induction_160  hQ)))))))))) (cj_w_wrong (fun _ => (hQ _)))))))))))))))) (cj_w_wrong (fun _ => (hQ _))))
theorem mn_w_induction_74 {Q1 Q2 : iST → Prop}  {x1 : Int} {y0 : Int} {u : iST} (hQ : ∀ r0, Q1 r0 → Q2 r0) : pw_induction_74 Q1 x1 y0 u → pw_induction_74 Q2 x1 y0 u := (br_mn (mn_w_nth (fun _ _ => (bd_mn (rd_mn fun _ => (sw_mn fun _ => (sw_mn fun _ => (mn_w_nth (fun _ _ => (bd_mn (rd_mn fun _ => (mn_w_definition (fun _ _ => (br_mn (bd_mn (rz_mn fun _ => (br_mn (mn_w_induction_160  hQ) (rd_mn fun _ => (mn_w_lengthOf (fun _ _ => (bd_mn (rd_mn fun _ => (br_mn (ov_mn (sw_mn fun _ => (hQ _))) (mn_w_induction_160  hQ)))))))))) (mn_w_wrong (fun _ => (hQ _)))))))))))))))) (mn_w_wrong (fun _ => (hQ _))))
theorem wp_w_induction_74 {Q1 Q2 : iST → Prop}  {x1 : Int} {y0 : Int} {u : iST} (hQ : ∀ r0, Q1 r0 → Q2 r0) : w_induction_74 Q1 x1 y0 u → pw_induction_74 Q2 x1 y0 u := (br_wp (wp_w_nth (fun _ _ => (bd_wp (rd_wp fun _ => (sw_wp fun _ => (sw_wp fun _ => (wp_w_nth (fun _ _ => (bd_wp (rd_wp fun _ => (wp_w_definition (fun _ _ => (br_wp (bd_wp (rz_wp fun _ => (br_wp (wp_w_induction_160  hQ) (rd_wp fun _ => (wp_w_lengthOf (fun _ _ => (bd_wp (rd_wp fun _ => (br_wp (ov_wp (sw_wp fun _ => (hQ _))) (wp_w_induction_160  hQ)))))))))) (wp_w_wrong (fun _ => (hQ _)))))))))))))))) (wp_w_wrong (fun _ => (hQ _))))
def pw_induction_73 (Q : iST → Prop) (x1 : Int) (u : iST) : Prop :=
  pw_induction_74 Q x1 0 u
theorem cj_w_induction_73 {Q1 Q2 Q3 : iST → Prop}  {x1 : Int} {u : iST} (hQ : ∀ r0, Q1 r0 → Q2 r0 → Q3 r0) : w_induction_73 Q1 x1 u → pw_induction_73 Q2 x1 u → w_induction_73 Q3 x1 u := (cj_w_induction_74  hQ)
theorem mn_w_induction_73 {Q1 Q2 : iST → Prop}  {x1 : Int} {u : iST} (hQ : ∀ r0, Q1 r0 → Q2 r0) : pw_induction_73 Q1 x1 u → pw_induction_73 Q2 x1 u := (mn_w_induction_74  hQ)
theorem wp_w_induction_73 {Q1 Q2 : iST → Prop}  {x1 : Int} {u : iST} (hQ : ∀ r0, Q1 r0 → Q2 r0) : w_induction_73 Q1 x1 u → pw_induction_73 Q2 x1 u := (wp_w_induction_74  hQ)
def pw_induction (a0 : Int) (Q : iST → Prop) (u : iST) : Prop :=
  pw_lengthOf a0 (fun v1 u => 
  br (v1 ≠ 2) (
    pw_induction_73 Q a0 u) (
    pw_nth a0 1 (fun v15 u => 
    pw_isPair v15 (fun v16 u => 
    br (v16 = 0) (
      pw_induction_73 Q a0 u) (
      pw_nth a0 1 (fun v17 u => 
      bdp v17 452000 (rd (u.2.1 0 v17) (fun v18 => 
      pw_isNewName v18 (fun v19 u => 
      br (v19 = 0) (
        pw_induction_73 Q a0 u) (
        pw_nth a0 1 (fun v20 u => 
        bdp v20 452000 (rd (u.2.1 1 v20) (fun v21 => 
        pw_areVariables v21 1000 (fun v22 u => 
        br (v22 = 0) (
          pw_induction_73 Q a0 u) (
          rd (u.1 133) (fun v23 => 
          br (v23 ≠ (-1)) (
            pw_induction_73 Q a0 u) (
            pw_induction_74 Q a0 1 u)))) u))) u)) u))) u)) u) u)) u
theorem cj_w_induction {Q1 Q2 Q3 : iST → Prop}  {a0 : Int} {u : iST} (hQ : ∀ r0, Q1 r0 → Q2 r0 → Q3 r0) : w_induction a0 Q1 u → pw_induction a0 Q2 u → w_induction a0 Q3 u := (cj_w_lengthOf (fun _ _ => (br_cj (cj_w_induction_73  hQ) (cj_w_nth (fun _ _ => (cj_w_isPair (fun _ _ => (br_cj (cj_w_induction_73  hQ) (cj_w_nth (fun _ _ => (bd_cj (rd_cj fun _ => (cj_w_isNewName (fun _ _ => (br_cj (cj_w_induction_73  hQ) (cj_w_nth (fun _ _ => (bd_cj (rd_cj fun _ => (cj_w_areVariables (fun _ _ => (br_cj (cj_w_induction_73  hQ) (rd_cj fun _ => (br_cj (cj_w_induction_73  hQ) (cj_w_induction_74  hQ)))))))))))))))))))))))))
theorem mn_w_induction {Q1 Q2 : iST → Prop}  {a0 : Int} {u : iST} (hQ : ∀ r0, Q1 r0 → Q2 r0) : pw_induction a0 Q1 u → pw_induction a0 Q2 u := (mn_w_lengthOf (fun _ _ => (br_mn (mn_w_induction_73  hQ) (mn_w_nth (fun _ _ => (mn_w_isPair (fun _ _ => (br_mn (mn_w_induction_73  hQ) (mn_w_nth (fun _ _ => (bd_mn (rd_mn fun _ => (mn_w_isNewName (fun _ _ => (br_mn (mn_w_induction_73  hQ) (mn_w_nth (fun _ _ => (bd_mn (rd_mn fun _ => (mn_w_areVariables (fun _ _ => (br_mn (mn_w_induction_73  hQ) (rd_mn fun _ => (br_mn (mn_w_induction_73  hQ) (mn_w_induction_74  hQ)))))))))))))))))))))))))
theorem wp_w_induction {Q1 Q2 : iST → Prop}  {a0 : Int} {u : iST} (hQ : ∀ r0, Q1 r0 → Q2 r0) : w_induction a0 Q1 u → pw_induction a0 Q2 u := (wp_w_lengthOf (fun _ _ => (br_wp (wp_w_induction_73  hQ) (wp_w_nth (fun _ _ => (wp_w_isPair (fun _ _ => (br_wp (wp_w_induction_73  hQ) (wp_w_nth (fun _ _ => (bd_wp (rd_wp fun _ => (wp_w_isNewName (fun _ _ => (br_wp (wp_w_induction_73  hQ) (wp_w_nth (fun _ _ => (bd_wp (rd_wp fun _ => (wp_w_areVariables (fun _ _ => (br_wp (wp_w_induction_73  hQ) (rd_wp fun _ => (br_wp (wp_w_induction_73  hQ) (wp_w_induction_74  hQ)))))))))))))))))))))))))
def pw_arePairs_65b (R13 : Int → Int → iST → Prop) (R65 : Int → Int → Int → Int → iST → Prop) (Q : Int → iST → Prop) (x1 : Int) (x2 : Int) (x3 : Int) (x4 : Int) (u : iST) : Prop :=
  br (x4 = x2) (
    bdp x2 452000 (rd (u.2.1 1 x2) (fun v8 => 
    R13 x1 v8 u))) (
    bdp x4 452000 (rd (u.2.1 0 x4) (fun v9 => 
    bdp v9 452000 (rd (u.2.1 0 v9) (fun v10 => 
    bdp x3 452000 (rd (u.2.1 0 x3) (fun v11 => 
    br (v10 ≠ v11) (
      bdp x4 452000 (rd (u.2.1 1 x4) (fun v12 => 
      R65 x1 x2 x3 v12 u))) (
      ztp 0 (Q 0 u)))))))))
theorem cj_w_arePairs_65b {Q1 Q2 Q3 : Int → iST → Prop} {R131 R132 R133 : Int → Int → iST → Prop} {R651 R652 R653 : Int → Int → Int → Int → iST → Prop} {x1 : Int} {x2 : Int} {x3 : Int} {x4 : Int} {u : iST} (hR13 : ∀ r0 r1 r2, R131 r0 r1 r2 → R132 r0 r1 r2 → R133 r0 r1 r2) (hR65 : ∀ r0 r1 r2 r3 r4, R651 r0 r1 r2 r3 r4 → R652 r0 r1 r2 r3 r4 → R653 r0 r1 r2 r3 r4) (hQ : ∀ r0 r1, Q1 r0 r1 → Q2 r0 r1 → Q3 r0 r1) : w_arePairs_65b R131 R651 Q1 x1 x2 x3 x4 u → pw_arePairs_65b R132 R652 Q2 x1 x2 x3 x4 u → w_arePairs_65b R133 R653 Q3 x1 x2 x3 x4 u := (br_cj (bd_cj (rd_cj fun _ => (hR13 _ _ _))) (bd_cj (rd_cj fun _ => (bd_cj (rd_cj fun _ => (bd_cj (rd_cj fun _ => (br_cj (bd_cj (rd_cj fun _ => (hR65 _ _ _ _ _))) (zt_cj (hQ _ _))))))))))
theorem mn_w_arePairs_65b {Q1 Q2 : Int → iST → Prop} {R131 R132 : Int → Int → iST → Prop} {R651 R652 : Int → Int → Int → Int → iST → Prop} {x1 : Int} {x2 : Int} {x3 : Int} {x4 : Int} {u : iST} (hR13 : ∀ r0 r1 r2, R131 r0 r1 r2 → R132 r0 r1 r2) (hR65 : ∀ r0 r1 r2 r3 r4, R651 r0 r1 r2 r3 r4 → R652 r0 r1 r2 r3 r4) (hQ : ∀ r0 r1, Q1 r0 r1 → Q2 r0 r1) : pw_arePairs_65b R131 R651 Q1 x1 x2 x3 x4 u → pw_arePairs_65b R132 R652 Q2 x1 x2 x3 x4 u := (br_mn (bd_mn (rd_mn fun _ => (hR13 _ _ _))) (bd_mn (rd_mn fun _ => (bd_mn (rd_mn fun _ => (bd_mn (rd_mn fun _ => (br_mn (bd_mn (rd_mn fun _ => (hR65 _ _ _ _ _))) (zt_mn (hQ _ _))))))))))
theorem wp_w_arePairs_65b {Q1 Q2 : Int → iST → Prop} {R131 R132 : Int → Int → iST → Prop} {R651 R652 : Int → Int → Int → Int → iST → Prop} {x1 : Int} {x2 : Int} {x3 : Int} {x4 : Int} {u : iST} (hR13 : ∀ r0 r1 r2, R131 r0 r1 r2 → R132 r0 r1 r2) (hR65 : ∀ r0 r1 r2 r3 r4, R651 r0 r1 r2 r3 r4 → R652 r0 r1 r2 r3 r4) (hQ : ∀ r0 r1, Q1 r0 r1 → Q2 r0 r1) : w_arePairs_65b R131 R651 Q1 x1 x2 x3 x4 u → pw_arePairs_65b R132 R652 Q2 x1 x2 x3 x4 u := (br_wp (bd_wp (rd_wp fun _ => (hR13 _ _ _))) (bd_wp (rd_wp fun _ => (bd_wp (rd_wp fun _ => (bd_wp (rd_wp fun _ => (br_wp (bd_wp (rd_wp fun _ => (hR65 _ _ _ _ _))) (zt_wp (hQ _ _))))))))))
def pw_arePairs_65 (R13 : Int → Int → iST → Prop) (Q : Int → iST → Prop) (x1 : Int) (x2 : Int) (x3 : Int) (x4 : Int) (u : iST) : Prop := ∃ R65 : Int → Int → Int → Int → iST → Prop, (∀ (x1 : Int) (x2 : Int) (x3 : Int) (x4 : Int) (u : iST), R65 x1 x2 x3 x4 u → pw_arePairs_65b R13 R65 Q x1 x2 x3 x4 u) ∧ R65 x1 x2 x3 x4 u
theorem cj_w_arePairs_65 {Q1 Q2 Q3 : Int → iST → Prop} {R131 R132 R133 : Int → Int → iST → Prop} {x1 : Int} {x2 : Int} {x3 : Int} {x4 : Int} {u : iST} (hR13 : ∀ r0 r1 r2, R131 r0 r1 r2 → R132 r0 r1 r2 → R133 r0 r1 r2) (hQ : ∀ r0 r1, Q1 r0 r1 → Q2 r0 r1 → Q3 r0 r1) : w_arePairs_65 R131 Q1 x1 x2 x3 x4 u → pw_arePairs_65 R132 Q2 x1 x2 x3 x4 u → w_arePairs_65 R133 Q3 x1 x2 x3 x4 u := by
  intro a b R3 c3
  obtain ⟨R2, c2, b2⟩ := b
  exact a (fun r0 r1 r2 r3 r4 => R2 r0 r1 r2 r3 r4 → R3 r0 r1 r2 r3 r4) (fun r0 r1 r2 r3 r4 a b => c3 r0 r1 r2 r3 r4 (cj_w_arePairs_65b hR13 (fun r0 r1 r2 r3 r4 a b => a b) hQ a (c2 r0 r1 r2 r3 r4 b))) b2
theorem pw_arePairs_65_i {R13 : Int → Int → iST → Prop} {Q : Int → iST → Prop} {x1 : Int} {x2 : Int} {x3 : Int} {x4 : Int} {u : iST} (I : Int → Int → Int → Int → iST → Prop) (s : ∀ (x1 : Int) (x2 : Int) (x3 : Int) (x4 : Int) (u : iST), I x1 x2 x3 x4 u → pw_arePairs_65b R13 I Q x1 x2 x3 x4 u) (h : I x1 x2 x3 x4 u) : pw_arePairs_65 R13 Q x1 x2 x3 x4 u := ⟨I, s, h⟩
theorem mn_w_arePairs_65 {Q1 Q2 : Int → iST → Prop} {R131 R132 : Int → Int → iST → Prop} {x1 : Int} {x2 : Int} {x3 : Int} {x4 : Int} {u : iST} (hR13 : ∀ r0 r1 r2, R131 r0 r1 r2 → R132 r0 r1 r2) (hQ : ∀ r0 r1, Q1 r0 r1 → Q2 r0 r1) : pw_arePairs_65 R131 Q1 x1 x2 x3 x4 u → pw_arePairs_65 R132 Q2 x1 x2 x3 x4 u := fun ⟨R, s, h⟩ => ⟨R, fun r0 r1 r2 r3 r4 a => mn_w_arePairs_65b hR13 (fun r0 r1 r2 r3 r4 a => a) hQ (s r0 r1 r2 r3 r4 a), h⟩
theorem un_w_arePairs_65 {R13 : Int → Int → iST → Prop} {Q : Int → iST → Prop} {x1 : Int} {x2 : Int} {x3 : Int} {x4 : Int} {u : iST} : pw_arePairs_65 R13 Q x1 x2 x3 x4 u → pw_arePairs_65b R13 (fun x1 x2 x3 x4 u => pw_arePairs_65 R13 Q x1 x2 x3 x4 u) Q x1 x2 x3 x4 u := fun ⟨R, s, h⟩ => mn_w_arePairs_65b (fun _ _ _ h => h) (fun r0 r1 r2 r3 r4 a => ⟨R, s, a⟩) (fun _ _ h => h) (s _ _ _ _ _ h)
theorem fo_w_arePairs_65 {R13 : Int → Int → iST → Prop} {Q : Int → iST → Prop} {x1 : Int} {x2 : Int} {x3 : Int} {x4 : Int} {u : iST} : pw_arePairs_65b R13 (fun x1 x2 x3 x4 u => pw_arePairs_65 R13 Q x1 x2 x3 x4 u) Q x1 x2 x3 x4 u → pw_arePairs_65 R13 Q x1 x2 x3 x4 u := fun h => ⟨fun x1 x2 x3 x4 u => pw_arePairs_65b R13 (fun x1 x2 x3 x4 u => pw_arePairs_65 R13 Q x1 x2 x3 x4 u) Q x1 x2 x3 x4 u, fun r0 r1 r2 r3 r4 a => mn_w_arePairs_65b (fun _ _ _ h => h) (fun r0 r1 r2 r3 r4 a => un_w_arePairs_65 a) (fun _ _ h => h) a, h⟩
theorem wp_w_arePairs_65 {Q1 Q2 : Int → iST → Prop} {R131 R132 : Int → Int → iST → Prop} {x1 : Int} {x2 : Int} {x3 : Int} {x4 : Int} {u : iST} (hR13 : ∀ r0 r1 r2, R131 r0 r1 r2 → R132 r0 r1 r2) (hQ : ∀ r0 r1, Q1 r0 r1 → Q2 r0 r1) : w_arePairs_65 R131 Q1 x1 x2 x3 x4 u → pw_arePairs_65 R132 Q2 x1 x2 x3 x4 u := fun a => a (fun x1 x2 x3 x4 u => pw_arePairs_65 R132 Q2 x1 x2 x3 x4 u) (fun x1 x2 x3 x4 u b => fo_w_arePairs_65 (wp_w_arePairs_65b hR13 (fun r0 r1 r2 r3 r4 a => a) hQ b))
def pw_arePairs_13b (R13 : Int → Int → iST → Prop) (Q : Int → iST → Prop) (x1 : Int) (x2 : Int) (u : iST) : Prop :=
  br (x2 = 0) (
    ztp 1 (Q 1 u)) (
    bdp x2 452000 (rd (u.2.1 0 x2) (fun v2 => 
    pw_lengthOf v2 (fun v3 u => 
    br (v3 ≠ 2) (
      ztp 0 (Q 0 u)) (
      bdp v2 452000 (rd (u.2.1 0 v2) (fun v4 => 
      pw_isVariable v4 (fun v5 u => 
      br (v5 = 0) (
        ztp 0 (Q 0 u)) (
        pw_nth v2 1 (fun v6 u => 
        pw_termOf v6 (fun v7 u => 
        br (v7 ≠ (-1)) (
          pw_arePairs_65 R13 Q x1 x2 v2 x1 u) (
          ztp 0 (Q 0 u))) u) u)) u)))) u)))
theorem cj_w_arePairs_13b {Q1 Q2 Q3 : Int → iST → Prop} {R131 R132 R133 : Int → Int → iST → Prop} {x1 : Int} {x2 : Int} {u : iST} (hR13 : ∀ r0 r1 r2, R131 r0 r1 r2 → R132 r0 r1 r2 → R133 r0 r1 r2) (hQ : ∀ r0 r1, Q1 r0 r1 → Q2 r0 r1 → Q3 r0 r1) : w_arePairs_13b R131 Q1 x1 x2 u → pw_arePairs_13b R132 Q2 x1 x2 u → w_arePairs_13b R133 Q3 x1 x2 u := (br_cj (zt_cj (hQ _ _)) (bd_cj (rd_cj fun _ => (cj_w_lengthOf (fun _ _ => (br_cj (zt_cj (hQ _ _)) (bd_cj (rd_cj fun _ => (cj_w_isVariable (fun _ _ => (br_cj (zt_cj (hQ _ _)) (cj_w_nth (fun _ _ => (cj_w_termOf (fun _ _ => (br_cj (cj_w_arePairs_65 hR13 hQ) (zt_cj (hQ _ _))))))))))))))))))
theorem mn_w_arePairs_13b {Q1 Q2 : Int → iST → Prop} {R131 R132 : Int → Int → iST → Prop} {x1 : Int} {x2 : Int} {u : iST} (hR13 : ∀ r0 r1 r2, R131 r0 r1 r2 → R132 r0 r1 r2) (hQ : ∀ r0 r1, Q1 r0 r1 → Q2 r0 r1) : pw_arePairs_13b R131 Q1 x1 x2 u → pw_arePairs_13b R132 Q2 x1 x2 u := (br_mn (zt_mn (hQ _ _)) (bd_mn (rd_mn fun _ => (mn_w_lengthOf (fun _ _ => (br_mn (zt_mn (hQ _ _)) (bd_mn (rd_mn fun _ => (mn_w_isVariable (fun _ _ => (br_mn (zt_mn (hQ _ _)) (mn_w_nth (fun _ _ => (mn_w_termOf (fun _ _ => (br_mn (mn_w_arePairs_65 hR13 hQ) (zt_mn (hQ _ _))))))))))))))))))
theorem wp_w_arePairs_13b {Q1 Q2 : Int → iST → Prop} {R131 R132 : Int → Int → iST → Prop} {x1 : Int} {x2 : Int} {u : iST} (hR13 : ∀ r0 r1 r2, R131 r0 r1 r2 → R132 r0 r1 r2) (hQ : ∀ r0 r1, Q1 r0 r1 → Q2 r0 r1) : w_arePairs_13b R131 Q1 x1 x2 u → pw_arePairs_13b R132 Q2 x1 x2 u := (br_wp (zt_wp (hQ _ _)) (bd_wp (rd_wp fun _ => (wp_w_lengthOf (fun _ _ => (br_wp (zt_wp (hQ _ _)) (bd_wp (rd_wp fun _ => (wp_w_isVariable (fun _ _ => (br_wp (zt_wp (hQ _ _)) (wp_w_nth (fun _ _ => (wp_w_termOf (fun _ _ => (br_wp (wp_w_arePairs_65 hR13 hQ) (zt_wp (hQ _ _))))))))))))))))))
