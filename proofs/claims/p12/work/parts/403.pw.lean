def pw_matches_73 (R24 : Int → Int → Int → iST → Prop) (Q : Int → iST → Prop) (x3 : Int) (x4 : Int) (x5 : Int) (x6 : Int) (x7 : Int) (u : iST) : Prop :=
  pw_bound x3 x6 x7 x4 (fun v16 u => 
  br (v16 ≠ 0) (
    R24 x3 x4 x5 u) (
    ztp 0 (Q 0 u))) u
theorem cj_w_matches_73 {Q1 Q2 Q3 : Int → iST → Prop} {R241 R242 R243 : Int → Int → Int → iST → Prop} {x3 : Int} {x4 : Int} {x5 : Int} {x6 : Int} {x7 : Int} {u : iST} (hR24 : ∀ r0 r1 r2 r3, R241 r0 r1 r2 r3 → R242 r0 r1 r2 r3 → R243 r0 r1 r2 r3) (hQ : ∀ r0 r1, Q1 r0 r1 → Q2 r0 r1 → Q3 r0 r1) : w_matches_73 R241 Q1 x3 x4 x5 x6 x7 u → pw_matches_73 R242 Q2 x3 x4 x5 x6 x7 u → w_matches_73 R243 Q3 x3 x4 x5 x6 x7 u := (cj_w_bound (fun _ _ => (br_cj (hR24 _ _ _ _) (zt_cj (hQ _ _)))))
theorem mn_w_matches_73 {Q1 Q2 : Int → iST → Prop} {R241 R242 : Int → Int → Int → iST → Prop} {x3 : Int} {x4 : Int} {x5 : Int} {x6 : Int} {x7 : Int} {u : iST} (hR24 : ∀ r0 r1 r2 r3, R241 r0 r1 r2 r3 → R242 r0 r1 r2 r3) (hQ : ∀ r0 r1, Q1 r0 r1 → Q2 r0 r1) : pw_matches_73 R241 Q1 x3 x4 x5 x6 x7 u → pw_matches_73 R242 Q2 x3 x4 x5 x6 x7 u := (mn_w_bound (fun _ _ => (br_mn (hR24 _ _ _ _) (zt_mn (hQ _ _)))))
theorem wp_w_matches_73 {Q1 Q2 : Int → iST → Prop} {R241 R242 : Int → Int → Int → iST → Prop} {x3 : Int} {x4 : Int} {x5 : Int} {x6 : Int} {x7 : Int} {u : iST} (hR24 : ∀ r0 r1 r2 r3, R241 r0 r1 r2 r3 → R242 r0 r1 r2 r3) (hQ : ∀ r0 r1, Q1 r0 r1 → Q2 r0 r1) : w_matches_73 R241 Q1 x3 x4 x5 x6 x7 u → pw_matches_73 R242 Q2 x3 x4 x5 x6 x7 u := (wp_w_bound (fun _ _ => (br_wp (hR24 _ _ _ _) (zt_wp (hQ _ _)))))
def pw_matches_24b (R24 : Int → Int → Int → iST → Prop) (Q : Int → iST → Prop) (x3 : Int) (x4 : Int) (x5 : Int) (u : iST) : Prop :=
  br (x5 ≤ 0) (
    ztp 1 (Q 1 u)) (
    ovp (x5 + (-1)) (
    bdp (x5 + (-1)) 800 (rd (u.2.1 112 (x5 + (-1))) (fun v2 => 
    bdp (x5 + (-1)) 800 (rd (u.2.1 113 (x5 + (-1))) (fun v3 => 
    pw_isVariable v2 (fun v4 u => 
    br (v4 = 0) (
      pw_isCall v2 (fun v5 u => 
      br (v5 ≠ 0) (
        pw_isCall v3 (fun v6 u => 
        br (v6 = 0) (
          ztp 0 (Q 0 u)) (
          bdp v2 452000 (rd (u.2.1 0 v2) (fun v7 => 
          bdp v3 452000 (rd (u.2.1 0 v3) (fun v8 => 
          br (v7 = v8) (
            bdp v2 452000 (rd (u.2.1 1 v2) (fun v9 => 
            bdp v3 452000 (rd (u.2.1 1 v3) (fun v10 => 
            pw_matches_153 R24 Q x3 x4 (x5 + (-1)) v9 v10 u))))) (
            ztp 0 (Q 0 u)))))))) u) (
        br (v2 = v3) (
          R24 x3 x4 (x5 + (-1)) u) (
          ztp 0 (Q 0 u)))) u) (
      br (x4 = 0) (
        pw_matches_73 R24 Q x3 x4 (x5 + (-1)) v2 v3 u) (
        pw_isVariable v3 (fun v17 u => 
        br (v17 = 0) (
          ztp 0 (Q 0 u)) (
          pw_matches_73 R24 Q x3 x4 (x5 + (-1)) v2 v3 u)) u))) u))))))
theorem cj_w_matches_24b {Q1 Q2 Q3 : Int → iST → Prop} {R241 R242 R243 : Int → Int → Int → iST → Prop} {x3 : Int} {x4 : Int} {x5 : Int} {u : iST} (hR24 : ∀ r0 r1 r2 r3, R241 r0 r1 r2 r3 → R242 r0 r1 r2 r3 → R243 r0 r1 r2 r3) (hQ : ∀ r0 r1, Q1 r0 r1 → Q2 r0 r1 → Q3 r0 r1) : w_matches_24b R241 Q1 x3 x4 x5 u → pw_matches_24b R242 Q2 x3 x4 x5 u → w_matches_24b R243 Q3 x3 x4 x5 u := (br_cj (zt_cj (hQ _ _)) (ov_cj (bd_cj (rd_cj fun _ => (bd_cj (rd_cj fun _ => (cj_w_isVariable (fun _ _ => (br_cj (cj_w_isCall (fun _ _ => (br_cj (cj_w_isCall (fun _ _ => (br_cj (zt_cj (hQ _ _)) (bd_cj (rd_cj fun _ => (bd_cj (rd_cj fun _ => (br_cj (bd_cj (rd_cj fun _ => (bd_cj (rd_cj fun _ => (cj_w_matches_153 hR24 hQ))))) (zt_cj (hQ _ _)))))))))) (br_cj (hR24 _ _ _ _) (zt_cj (hQ _ _)))))) (br_cj (cj_w_matches_73 hR24 hQ) (cj_w_isVariable (fun _ _ => (br_cj (zt_cj (hQ _ _)) (cj_w_matches_73 hR24 hQ))))))))))))))
theorem mn_w_matches_24b {Q1 Q2 : Int → iST → Prop} {R241 R242 : Int → Int → Int → iST → Prop} {x3 : Int} {x4 : Int} {x5 : Int} {u : iST} (hR24 : ∀ r0 r1 r2 r3, R241 r0 r1 r2 r3 → R242 r0 r1 r2 r3) (hQ : ∀ r0 r1, Q1 r0 r1 → Q2 r0 r1) : pw_matches_24b R241 Q1 x3 x4 x5 u → pw_matches_24b R242 Q2 x3 x4 x5 u := (br_mn (zt_mn (hQ _ _)) (ov_mn (bd_mn (rd_mn fun _ => (bd_mn (rd_mn fun _ => (mn_w_isVariable (fun _ _ => (br_mn (mn_w_isCall (fun _ _ => (br_mn (mn_w_isCall (fun _ _ => (br_mn (zt_mn (hQ _ _)) (bd_mn (rd_mn fun _ => (bd_mn (rd_mn fun _ => (br_mn (bd_mn (rd_mn fun _ => (bd_mn (rd_mn fun _ => (mn_w_matches_153 hR24 hQ))))) (zt_mn (hQ _ _)))))))))) (br_mn (hR24 _ _ _ _) (zt_mn (hQ _ _)))))) (br_mn (mn_w_matches_73 hR24 hQ) (mn_w_isVariable (fun _ _ => (br_mn (zt_mn (hQ _ _)) (mn_w_matches_73 hR24 hQ))))))))))))))
theorem wp_w_matches_24b {Q1 Q2 : Int → iST → Prop} {R241 R242 : Int → Int → Int → iST → Prop} {x3 : Int} {x4 : Int} {x5 : Int} {u : iST} (hR24 : ∀ r0 r1 r2 r3, R241 r0 r1 r2 r3 → R242 r0 r1 r2 r3) (hQ : ∀ r0 r1, Q1 r0 r1 → Q2 r0 r1) : w_matches_24b R241 Q1 x3 x4 x5 u → pw_matches_24b R242 Q2 x3 x4 x5 u := (br_wp (zt_wp (hQ _ _)) (ov_wp (bd_wp (rd_wp fun _ => (bd_wp (rd_wp fun _ => (wp_w_isVariable (fun _ _ => (br_wp (wp_w_isCall (fun _ _ => (br_wp (wp_w_isCall (fun _ _ => (br_wp (zt_wp (hQ _ _)) (bd_wp (rd_wp fun _ => (bd_wp (rd_wp fun _ => (br_wp (bd_wp (rd_wp fun _ => (bd_wp (rd_wp fun _ => (wp_w_matches_153 hR24 hQ))))) (zt_wp (hQ _ _)))))))))) (br_wp (hR24 _ _ _ _) (zt_wp (hQ _ _)))))) (br_wp (wp_w_matches_73 hR24 hQ) (wp_w_isVariable (fun _ _ => (br_wp (zt_wp (hQ _ _)) (wp_w_matches_73 hR24 hQ))))))))))))))
def pw_matches_24 (Q : Int → iST → Prop) (x3 : Int) (x4 : Int) (x5 : Int) (u : iST) : Prop := ∃ R24 : Int → Int → Int → iST → Prop, (∀ (x3 : Int) (x4 : Int) (x5 : Int) (u : iST), R24 x3 x4 x5 u → pw_matches_24b R24 Q x3 x4 x5 u) ∧ R24 x3 x4 x5 u
theorem cj_w_matches_24 {Q1 Q2 Q3 : Int → iST → Prop}  {x3 : Int} {x4 : Int} {x5 : Int} {u : iST} (hQ : ∀ r0 r1, Q1 r0 r1 → Q2 r0 r1 → Q3 r0 r1) : w_matches_24 Q1 x3 x4 x5 u → pw_matches_24 Q2 x3 x4 x5 u → w_matches_24 Q3 x3 x4 x5 u := by
  intro a b R3 c3
  obtain ⟨R2, c2, b2⟩ := b
  exact a (fun r0 r1 r2 r3 => R2 r0 r1 r2 r3 → R3 r0 r1 r2 r3) (fun r0 r1 r2 r3 a b => c3 r0 r1 r2 r3 (cj_w_matches_24b (fun r0 r1 r2 r3 a b => a b) hQ a (c2 r0 r1 r2 r3 b))) b2
theorem pw_matches_24_i  {Q : Int → iST → Prop} {x3 : Int} {x4 : Int} {x5 : Int} {u : iST} (I : Int → Int → Int → iST → Prop) (s : ∀ (x3 : Int) (x4 : Int) (x5 : Int) (u : iST), I x3 x4 x5 u → pw_matches_24b I Q x3 x4 x5 u) (h : I x3 x4 x5 u) : pw_matches_24 Q x3 x4 x5 u := ⟨I, s, h⟩
theorem mn_w_matches_24 {Q1 Q2 : Int → iST → Prop}  {x3 : Int} {x4 : Int} {x5 : Int} {u : iST} (hQ : ∀ r0 r1, Q1 r0 r1 → Q2 r0 r1) : pw_matches_24 Q1 x3 x4 x5 u → pw_matches_24 Q2 x3 x4 x5 u := fun ⟨R, s, h⟩ => ⟨R, fun r0 r1 r2 r3 a => mn_w_matches_24b (fun r0 r1 r2 r3 a => a) hQ (s r0 r1 r2 r3 a), h⟩
theorem un_w_matches_24  {Q : Int → iST → Prop} {x3 : Int} {x4 : Int} {x5 : Int} {u : iST} : pw_matches_24 Q x3 x4 x5 u → pw_matches_24b (fun x3 x4 x5 u => pw_matches_24 Q x3 x4 x5 u) Q x3 x4 x5 u := fun ⟨R, s, h⟩ => mn_w_matches_24b (fun r0 r1 r2 r3 a => ⟨R, s, a⟩) (fun _ _ h => h) (s _ _ _ _ h)
theorem fo_w_matches_24  {Q : Int → iST → Prop} {x3 : Int} {x4 : Int} {x5 : Int} {u : iST} : pw_matches_24b (fun x3 x4 x5 u => pw_matches_24 Q x3 x4 x5 u) Q x3 x4 x5 u → pw_matches_24 Q x3 x4 x5 u := fun h => ⟨fun x3 x4 x5 u => pw_matches_24b (fun x3 x4 x5 u => pw_matches_24 Q x3 x4 x5 u) Q x3 x4 x5 u, fun r0 r1 r2 r3 a => mn_w_matches_24b (fun r0 r1 r2 r3 a => un_w_matches_24 a) (fun _ _ h => h) a, h⟩
theorem wp_w_matches_24 {Q1 Q2 : Int → iST → Prop}  {x3 : Int} {x4 : Int} {x5 : Int} {u : iST} (hQ : ∀ r0 r1, Q1 r0 r1 → Q2 r0 r1) : w_matches_24 Q1 x3 x4 x5 u → pw_matches_24 Q2 x3 x4 x5 u := fun a => a (fun x3 x4 x5 u => pw_matches_24 Q2 x3 x4 x5 u) (fun x3 x4 x5 u b => fo_w_matches_24 (wp_w_matches_24b (fun r0 r1 r2 r3 a => a) hQ b))
def pw_matches (a0 : Int) (a1 : Int) (a2 : Int) (a3 : Int) (Q : Int → iST → Prop) (u : iST) : Prop :=
  bdp 0 800 (sw (iA u 112 0 a0) (fun u => 
  bdp 0 800 (sw (iA u 113 0 a1) (fun u => 
  bdp a2 60 (sw (iA u 107 a2 0) (fun u => 
  pw_matches_24 Q a2 a3 1 u))))))
theorem cj_w_matches {Q1 Q2 Q3 : Int → iST → Prop}  {a0 : Int} {a1 : Int} {a2 : Int} {a3 : Int} {u : iST} (hQ : ∀ r0 r1, Q1 r0 r1 → Q2 r0 r1 → Q3 r0 r1) : w_matches a0 a1 a2 a3 Q1 u → pw_matches a0 a1 a2 a3 Q2 u → w_matches a0 a1 a2 a3 Q3 u := (bd_cj (sw_cj fun _ => (bd_cj (sw_cj fun _ => (bd_cj (sw_cj fun _ => (cj_w_matches_24  hQ)))))))
theorem mn_w_matches {Q1 Q2 : Int → iST → Prop}  {a0 : Int} {a1 : Int} {a2 : Int} {a3 : Int} {u : iST} (hQ : ∀ r0 r1, Q1 r0 r1 → Q2 r0 r1) : pw_matches a0 a1 a2 a3 Q1 u → pw_matches a0 a1 a2 a3 Q2 u := (bd_mn (sw_mn fun _ => (bd_mn (sw_mn fun _ => (bd_mn (sw_mn fun _ => (mn_w_matches_24  hQ)))))))
theorem wp_w_matches {Q1 Q2 : Int → iST → Prop}  {a0 : Int} {a1 : Int} {a2 : Int} {a3 : Int} {u : iST} (hQ : ∀ r0 r1, Q1 r0 r1 → Q2 r0 r1) : w_matches a0 a1 a2 a3 Q1 u → pw_matches a0 a1 a2 a3 Q2 u := (bd_wp (sw_wp fun _ => (bd_wp (sw_wp fun _ => (bd_wp (sw_wp fun _ => (wp_w_matches_24  hQ)))))))
def pw_takePairs_12b (R12 : Int → Int → iST → Prop) (Q : iST → Prop) (x1 : Int) (x2 : Int) (u : iST) : Prop :=
  rd (u.1 74) (fun v2 => 
  br (v2 ≤ x2) (
    Q u) (
    ovp (130 * x1) (
    ovp ((130 * x1) + x2) (
    bdp ((130 * x1) + x2) 7800 (rd (u.2.1 105 ((130 * x1) + x2)) (fun v5 => 
    bdp x2 400 (sw (iA u 72 x2 v5) (fun u => 
    ovp (130 * x1) (
    ovp ((130 * x1) + x2) (
    bdp ((130 * x1) + x2) 7800 (rd (u.2.1 106 ((130 * x1) + x2)) (fun v8 => 
    bdp x2 400 (sw (iA u 73 x2 v8) (fun u => 
    ovp (x2 + 1) (
    R12 x1 (x2 + 1) u)))))))))))))))
theorem cj_w_takePairs_12b {Q1 Q2 Q3 : iST → Prop} {R121 R122 R123 : Int → Int → iST → Prop} {x1 : Int} {x2 : Int} {u : iST} (hR12 : ∀ r0 r1 r2, R121 r0 r1 r2 → R122 r0 r1 r2 → R123 r0 r1 r2) (hQ : ∀ r0, Q1 r0 → Q2 r0 → Q3 r0) : w_takePairs_12b R121 Q1 x1 x2 u → pw_takePairs_12b R122 Q2 x1 x2 u → w_takePairs_12b R123 Q3 x1 x2 u := (rd_cj fun _ => (br_cj (hQ _) (ov_cj (ov_cj (bd_cj (rd_cj fun _ => (bd_cj (sw_cj fun _ => (ov_cj (ov_cj (bd_cj (rd_cj fun _ => (bd_cj (sw_cj fun _ => (ov_cj (hR12 _ _ _))))))))))))))))
theorem mn_w_takePairs_12b {Q1 Q2 : iST → Prop} {R121 R122 : Int → Int → iST → Prop} {x1 : Int} {x2 : Int} {u : iST} (hR12 : ∀ r0 r1 r2, R121 r0 r1 r2 → R122 r0 r1 r2) (hQ : ∀ r0, Q1 r0 → Q2 r0) : pw_takePairs_12b R121 Q1 x1 x2 u → pw_takePairs_12b R122 Q2 x1 x2 u := (rd_mn fun _ => (br_mn (hQ _) (ov_mn (ov_mn (bd_mn (rd_mn fun _ => (bd_mn (sw_mn fun _ => (ov_mn (ov_mn (bd_mn (rd_mn fun _ => (bd_mn (sw_mn fun _ => (ov_mn (hR12 _ _ _))))))))))))))))
theorem wp_w_takePairs_12b {Q1 Q2 : iST → Prop} {R121 R122 : Int → Int → iST → Prop} {x1 : Int} {x2 : Int} {u : iST} (hR12 : ∀ r0 r1 r2, R121 r0 r1 r2 → R122 r0 r1 r2) (hQ : ∀ r0, Q1 r0 → Q2 r0) : w_takePairs_12b R121 Q1 x1 x2 u → pw_takePairs_12b R122 Q2 x1 x2 u := (rd_wp fun _ => (br_wp (hQ _) (ov_wp (ov_wp (bd_wp (rd_wp fun _ => (bd_wp (sw_wp fun _ => (ov_wp (ov_wp (bd_wp (rd_wp fun _ => (bd_wp (sw_wp fun _ => (ov_wp (hR12 _ _ _))))))))))))))))
def pw_takePairs_12 (Q : iST → Prop) (x1 : Int) (x2 : Int) (u : iST) : Prop := ∃ R12 : Int → Int → iST → Prop, (∀ (x1 : Int) (x2 : Int) (u : iST), R12 x1 x2 u → pw_takePairs_12b R12 Q x1 x2 u) ∧ R12 x1 x2 u
theorem cj_w_takePairs_12 {Q1 Q2 Q3 : iST → Prop}  {x1 : Int} {x2 : Int} {u : iST} (hQ : ∀ r0, Q1 r0 → Q2 r0 → Q3 r0) : w_takePairs_12 Q1 x1 x2 u → pw_takePairs_12 Q2 x1 x2 u → w_takePairs_12 Q3 x1 x2 u := by
  intro a b R3 c3
  obtain ⟨R2, c2, b2⟩ := b
  exact a (fun r0 r1 r2 => R2 r0 r1 r2 → R3 r0 r1 r2) (fun r0 r1 r2 a b => c3 r0 r1 r2 (cj_w_takePairs_12b (fun r0 r1 r2 a b => a b) hQ a (c2 r0 r1 r2 b))) b2
theorem pw_takePairs_12_i  {Q : iST → Prop} {x1 : Int} {x2 : Int} {u : iST} (I : Int → Int → iST → Prop) (s : ∀ (x1 : Int) (x2 : Int) (u : iST), I x1 x2 u → pw_takePairs_12b I Q x1 x2 u) (h : I x1 x2 u) : pw_takePairs_12 Q x1 x2 u := ⟨I, s, h⟩
theorem mn_w_takePairs_12 {Q1 Q2 : iST → Prop}  {x1 : Int} {x2 : Int} {u : iST} (hQ : ∀ r0, Q1 r0 → Q2 r0) : pw_takePairs_12 Q1 x1 x2 u → pw_takePairs_12 Q2 x1 x2 u := fun ⟨R, s, h⟩ => ⟨R, fun r0 r1 r2 a => mn_w_takePairs_12b (fun r0 r1 r2 a => a) hQ (s r0 r1 r2 a), h⟩
theorem un_w_takePairs_12  {Q : iST → Prop} {x1 : Int} {x2 : Int} {u : iST} : pw_takePairs_12 Q x1 x2 u → pw_takePairs_12b (fun x1 x2 u => pw_takePairs_12 Q x1 x2 u) Q x1 x2 u := fun ⟨R, s, h⟩ => mn_w_takePairs_12b (fun r0 r1 r2 a => ⟨R, s, a⟩) (fun _ h => h) (s _ _ _ h)
theorem fo_w_takePairs_12  {Q : iST → Prop} {x1 : Int} {x2 : Int} {u : iST} : pw_takePairs_12b (fun x1 x2 u => pw_takePairs_12 Q x1 x2 u) Q x1 x2 u → pw_takePairs_12 Q x1 x2 u := fun h => ⟨fun x1 x2 u => pw_takePairs_12b (fun x1 x2 u => pw_takePairs_12 Q x1 x2 u) Q x1 x2 u, fun r0 r1 r2 a => mn_w_takePairs_12b (fun r0 r1 r2 a => un_w_takePairs_12 a) (fun _ h => h) a, h⟩
theorem wp_w_takePairs_12 {Q1 Q2 : iST → Prop}  {x1 : Int} {x2 : Int} {u : iST} (hQ : ∀ r0, Q1 r0 → Q2 r0) : w_takePairs_12 Q1 x1 x2 u → pw_takePairs_12 Q2 x1 x2 u := fun a => a (fun x1 x2 u => pw_takePairs_12 Q2 x1 x2 u) (fun x1 x2 u b => fo_w_takePairs_12 (wp_w_takePairs_12b (fun r0 r1 r2 a => a) hQ b))
def pw_takePairs (a0 : Int) (Q : iST → Prop) (u : iST) : Prop :=
  bdp a0 60 (rd (u.2.1 107 a0) (fun v1 => 
  sw (iI u 74 v1) (fun u => 
  pw_takePairs_12 Q a0 0 u)))
theorem cj_w_takePairs {Q1 Q2 Q3 : iST → Prop}  {a0 : Int} {u : iST} (hQ : ∀ r0, Q1 r0 → Q2 r0 → Q3 r0) : w_takePairs a0 Q1 u → pw_takePairs a0 Q2 u → w_takePairs a0 Q3 u := (bd_cj (rd_cj fun _ => (sw_cj fun _ => (cj_w_takePairs_12  hQ))))
theorem mn_w_takePairs {Q1 Q2 : iST → Prop}  {a0 : Int} {u : iST} (hQ : ∀ r0, Q1 r0 → Q2 r0) : pw_takePairs a0 Q1 u → pw_takePairs a0 Q2 u := (bd_mn (rd_mn fun _ => (sw_mn fun _ => (mn_w_takePairs_12  hQ))))
theorem wp_w_takePairs {Q1 Q2 : iST → Prop}  {a0 : Int} {u : iST} (hQ : ∀ r0, Q1 r0 → Q2 r0) : w_takePairs a0 Q1 u → pw_takePairs a0 Q2 u := (bd_wp (rd_wp fun _ => (sw_wp fun _ => (wp_w_takePairs_12  hQ))))
def pw_nextHypothesis (a0 : Int) (Q : iST → Prop) (u : iST) : Prop :=
  bdp a0 60 (rd (u.2.1 100 a0) (fun v1 => 
  pw_takePairs a0 (fun u => 
  bdp a0 60 (rd (u.2.1 101 a0) (fun v3 => 
  bdp v1 60 (rd (u.2.1 48 v1) (fun v4 => 
  br (v3 ≠ v4) (
    ovp (120 * v1) (
    bdp a0 60 (rd (u.2.1 101 a0) (fun v6 => 
    ovp ((120 * v1) + v6) (
    bdp ((120 * v1) + v6) 7200 (rd (u.2.1 49 ((120 * v1) + v6)) (fun v8 => 
    pw_instance v8 (fun v9 u => 
    bdp a0 60 (sw (iA u 94 a0 31) (fun u => 
    pw_beginJob v9 1 (fun u => 
    Q u) u))) u))))))) (
    bdp v1 60 (rd (u.2.1 47 v1) (fun v11 => 
    pw_instance v11 (fun v12 u => 
    pw_passOn v12 (fun u => 
    Q u) u) u)))))))) u))
theorem cj_w_nextHypothesis {Q1 Q2 Q3 : iST → Prop}  {a0 : Int} {u : iST} (hQ : ∀ r0, Q1 r0 → Q2 r0 → Q3 r0) : w_nextHypothesis a0 Q1 u → pw_nextHypothesis a0 Q2 u → w_nextHypothesis a0 Q3 u := (bd_cj (rd_cj fun _ => (cj_w_takePairs (fun _ => (bd_cj (rd_cj fun _ => (bd_cj (rd_cj fun _ => (br_cj (ov_cj (bd_cj (rd_cj fun _ => (ov_cj (bd_cj (rd_cj fun _ => (cj_w_instance (fun _ _ => (bd_cj (sw_cj fun _ => (cj_w_beginJob (fun _ => (hQ _))))))))))))) (bd_cj (rd_cj fun _ => (cj_w_instance (fun _ _ => (cj_w_passOn (fun _ => (hQ _))))))))))))))))
theorem mn_w_nextHypothesis {Q1 Q2 : iST → Prop}  {a0 : Int} {u : iST} (hQ : ∀ r0, Q1 r0 → Q2 r0) : pw_nextHypothesis a0 Q1 u → pw_nextHypothesis a0 Q2 u := (bd_mn (rd_mn fun _ => (mn_w_takePairs (fun _ => (bd_mn (rd_mn fun _ => (bd_mn (rd_mn fun _ => (br_mn (ov_mn (bd_mn (rd_mn fun _ => (ov_mn (bd_mn (rd_mn fun _ => (mn_w_instance (fun _ _ => (bd_mn (sw_mn fun _ => (mn_w_beginJob (fun _ => (hQ _))))))))))))) (bd_mn (rd_mn fun _ => (mn_w_instance (fun _ _ => (mn_w_passOn (fun _ => (hQ _))))))))))))))))
theorem wp_w_nextHypothesis {Q1 Q2 : iST → Prop}  {a0 : Int} {u : iST} (hQ : ∀ r0, Q1 r0 → Q2 r0) : w_nextHypothesis a0 Q1 u → pw_nextHypothesis a0 Q2 u := (bd_wp (rd_wp fun _ => (wp_w_takePairs (fun _ => (bd_wp (rd_wp fun _ => (bd_wp (rd_wp fun _ => (br_wp (ov_wp (bd_wp (rd_wp fun _ => (ov_wp (bd_wp (rd_wp fun _ => (wp_w_instance (fun _ _ => (bd_wp (sw_wp fun _ => (wp_w_beginJob (fun _ => (hQ _))))))))))))) (bd_wp (rd_wp fun _ => (wp_w_instance (fun _ _ => (wp_w_passOn (fun _ => (hQ _))))))))))))))))
def pw_bodyOf_102 (Q : Int → iST → Prop) (y1 : Int) (u : iST) : Prop :=
  pw_instance y1 (fun v8 u => 
  Q v8 u) u
theorem cj_w_bodyOf_102 {Q1 Q2 Q3 : Int → iST → Prop}  {y1 : Int} {u : iST} (hQ : ∀ r0 r1, Q1 r0 r1 → Q2 r0 r1 → Q3 r0 r1) : w_bodyOf_102 Q1 y1 u → pw_bodyOf_102 Q2 y1 u → w_bodyOf_102 Q3 y1 u := (cj_w_instance (fun _ _ => (hQ _ _)))
theorem mn_w_bodyOf_102 {Q1 Q2 : Int → iST → Prop}  {y1 : Int} {u : iST} (hQ : ∀ r0 r1, Q1 r0 r1 → Q2 r0 r1) : pw_bodyOf_102 Q1 y1 u → pw_bodyOf_102 Q2 y1 u := (mn_w_instance (fun _ _ => (hQ _ _)))
theorem wp_w_bodyOf_102 {Q1 Q2 : Int → iST → Prop}  {y1 : Int} {u : iST} (hQ : ∀ r0 r1, Q1 r0 r1 → Q2 r0 r1) : w_bodyOf_102 Q1 y1 u → pw_bodyOf_102 Q2 y1 u := (wp_w_instance (fun _ _ => (hQ _ _)))
def pw_bodyOf_27b (R27 : Int → Int → Int → Int → iST → Prop) (Q : Int → iST → Prop) (x1 : Int) (x2 : Int) (x3 : Int) (x4 : Int) (u : iST) : Prop :=
  rd (u.1 74) (fun v5 => 
  br (v5 ≤ x4) (
    br (x2 ≠ 0) (
      bdp x3 40 (rd (u.2.1 39 x3) (fun v6 => 
      pw_term v6 x2 (fun v7 u => 
      pw_bodyOf_102 Q v7 u) u))) (
      bdp x3 40 (rd (u.2.1 39 x3) (fun v9 => 
      pw_bodyOf_102 Q v9 u)))) (
    ovp (6 * x3) (
    ovp ((6 * x3) + x4) (
    bdp ((6 * x3) + x4) 240 (rd (u.2.1 38 ((6 * x3) + x4)) (fun v12 => 
    bdp x4 400 (sw (iA u 72 x4 v12) (fun u => 
    ovp (x4 + 1) (
    pw_term x1 (x4 + 1) (fun v14 u => 
    bdp x4 400 (sw (iA u 73 x4 v14) (fun u => 
    ovp (x4 + 1) (
    R27 x1 x2 x3 (x4 + 1) u)))) u)))))))))
theorem cj_w_bodyOf_27b {Q1 Q2 Q3 : Int → iST → Prop} {R271 R272 R273 : Int → Int → Int → Int → iST → Prop} {x1 : Int} {x2 : Int} {x3 : Int} {x4 : Int} {u : iST} (hR27 : ∀ r0 r1 r2 r3 r4, R271 r0 r1 r2 r3 r4 → R272 r0 r1 r2 r3 r4 → R273 r0 r1 r2 r3 r4) (hQ : ∀ r0 r1, Q1 r0 r1 → Q2 r0 r1 → Q3 r0 r1) : w_bodyOf_27b R271 Q1 x1 x2 x3 x4 u → pw_bodyOf_27b R272 Q2 x1 x2 x3 x4 u → w_bodyOf_27b R273 Q3 x1 x2 x3 x4 u := (rd_cj fun _ => (br_cj (br_cj (bd_cj (rd_cj fun _ => (cj_w_term (fun _ _ => (cj_w_bodyOf_102  hQ))))) (bd_cj (rd_cj fun _ => (cj_w_bodyOf_102  hQ)))) (ov_cj (ov_cj (bd_cj (rd_cj fun _ => (bd_cj (sw_cj fun _ => (ov_cj (cj_w_term (fun _ _ => (bd_cj (sw_cj fun _ => (ov_cj (hR27 _ _ _ _ _)))))))))))))))
theorem mn_w_bodyOf_27b {Q1 Q2 : Int → iST → Prop} {R271 R272 : Int → Int → Int → Int → iST → Prop} {x1 : Int} {x2 : Int} {x3 : Int} {x4 : Int} {u : iST} (hR27 : ∀ r0 r1 r2 r3 r4, R271 r0 r1 r2 r3 r4 → R272 r0 r1 r2 r3 r4) (hQ : ∀ r0 r1, Q1 r0 r1 → Q2 r0 r1) : pw_bodyOf_27b R271 Q1 x1 x2 x3 x4 u → pw_bodyOf_27b R272 Q2 x1 x2 x3 x4 u := (rd_mn fun _ => (br_mn (br_mn (bd_mn (rd_mn fun _ => (mn_w_term (fun _ _ => (mn_w_bodyOf_102  hQ))))) (bd_mn (rd_mn fun _ => (mn_w_bodyOf_102  hQ)))) (ov_mn (ov_mn (bd_mn (rd_mn fun _ => (bd_mn (sw_mn fun _ => (ov_mn (mn_w_term (fun _ _ => (bd_mn (sw_mn fun _ => (ov_mn (hR27 _ _ _ _ _)))))))))))))))
theorem wp_w_bodyOf_27b {Q1 Q2 : Int → iST → Prop} {R271 R272 : Int → Int → Int → Int → iST → Prop} {x1 : Int} {x2 : Int} {x3 : Int} {x4 : Int} {u : iST} (hR27 : ∀ r0 r1 r2 r3 r4, R271 r0 r1 r2 r3 r4 → R272 r0 r1 r2 r3 r4) (hQ : ∀ r0 r1, Q1 r0 r1 → Q2 r0 r1) : w_bodyOf_27b R271 Q1 x1 x2 x3 x4 u → pw_bodyOf_27b R272 Q2 x1 x2 x3 x4 u := (rd_wp fun _ => (br_wp (br_wp (bd_wp (rd_wp fun _ => (wp_w_term (fun _ _ => (wp_w_bodyOf_102  hQ))))) (bd_wp (rd_wp fun _ => (wp_w_bodyOf_102  hQ)))) (ov_wp (ov_wp (bd_wp (rd_wp fun _ => (bd_wp (sw_wp fun _ => (ov_wp (wp_w_term (fun _ _ => (bd_wp (sw_wp fun _ => (ov_wp (hR27 _ _ _ _ _)))))))))))))))
def pw_bodyOf_27 (Q : Int → iST → Prop) (x1 : Int) (x2 : Int) (x3 : Int) (x4 : Int) (u : iST) : Prop := ∃ R27 : Int → Int → Int → Int → iST → Prop, (∀ (x1 : Int) (x2 : Int) (x3 : Int) (x4 : Int) (u : iST), R27 x1 x2 x3 x4 u → pw_bodyOf_27b R27 Q x1 x2 x3 x4 u) ∧ R27 x1 x2 x3 x4 u
theorem cj_w_bodyOf_27 {Q1 Q2 Q3 : Int → iST → Prop}  {x1 : Int} {x2 : Int} {x3 : Int} {x4 : Int} {u : iST} (hQ : ∀ r0 r1, Q1 r0 r1 → Q2 r0 r1 → Q3 r0 r1) : w_bodyOf_27 Q1 x1 x2 x3 x4 u → pw_bodyOf_27 Q2 x1 x2 x3 x4 u → w_bodyOf_27 Q3 x1 x2 x3 x4 u := by
  intro a b R3 c3
  obtain ⟨R2, c2, b2⟩ := b
  exact a (fun r0 r1 r2 r3 r4 => R2 r0 r1 r2 r3 r4 → R3 r0 r1 r2 r3 r4) (fun r0 r1 r2 r3 r4 a b => c3 r0 r1 r2 r3 r4 (cj_w_bodyOf_27b (fun r0 r1 r2 r3 r4 a b => a b) hQ a (c2 r0 r1 r2 r3 r4 b))) b2
theorem pw_bodyOf_27_i  {Q : Int → iST → Prop} {x1 : Int} {x2 : Int} {x3 : Int} {x4 : Int} {u : iST} (I : Int → Int → Int → Int → iST → Prop) (s : ∀ (x1 : Int) (x2 : Int) (x3 : Int) (x4 : Int) (u : iST), I x1 x2 x3 x4 u → pw_bodyOf_27b I Q x1 x2 x3 x4 u) (h : I x1 x2 x3 x4 u) : pw_bodyOf_27 Q x1 x2 x3 x4 u := ⟨I, s, h⟩
theorem mn_w_bodyOf_27 {Q1 Q2 : Int → iST → Prop}  {x1 : Int} {x2 : Int} {x3 : Int} {x4 : Int} {u : iST} (hQ : ∀ r0 r1, Q1 r0 r1 → Q2 r0 r1) : pw_bodyOf_27 Q1 x1 x2 x3 x4 u → pw_bodyOf_27 Q2 x1 x2 x3 x4 u := fun ⟨R, s, h⟩ => ⟨R, fun r0 r1 r2 r3 r4 a => mn_w_bodyOf_27b (fun r0 r1 r2 r3 r4 a => a) hQ (s r0 r1 r2 r3 r4 a), h⟩
theorem un_w_bodyOf_27  {Q : Int → iST → Prop} {x1 : Int} {x2 : Int} {x3 : Int} {x4 : Int} {u : iST} : pw_bodyOf_27 Q x1 x2 x3 x4 u → pw_bodyOf_27b (fun x1 x2 x3 x4 u => pw_bodyOf_27 Q x1 x2 x3 x4 u) Q x1 x2 x3 x4 u := fun ⟨R, s, h⟩ => mn_w_bodyOf_27b (fun r0 r1 r2 r3 r4 a => ⟨R, s, a⟩) (fun _ _ h => h) (s _ _ _ _ _ h)
theorem fo_w_bodyOf_27  {Q : Int → iST → Prop} {x1 : Int} {x2 : Int} {x3 : Int} {x4 : Int} {u : iST} : pw_bodyOf_27b (fun x1 x2 x3 x4 u => pw_bodyOf_27 Q x1 x2 x3 x4 u) Q x1 x2 x3 x4 u → pw_bodyOf_27 Q x1 x2 x3 x4 u := fun h => ⟨fun x1 x2 x3 x4 u => pw_bodyOf_27b (fun x1 x2 x3 x4 u => pw_bodyOf_27 Q x1 x2 x3 x4 u) Q x1 x2 x3 x4 u, fun r0 r1 r2 r3 r4 a => mn_w_bodyOf_27b (fun r0 r1 r2 r3 r4 a => un_w_bodyOf_27 a) (fun _ _ h => h) a, h⟩
theorem wp_w_bodyOf_27 {Q1 Q2 : Int → iST → Prop}  {x1 : Int} {x2 : Int} {x3 : Int} {x4 : Int} {u : iST} (hQ : ∀ r0 r1, Q1 r0 r1 → Q2 r0 r1) : w_bodyOf_27 Q1 x1 x2 x3 x4 u → pw_bodyOf_27 Q2 x1 x2 x3 x4 u := fun a => a (fun x1 x2 x3 x4 u => pw_bodyOf_27 Q2 x1 x2 x3 x4 u) (fun x1 x2 x3 x4 u b => fo_w_bodyOf_27 (wp_w_bodyOf_27b (fun r0 r1 r2 r3 r4 a => a) hQ b))
def pw_bodyOf (a0 : Int) (a1 : Int) (Q : Int → iST → Prop) (u : iST) : Prop :=
  bdp a0 452000 (rd (u.2.1 0 a0) (fun v1 => 
  pw_functionOf v1 (fun v2 u => 
  ovp (v2 - 100) (
  bdp (v2 - 100) 40 (rd (u.2.1 37 (v2 - 100)) (fun v4 => 
  sw (iI u 74 v4) (fun u => 
  pw_bodyOf_27 Q a0 a1 (v2 - 100) 0 u))))) u))
theorem cj_w_bodyOf {Q1 Q2 Q3 : Int → iST → Prop}  {a0 : Int} {a1 : Int} {u : iST} (hQ : ∀ r0 r1, Q1 r0 r1 → Q2 r0 r1 → Q3 r0 r1) : w_bodyOf a0 a1 Q1 u → pw_bodyOf a0 a1 Q2 u → w_bodyOf a0 a1 Q3 u := (bd_cj (rd_cj fun _ => (cj_w_functionOf (fun _ _ => (ov_cj (bd_cj (rd_cj fun _ => (sw_cj fun _ => (cj_w_bodyOf_27  hQ)))))))))
theorem mn_w_bodyOf {Q1 Q2 : Int → iST → Prop}  {a0 : Int} {a1 : Int} {u : iST} (hQ : ∀ r0 r1, Q1 r0 r1 → Q2 r0 r1) : pw_bodyOf a0 a1 Q1 u → pw_bodyOf a0 a1 Q2 u := (bd_mn (rd_mn fun _ => (mn_w_functionOf (fun _ _ => (ov_mn (bd_mn (rd_mn fun _ => (sw_mn fun _ => (mn_w_bodyOf_27  hQ)))))))))
theorem wp_w_bodyOf {Q1 Q2 : Int → iST → Prop}  {a0 : Int} {a1 : Int} {u : iST} (hQ : ∀ r0 r1, Q1 r0 r1 → Q2 r0 r1) : w_bodyOf a0 a1 Q1 u → pw_bodyOf a0 a1 Q2 u := (bd_wp (rd_wp fun _ => (wp_w_functionOf (fun _ _ => (ov_wp (bd_wp (rd_wp fun _ => (sw_wp fun _ => (wp_w_bodyOf_27  hQ)))))))))
def pw_define (a0 : Int) (Q : iST → Prop) (u : iST) : Prop :=
  bdp a0 60 (rd (u.2.1 92 a0) (fun v1 => 
  bdp v1 452000 (rd (u.2.1 0 v1) (fun v2 => 
  pw_functionOf v2 (fun v3 u => 
  br (100 ≤ v3) (
    ovp (v3 - 100) (
    bdp (v3 - 100) 40 (rz (u.2.1 41 (v3 - 100)) (fun v5 => 
    br (v5 ≠ 0) (
      ovp (v3 - 100) (
      bdp (v3 - 100) 40 (rd (u.2.1 39 (v3 - 100)) (fun v7 => 
      pw_isCallOf v7 3 (fun v8 u => 
      br (v8 = 0) (
        pw_end0 v1 (fun u => 
        Q u) u) (
        bdp a0 60 (sw (iA u 94 a0 40) (fun u => 
        pw_bodyOf v1 1 (fun v10 u => 
        pw_beginJob v10 1 (fun u => 
        Q u) u) u)))) u)))) (
      pw_bodyOf v1 0 (fun v12 u => 
      pw_passOn v12 (fun u => 
      Q u) u) u))))) (
    pw_end0 v1 (fun u => 
    Q u) u)) u))))
theorem cj_w_define {Q1 Q2 Q3 : iST → Prop}  {a0 : Int} {u : iST} (hQ : ∀ r0, Q1 r0 → Q2 r0 → Q3 r0) : w_define a0 Q1 u → pw_define a0 Q2 u → w_define a0 Q3 u := (bd_cj (rd_cj fun _ => (bd_cj (rd_cj fun _ => (cj_w_functionOf (fun _ _ => (br_cj (ov_cj (bd_cj (rz_cj fun _ => (br_cj (ov_cj (bd_cj (rd_cj fun _ => (cj_w_isCallOf (fun _ _ => (br_cj (cj_w_end0 (fun _ => (hQ _))) (bd_cj (sw_cj fun _ => (cj_w_bodyOf (fun _ _ => (cj_w_beginJob (fun _ => (hQ _))))))))))))) (cj_w_bodyOf (fun _ _ => (cj_w_passOn (fun _ => (hQ _))))))))) (cj_w_end0 (fun _ => (hQ _))))))))))
theorem mn_w_define {Q1 Q2 : iST → Prop}  {a0 : Int} {u : iST} (hQ : ∀ r0, Q1 r0 → Q2 r0) : pw_define a0 Q1 u → pw_define a0 Q2 u := (bd_mn (rd_mn fun _ => (bd_mn (rd_mn fun _ => (mn_w_functionOf (fun _ _ => (br_mn (ov_mn (bd_mn (rz_mn fun _ => (br_mn (ov_mn (bd_mn (rd_mn fun _ => (mn_w_isCallOf (fun _ _ => (br_mn (mn_w_end0 (fun _ => (hQ _))) (bd_mn (sw_mn fun _ => (mn_w_bodyOf (fun _ _ => (mn_w_beginJob (fun _ => (hQ _))))))))))))) (mn_w_bodyOf (fun _ _ => (mn_w_passOn (fun _ => (hQ _))))))))) (mn_w_end0 (fun _ => (hQ _))))))))))
theorem wp_w_define {Q1 Q2 : iST → Prop}  {a0 : Int} {u : iST} (hQ : ∀ r0, Q1 r0 → Q2 r0) : w_define a0 Q1 u → pw_define a0 Q2 u := (bd_wp (rd_wp fun _ => (bd_wp (rd_wp fun _ => (wp_w_functionOf (fun _ _ => (br_wp (ov_wp (bd_wp (rz_wp fun _ => (br_wp (ov_wp (bd_wp (rd_wp fun _ => (wp_w_isCallOf (fun _ _ => (br_wp (wp_w_end0 (fun _ => (hQ _))) (bd_wp (sw_wp fun _ => (wp_w_bodyOf (fun _ _ => (wp_w_beginJob (fun _ => (hQ _))))))))))))) (wp_w_bodyOf (fun _ _ => (wp_w_passOn (fun _ => (hQ _))))))))) (wp_w_end0 (fun _ => (hQ _))))))))))
def pw_tryRules_186 (Q : iST → Prop) (x1 : Int) (u : iST) : Prop :=
  rd (u.1 61) (fun v2 => 
  br (v2 ≠ 0) (
    Q u) (
    pw_define x1 (fun u => 
    Q u) u))
theorem cj_w_tryRules_186 {Q1 Q2 Q3 : iST → Prop}  {x1 : Int} {u : iST} (hQ : ∀ r0, Q1 r0 → Q2 r0 → Q3 r0) : w_tryRules_186 Q1 x1 u → pw_tryRules_186 Q2 x1 u → w_tryRules_186 Q3 x1 u := (rd_cj fun _ => (br_cj (hQ _) (cj_w_define (fun _ => (hQ _)))))
theorem mn_w_tryRules_186 {Q1 Q2 : iST → Prop}  {x1 : Int} {u : iST} (hQ : ∀ r0, Q1 r0 → Q2 r0) : pw_tryRules_186 Q1 x1 u → pw_tryRules_186 Q2 x1 u := (rd_mn fun _ => (br_mn (hQ _) (mn_w_define (fun _ => (hQ _)))))
theorem wp_w_tryRules_186 {Q1 Q2 : iST → Prop}  {x1 : Int} {u : iST} (hQ : ∀ r0, Q1 r0 → Q2 r0) : w_tryRules_186 Q1 x1 u → pw_tryRules_186 Q2 x1 u := (rd_wp fun _ => (br_wp (hQ _) (wp_w_define (fun _ => (hQ _)))))
def pw_tryRules_152 (Q : iST → Prop) (x1 : Int) (x4 : Int) (u : iST) : Prop :=
  bdp x1 60 (sw (iA u 100 x1 x4) (fun u => 
  bdp x1 60 (sw (iA u 101 x1 0) (fun u => 
  rd (u.1 61) (fun v22 => 
  br (v22 ≠ 0) (
    Q u) (
    pw_nextHypothesis x1 (fun u => 
    Q u) u))))))
theorem cj_w_tryRules_152 {Q1 Q2 Q3 : iST → Prop}  {x1 : Int} {x4 : Int} {u : iST} (hQ : ∀ r0, Q1 r0 → Q2 r0 → Q3 r0) : w_tryRules_152 Q1 x1 x4 u → pw_tryRules_152 Q2 x1 x4 u → w_tryRules_152 Q3 x1 x4 u := (bd_cj (sw_cj fun _ => (bd_cj (sw_cj fun _ => (rd_cj fun _ => (br_cj (hQ _) (cj_w_nextHypothesis (fun _ => (hQ _)))))))))
theorem mn_w_tryRules_152 {Q1 Q2 : iST → Prop}  {x1 : Int} {x4 : Int} {u : iST} (hQ : ∀ r0, Q1 r0 → Q2 r0) : pw_tryRules_152 Q1 x1 x4 u → pw_tryRules_152 Q2 x1 x4 u := (bd_mn (sw_mn fun _ => (bd_mn (sw_mn fun _ => (rd_mn fun _ => (br_mn (hQ _) (mn_w_nextHypothesis (fun _ => (hQ _)))))))))
theorem wp_w_tryRules_152 {Q1 Q2 : iST → Prop}  {x1 : Int} {x4 : Int} {u : iST} (hQ : ∀ r0, Q1 r0 → Q2 r0) : w_tryRules_152 Q1 x1 x4 u → pw_tryRules_152 Q2 x1 x4 u := (bd_wp (sw_wp fun _ => (bd_wp (sw_wp fun _ => (rd_wp fun _ => (br_wp (hQ _) (wp_w_nextHypothesis (fun _ => (hQ _)))))))))
def pw_tryRules_72 (R10 : Int → Int → Int → iST → Prop) (Q : iST → Prop) (x1 : Int) (x3 : Int) (x4 : Int) (u : iST) : Prop :=
  bdp x4 60 (rd (u.2.1 46 x4) (fun v12 => 
  bdp v12 452000 (rd (u.2.1 0 v12) (fun v13 => 
  bdp x3 452000 (rd (u.2.1 0 x3) (fun v14 => 
  br (v13 ≠ v14) (
    ovp (x4 + (-1)) (
    R10 x1 x3 (x4 + (-1)) u)) (
    bdp x4 60 (rd (u.2.1 46 x4) (fun v16 => 
    pw_matches v16 x3 x1 0 (fun v17 u => 
    br (v17 = 0) (
      ovp (x4 + (-1)) (
      R10 x1 x3 (x4 + (-1)) u)) (
      pw_isStep (fun v19 u => 
      br (v19 ≠ 0) (
        pw_takePairs x1 (fun u => 
        bdp x4 60 (rz (u.2.1 50 x4) (fun v21 => 
        br (v21 = 0) (
          pw_tryRules_152 Q x1 x4 u) (
          bdp x4 60 (rd (u.2.1 47 x4) (fun v24 => 
          pw_instance v24 (fun v25 u => 
          pw_isSmaller v25 x3 (fun v26 u => 
          br (v26 = 0) (
            ovp (x4 + (-1)) (
            R10 x1 x3 (x4 + (-1)) u)) (
            pw_tryRules_152 Q x1 x4 u)) u) u)))))) u) (
        Q u)) u)) u)))))))))
theorem cj_w_tryRules_72 {Q1 Q2 Q3 : iST → Prop} {R101 R102 R103 : Int → Int → Int → iST → Prop} {x1 : Int} {x3 : Int} {x4 : Int} {u : iST} (hR10 : ∀ r0 r1 r2 r3, R101 r0 r1 r2 r3 → R102 r0 r1 r2 r3 → R103 r0 r1 r2 r3) (hQ : ∀ r0, Q1 r0 → Q2 r0 → Q3 r0) : w_tryRules_72 R101 Q1 x1 x3 x4 u → pw_tryRules_72 R102 Q2 x1 x3 x4 u → w_tryRules_72 R103 Q3 x1 x3 x4 u := (bd_cj (rd_cj fun _ => (bd_cj (rd_cj fun _ => (bd_cj (rd_cj fun _ => (br_cj (ov_cj (hR10 _ _ _ _)) (bd_cj (rd_cj fun _ => (cj_w_matches (fun _ _ => (br_cj (ov_cj (hR10 _ _ _ _)) (cj_w_isStep (fun _ _ => (br_cj (cj_w_takePairs (fun _ => (bd_cj (rz_cj fun _ => (br_cj (cj_w_tryRules_152  hQ) (bd_cj (rd_cj fun _ => (cj_w_instance (fun _ _ => (cj_w_isSmaller (fun _ _ => (br_cj (ov_cj (hR10 _ _ _ _)) (cj_w_tryRules_152  hQ))))))))))))) (hQ _))))))))))))))))
theorem mn_w_tryRules_72 {Q1 Q2 : iST → Prop} {R101 R102 : Int → Int → Int → iST → Prop} {x1 : Int} {x3 : Int} {x4 : Int} {u : iST} (hR10 : ∀ r0 r1 r2 r3, R101 r0 r1 r2 r3 → R102 r0 r1 r2 r3) (hQ : ∀ r0, Q1 r0 → Q2 r0) : pw_tryRules_72 R101 Q1 x1 x3 x4 u → pw_tryRules_72 R102 Q2 x1 x3 x4 u := (bd_mn (rd_mn fun _ => (bd_mn (rd_mn fun _ => (bd_mn (rd_mn fun _ => (br_mn (ov_mn (hR10 _ _ _ _)) (bd_mn (rd_mn fun _ => (mn_w_matches (fun _ _ => (br_mn (ov_mn (hR10 _ _ _ _)) (mn_w_isStep (fun _ _ => (br_mn (mn_w_takePairs (fun _ => (bd_mn (rz_mn fun _ => (br_mn (mn_w_tryRules_152  hQ) (bd_mn (rd_mn fun _ => (mn_w_instance (fun _ _ => (mn_w_isSmaller (fun _ _ => (br_mn (ov_mn (hR10 _ _ _ _)) (mn_w_tryRules_152  hQ))))))))))))) (hQ _))))))))))))))))
theorem wp_w_tryRules_72 {Q1 Q2 : iST → Prop} {R101 R102 : Int → Int → Int → iST → Prop} {x1 : Int} {x3 : Int} {x4 : Int} {u : iST} (hR10 : ∀ r0 r1 r2 r3, R101 r0 r1 r2 r3 → R102 r0 r1 r2 r3) (hQ : ∀ r0, Q1 r0 → Q2 r0) : w_tryRules_72 R101 Q1 x1 x3 x4 u → pw_tryRules_72 R102 Q2 x1 x3 x4 u := (bd_wp (rd_wp fun _ => (bd_wp (rd_wp fun _ => (bd_wp (rd_wp fun _ => (br_wp (ov_wp (hR10 _ _ _ _)) (bd_wp (rd_wp fun _ => (wp_w_matches (fun _ _ => (br_wp (ov_wp (hR10 _ _ _ _)) (wp_w_isStep (fun _ _ => (br_wp (wp_w_takePairs (fun _ => (bd_wp (rz_wp fun _ => (br_wp (wp_w_tryRules_152  hQ) (bd_wp (rd_wp fun _ => (wp_w_instance (fun _ _ => (wp_w_isSmaller (fun _ _ => (br_wp (ov_wp (hR10 _ _ _ _)) (wp_w_tryRules_152  hQ))))))))))))) (hQ _))))))))))))))))
def pw_tryRules_10b (R10 : Int → Int → Int → iST → Prop) (Q : iST → Prop) (x1 : Int) (x3 : Int) (x4 : Int) (u : iST) : Prop :=
  br (x4 < 0) (
    pw_tryRules_186 Q x1 u) (
    rd (u.1 61) (fun v4 => 
    br (v4 ≠ 0) (
      pw_tryRules_186 Q x1 u) (
      bdp x4 60 (rd (u.2.1 46 x4) (fun v5 => 
      br (v5 = (-1)) (
        ovp (x4 + (-1)) (
        R10 x1 x3 (x4 + (-1)) u)) (
        bdp x4 60 (rz (u.2.1 52 x4) (fun v7 => 
        br (v7 = 0) (
          ovp (x4 + (-1)) (
          R10 x1 x3 (x4 + (-1)) u)) (
          bdp x4 60 (rz (u.2.1 53 x4) (fun v9 => 
          br (v9 ≠ 0) (
            ovp (x4 + (-1)) (
            R10 x1 x3 (x4 + (-1)) u)) (
            bdp x1 60 (rz (u.2.1 93 x1) (fun v11 => 
            br (v11 ≠ 0) (
              pw_tryRules_72 R10 Q x1 x3 x4 u) (
              bdp x4 60 (rz (u.2.1 51 x4) (fun v28 => 
              br (v28 ≠ 0) (
                ovp (x4 + (-1)) (
                R10 x1 x3 (x4 + (-1)) u)) (
                pw_tryRules_72 R10 Q x1 x3 x4 u))))))))))))))))))
theorem cj_w_tryRules_10b {Q1 Q2 Q3 : iST → Prop} {R101 R102 R103 : Int → Int → Int → iST → Prop} {x1 : Int} {x3 : Int} {x4 : Int} {u : iST} (hR10 : ∀ r0 r1 r2 r3, R101 r0 r1 r2 r3 → R102 r0 r1 r2 r3 → R103 r0 r1 r2 r3) (hQ : ∀ r0, Q1 r0 → Q2 r0 → Q3 r0) : w_tryRules_10b R101 Q1 x1 x3 x4 u → pw_tryRules_10b R102 Q2 x1 x3 x4 u → w_tryRules_10b R103 Q3 x1 x3 x4 u := (br_cj (cj_w_tryRules_186  hQ) (rd_cj fun _ => (br_cj (cj_w_tryRules_186  hQ) (bd_cj (rd_cj fun _ => (br_cj (ov_cj (hR10 _ _ _ _)) (bd_cj (rz_cj fun _ => (br_cj (ov_cj (hR10 _ _ _ _)) (bd_cj (rz_cj fun _ => (br_cj (ov_cj (hR10 _ _ _ _)) (bd_cj (rz_cj fun _ => (br_cj (cj_w_tryRules_72 hR10 hQ) (bd_cj (rz_cj fun _ => (br_cj (ov_cj (hR10 _ _ _ _)) (cj_w_tryRules_72 hR10 hQ)))))))))))))))))))
theorem mn_w_tryRules_10b {Q1 Q2 : iST → Prop} {R101 R102 : Int → Int → Int → iST → Prop} {x1 : Int} {x3 : Int} {x4 : Int} {u : iST} (hR10 : ∀ r0 r1 r2 r3, R101 r0 r1 r2 r3 → R102 r0 r1 r2 r3) (hQ : ∀ r0, Q1 r0 → Q2 r0) : pw_tryRules_10b R101 Q1 x1 x3 x4 u → pw_tryRules_10b R102 Q2 x1 x3 x4 u := (br_mn (mn_w_tryRules_186  hQ) (rd_mn fun _ => (br_mn (mn_w_tryRules_186  hQ) (bd_mn (rd_mn fun _ => (br_mn (ov_mn (hR10 _ _ _ _)) (bd_mn (rz_mn fun _ => (br_mn (ov_mn (hR10 _ _ _ _)) (bd_mn (rz_mn fun _ => (br_mn (ov_mn (hR10 _ _ _ _)) (bd_mn (rz_mn fun _ => (br_mn (mn_w_tryRules_72 hR10 hQ) (bd_mn (rz_mn fun _ => (br_mn (ov_mn (hR10 _ _ _ _)) (mn_w_tryRules_72 hR10 hQ)))))))))))))))))))
theorem wp_w_tryRules_10b {Q1 Q2 : iST → Prop} {R101 R102 : Int → Int → Int → iST → Prop} {x1 : Int} {x3 : Int} {x4 : Int} {u : iST} (hR10 : ∀ r0 r1 r2 r3, R101 r0 r1 r2 r3 → R102 r0 r1 r2 r3) (hQ : ∀ r0, Q1 r0 → Q2 r0) : w_tryRules_10b R101 Q1 x1 x3 x4 u → pw_tryRules_10b R102 Q2 x1 x3 x4 u := (br_wp (wp_w_tryRules_186  hQ) (rd_wp fun _ => (br_wp (wp_w_tryRules_186  hQ) (bd_wp (rd_wp fun _ => (br_wp (ov_wp (hR10 _ _ _ _)) (bd_wp (rz_wp fun _ => (br_wp (ov_wp (hR10 _ _ _ _)) (bd_wp (rz_wp fun _ => (br_wp (ov_wp (hR10 _ _ _ _)) (bd_wp (rz_wp fun _ => (br_wp (wp_w_tryRules_72 hR10 hQ) (bd_wp (rz_wp fun _ => (br_wp (ov_wp (hR10 _ _ _ _)) (wp_w_tryRules_72 hR10 hQ)))))))))))))))))))
def pw_tryRules_10 (Q : iST → Prop) (x1 : Int) (x3 : Int) (x4 : Int) (u : iST) : Prop := ∃ R10 : Int → Int → Int → iST → Prop, (∀ (x1 : Int) (x3 : Int) (x4 : Int) (u : iST), R10 x1 x3 x4 u → pw_tryRules_10b R10 Q x1 x3 x4 u) ∧ R10 x1 x3 x4 u
theorem cj_w_tryRules_10 {Q1 Q2 Q3 : iST → Prop}  {x1 : Int} {x3 : Int} {x4 : Int} {u : iST} (hQ : ∀ r0, Q1 r0 → Q2 r0 → Q3 r0) : w_tryRules_10 Q1 x1 x3 x4 u → pw_tryRules_10 Q2 x1 x3 x4 u → w_tryRules_10 Q3 x1 x3 x4 u := by
  intro a b R3 c3
  obtain ⟨R2, c2, b2⟩ := b
  exact a (fun r0 r1 r2 r3 => R2 r0 r1 r2 r3 → R3 r0 r1 r2 r3) (fun r0 r1 r2 r3 a b => c3 r0 r1 r2 r3 (cj_w_tryRules_10b (fun r0 r1 r2 r3 a b => a b) hQ a (c2 r0 r1 r2 r3 b))) b2
theorem pw_tryRules_10_i  {Q : iST → Prop} {x1 : Int} {x3 : Int} {x4 : Int} {u : iST} (I : Int → Int → Int → iST → Prop) (s : ∀ (x1 : Int) (x3 : Int) (x4 : Int) (u : iST), I x1 x3 x4 u → pw_tryRules_10b I Q x1 x3 x4 u) (h : I x1 x3 x4 u) : pw_tryRules_10 Q x1 x3 x4 u := ⟨I, s, h⟩
theorem mn_w_tryRules_10 {Q1 Q2 : iST → Prop}  {x1 : Int} {x3 : Int} {x4 : Int} {u : iST} (hQ : ∀ r0, Q1 r0 → Q2 r0) : pw_tryRules_10 Q1 x1 x3 x4 u → pw_tryRules_10 Q2 x1 x3 x4 u := fun ⟨R, s, h⟩ => ⟨R, fun r0 r1 r2 r3 a => mn_w_tryRules_10b (fun r0 r1 r2 r3 a => a) hQ (s r0 r1 r2 r3 a), h⟩
theorem un_w_tryRules_10  {Q : iST → Prop} {x1 : Int} {x3 : Int} {x4 : Int} {u : iST} : pw_tryRules_10 Q x1 x3 x4 u → pw_tryRules_10b (fun x1 x3 x4 u => pw_tryRules_10 Q x1 x3 x4 u) Q x1 x3 x4 u := fun ⟨R, s, h⟩ => mn_w_tryRules_10b (fun r0 r1 r2 r3 a => ⟨R, s, a⟩) (fun _ h => h) (s _ _ _ _ h)
theorem fo_w_tryRules_10  {Q : iST → Prop} {x1 : Int} {x3 : Int} {x4 : Int} {u : iST} : pw_tryRules_10b (fun x1 x3 x4 u => pw_tryRules_10 Q x1 x3 x4 u) Q x1 x3 x4 u → pw_tryRules_10 Q x1 x3 x4 u := fun h => ⟨fun x1 x3 x4 u => pw_tryRules_10b (fun x1 x3 x4 u => pw_tryRules_10 Q x1 x3 x4 u) Q x1 x3 x4 u, fun r0 r1 r2 r3 a => mn_w_tryRules_10b (fun r0 r1 r2 r3 a => un_w_tryRules_10 a) (fun _ h => h) a, h⟩
theorem wp_w_tryRules_10 {Q1 Q2 : iST → Prop}  {x1 : Int} {x3 : Int} {x4 : Int} {u : iST} (hQ : ∀ r0, Q1 r0 → Q2 r0) : w_tryRules_10 Q1 x1 x3 x4 u → pw_tryRules_10 Q2 x1 x3 x4 u := fun a => a (fun x1 x3 x4 u => pw_tryRules_10 Q2 x1 x3 x4 u) (fun x1 x3 x4 u b => fo_w_tryRules_10 (wp_w_tryRules_10b (fun r0 r1 r2 r3 a => a) hQ b))
def pw_tryRules (a0 : Int) (a1 : Int) (Q : iST → Prop) (u : iST) : Prop :=
  bdp a0 60 (rd (u.2.1 92 a0) (fun v1 => 
  pw_tryRules_10 Q a0 v1 a1 u))
theorem cj_w_tryRules {Q1 Q2 Q3 : iST → Prop}  {a0 : Int} {a1 : Int} {u : iST} (hQ : ∀ r0, Q1 r0 → Q2 r0 → Q3 r0) : w_tryRules a0 a1 Q1 u → pw_tryRules a0 a1 Q2 u → w_tryRules a0 a1 Q3 u := (bd_cj (rd_cj fun _ => (cj_w_tryRules_10  hQ)))
theorem mn_w_tryRules {Q1 Q2 : iST → Prop}  {a0 : Int} {a1 : Int} {u : iST} (hQ : ∀ r0, Q1 r0 → Q2 r0) : pw_tryRules a0 a1 Q1 u → pw_tryRules a0 a1 Q2 u := (bd_mn (rd_mn fun _ => (mn_w_tryRules_10  hQ)))
theorem wp_w_tryRules {Q1 Q2 : iST → Prop}  {a0 : Int} {a1 : Int} {u : iST} (hQ : ∀ r0, Q1 r0 → Q2 r0) : w_tryRules a0 a1 Q1 u → pw_tryRules a0 a1 Q2 u := (bd_wp (rd_wp fun _ => (wp_w_tryRules_10  hQ)))
def pw_apply_244 (Q : iST → Prop) (x1 : Int) (x2 : Int) (y0 : Int) (u : iST) : Prop :=
  br (y0 = (-1)) (
    bdp x1 60 (rz (u.2.1 93 x1) (fun v5 => 
    pw_lookedUp x2 v5 (fun v6 u => 
    br (v6 = x2) (
      rd (u.1 42) (fun v7 => 
      ovp (v7 - 1) (
      pw_tryRules x1 (v7 - 1) (fun u => 
      Q u) u))) (
      pw_end0 v6 (fun u => 
      Q u) u)) u))) (
    pw_passOn y0 (fun u => 
    Q u) u)
theorem cj_w_apply_244 {Q1 Q2 Q3 : iST → Prop}  {x1 : Int} {x2 : Int} {y0 : Int} {u : iST} (hQ : ∀ r0, Q1 r0 → Q2 r0 → Q3 r0) : w_apply_244 Q1 x1 x2 y0 u → pw_apply_244 Q2 x1 x2 y0 u → w_apply_244 Q3 x1 x2 y0 u := (br_cj (bd_cj (rz_cj fun _ => (cj_w_lookedUp (fun _ _ => (br_cj (rd_cj fun _ => (ov_cj (cj_w_tryRules (fun _ => (hQ _))))) (cj_w_end0 (fun _ => (hQ _)))))))) (cj_w_passOn (fun _ => (hQ _))))
theorem mn_w_apply_244 {Q1 Q2 : iST → Prop}  {x1 : Int} {x2 : Int} {y0 : Int} {u : iST} (hQ : ∀ r0, Q1 r0 → Q2 r0) : pw_apply_244 Q1 x1 x2 y0 u → pw_apply_244 Q2 x1 x2 y0 u := (br_mn (bd_mn (rz_mn fun _ => (mn_w_lookedUp (fun _ _ => (br_mn (rd_mn fun _ => (ov_mn (mn_w_tryRules (fun _ => (hQ _))))) (mn_w_end0 (fun _ => (hQ _)))))))) (mn_w_passOn (fun _ => (hQ _))))
theorem wp_w_apply_244 {Q1 Q2 : iST → Prop}  {x1 : Int} {x2 : Int} {y0 : Int} {u : iST} (hQ : ∀ r0, Q1 r0 → Q2 r0) : w_apply_244 Q1 x1 x2 y0 u → pw_apply_244 Q2 x1 x2 y0 u := (br_wp (bd_wp (rz_wp fun _ => (wp_w_lookedUp (fun _ _ => (br_wp (rd_wp fun _ => (ov_wp (wp_w_tryRules (fun _ => (hQ _))))) (wp_w_end0 (fun _ => (hQ _)))))))) (wp_w_passOn (fun _ => (hQ _))))
def pw_apply_218 (Q : iST → Prop) (x1 : Int) (x2 : Int) (x3 : Int) (u : iST) : Prop :=
  br (x3 ≠ 9) (
    pw_apply_244 Q x1 x2 (-1) u) (
    pw_term x2 1 (fun v12 u => 
    pw_term x2 2 (fun v13 u => 
    pw_fallen v12 v13 (fun v14 u => 
    pw_apply_244 Q x1 x2 v14 u) u) u) u)
theorem cj_w_apply_218 {Q1 Q2 Q3 : iST → Prop}  {x1 : Int} {x2 : Int} {x3 : Int} {u : iST} (hQ : ∀ r0, Q1 r0 → Q2 r0 → Q3 r0) : w_apply_218 Q1 x1 x2 x3 u → pw_apply_218 Q2 x1 x2 x3 u → w_apply_218 Q3 x1 x2 x3 u := (br_cj (cj_w_apply_244  hQ) (cj_w_term (fun _ _ => (cj_w_term (fun _ _ => (cj_w_fallen (fun _ _ => (cj_w_apply_244  hQ))))))))
theorem mn_w_apply_218 {Q1 Q2 : iST → Prop}  {x1 : Int} {x2 : Int} {x3 : Int} {u : iST} (hQ : ∀ r0, Q1 r0 → Q2 r0) : pw_apply_218 Q1 x1 x2 x3 u → pw_apply_218 Q2 x1 x2 x3 u := (br_mn (mn_w_apply_244  hQ) (mn_w_term (fun _ _ => (mn_w_term (fun _ _ => (mn_w_fallen (fun _ _ => (mn_w_apply_244  hQ))))))))
theorem wp_w_apply_218 {Q1 Q2 : iST → Prop}  {x1 : Int} {x2 : Int} {x3 : Int} {u : iST} (hQ : ∀ r0, Q1 r0 → Q2 r0) : w_apply_218 Q1 x1 x2 x3 u → pw_apply_218 Q2 x1 x2 x3 u := (br_wp (wp_w_apply_244  hQ) (wp_w_term (fun _ _ => (wp_w_term (fun _ _ => (wp_w_fallen (fun _ _ => (wp_w_apply_244  hQ))))))))
def pw_apply_86 (Q : iST → Prop) (x1 : Int) (x2 : Int) (x3 : Int) (u : iST) : Prop :=
  br (100 ≤ x3) (
    pw_apply_218 Q x1 x2 x3 u) (
    pw_plain x2 (fun v15 u => 
    br (v15 = (-1)) (
      br (x3 ≠ 4) (
        pw_apply_218 Q x1 x2 x3 u) (
        pw_term x2 1 (fun v16 u => 
        pw_isCallOf v16 5 (fun v17 u => 
        br (v17 = 0) (
          pw_apply_218 Q x1 x2 x3 u) (
          pw_term x2 2 (fun v18 u => 
          pw_isCallOf v18 5 (fun v19 u => 
          br (v19 = 0) (
            pw_apply_218 Q x1 x2 x3 u) (
            pw_term x2 1 (fun v20 u => 
            pw_term x2 2 (fun v21 u => 
            pw_term v20 1 (fun v22 u => 
            pw_term v21 1 (fun v23 u => 
            pw_made2 4 v22 v23 (fun v24 u => 
            pw_term v20 2 (fun v25 u => 
            pw_term v21 2 (fun v26 u => 
            pw_made2 4 v25 v26 (fun v27 u => 
            pw_made 3 v24 v27 0 (fun v28 u => 
            pw_passOn v28 (fun u => 
            Q u) u) u) u) u) u) u) u) u) u) u)) u) u)) u) u)) (
      pw_end0 v15 (fun u => 
      Q u) u)) u)
theorem cj_w_apply_86 {Q1 Q2 Q3 : iST → Prop}  {x1 : Int} {x2 : Int} {x3 : Int} {u : iST} (hQ : ∀ r0, Q1 r0 → Q2 r0 → Q3 r0) : w_apply_86 Q1 x1 x2 x3 u → pw_apply_86 Q2 x1 x2 x3 u → w_apply_86 Q3 x1 x2 x3 u := (br_cj (cj_w_apply_218  hQ) (cj_w_plain (fun _ _ => (br_cj (br_cj (cj_w_apply_218  hQ) (cj_w_term (fun _ _ => (cj_w_isCallOf (fun _ _ => (br_cj (cj_w_apply_218  hQ) (cj_w_term (fun _ _ => (cj_w_isCallOf (fun _ _ => (br_cj (cj_w_apply_218  hQ) (cj_w_term (fun _ _ => (cj_w_term (fun _ _ => (cj_w_term (fun _ _ => (cj_w_term (fun _ _ => (cj_w_made2 (fun _ _ => (cj_w_term (fun _ _ => (cj_w_term (fun _ _ => (cj_w_made2 (fun _ _ => (cj_w_made (fun _ _ => (cj_w_passOn (fun _ => (hQ _)))))))))))))))))))))))))))))))) (cj_w_end0 (fun _ => (hQ _)))))))
theorem mn_w_apply_86 {Q1 Q2 : iST → Prop}  {x1 : Int} {x2 : Int} {x3 : Int} {u : iST} (hQ : ∀ r0, Q1 r0 → Q2 r0) : pw_apply_86 Q1 x1 x2 x3 u → pw_apply_86 Q2 x1 x2 x3 u := (br_mn (mn_w_apply_218  hQ) (mn_w_plain (fun _ _ => (br_mn (br_mn (mn_w_apply_218  hQ) (mn_w_term (fun _ _ => (mn_w_isCallOf (fun _ _ => (br_mn (mn_w_apply_218  hQ) (mn_w_term (fun _ _ => (mn_w_isCallOf (fun _ _ => (br_mn (mn_w_apply_218  hQ) (mn_w_term (fun _ _ => (mn_w_term (fun _ _ => (mn_w_term (fun _ _ => (mn_w_term (fun _ _ => (mn_w_made2 (fun _ _ => (mn_w_term (fun _ _ => (mn_w_term (fun _ _ => (mn_w_made2 (fun _ _ => (mn_w_made (fun _ _ => (mn_w_passOn (fun _ => (hQ _)))))))))))))))))))))))))))))))) (mn_w_end0 (fun _ => (hQ _)))))))
theorem wp_w_apply_86 {Q1 Q2 : iST → Prop}  {x1 : Int} {x2 : Int} {x3 : Int} {u : iST} (hQ : ∀ r0, Q1 r0 → Q2 r0) : w_apply_86 Q1 x1 x2 x3 u → pw_apply_86 Q2 x1 x2 x3 u := (br_wp (wp_w_apply_218  hQ) (wp_w_plain (fun _ _ => (br_wp (br_wp (wp_w_apply_218  hQ) (wp_w_term (fun _ _ => (wp_w_isCallOf (fun _ _ => (br_wp (wp_w_apply_218  hQ) (wp_w_term (fun _ _ => (wp_w_isCallOf (fun _ _ => (br_wp (wp_w_apply_218  hQ) (wp_w_term (fun _ _ => (wp_w_term (fun _ _ => (wp_w_term (fun _ _ => (wp_w_term (fun _ _ => (wp_w_made2 (fun _ _ => (wp_w_term (fun _ _ => (wp_w_term (fun _ _ => (wp_w_made2 (fun _ _ => (wp_w_made (fun _ _ => (wp_w_passOn (fun _ => (hQ _)))))))))))))))))))))))))))))))) (wp_w_end0 (fun _ => (hQ _)))))))
def pw_apply_69 (Q : iST → Prop) (x1 : Int) (x2 : Int) (x3 : Int) (x4 : Int) (u : iST) : Prop :=
  br (x4 = (-1)) (
    pw_apply_86 Q x1 x2 x3 u) (
    pw_constantOf x4 (fun v32 u => 
    pw_end0 v32 (fun u => 
    Q u) u) u)
theorem cj_w_apply_69 {Q1 Q2 Q3 : iST → Prop}  {x1 : Int} {x2 : Int} {x3 : Int} {x4 : Int} {u : iST} (hQ : ∀ r0, Q1 r0 → Q2 r0 → Q3 r0) : w_apply_69 Q1 x1 x2 x3 x4 u → pw_apply_69 Q2 x1 x2 x3 x4 u → w_apply_69 Q3 x1 x2 x3 x4 u := (br_cj (cj_w_apply_86  hQ) (cj_w_constantOf (fun _ _ => (cj_w_end0 (fun _ => (hQ _))))))
theorem mn_w_apply_69 {Q1 Q2 : iST → Prop}  {x1 : Int} {x2 : Int} {x3 : Int} {x4 : Int} {u : iST} (hQ : ∀ r0, Q1 r0 → Q2 r0) : pw_apply_69 Q1 x1 x2 x3 x4 u → pw_apply_69 Q2 x1 x2 x3 x4 u := (br_mn (mn_w_apply_86  hQ) (mn_w_constantOf (fun _ _ => (mn_w_end0 (fun _ => (hQ _))))))
theorem wp_w_apply_69 {Q1 Q2 : iST → Prop}  {x1 : Int} {x2 : Int} {x3 : Int} {x4 : Int} {u : iST} (hQ : ∀ r0, Q1 r0 → Q2 r0) : w_apply_69 Q1 x1 x2 x3 x4 u → pw_apply_69 Q2 x1 x2 x3 x4 u := (br_wp (wp_w_apply_86  hQ) (wp_w_constantOf (fun _ _ => (wp_w_end0 (fun _ => (hQ _))))))
def pw_apply_47 (Q : iST → Prop) (x1 : Int) (x2 : Int) (x3 : Int) (y0 : Int) (u : iST) : Prop :=
  br (x3 < 100) (
    pw_apply_69 Q x1 x2 x3 y0 u) (
    rd (u.1 89) (fun v34 => 
    br (v34 ≠ 1) (
      pw_apply_69 Q x1 x2 x3 y0 u) (
      pw_fail 1 (fun u => 
      Q u) u)))
theorem cj_w_apply_47 {Q1 Q2 Q3 : iST → Prop}  {x1 : Int} {x2 : Int} {x3 : Int} {y0 : Int} {u : iST} (hQ : ∀ r0, Q1 r0 → Q2 r0 → Q3 r0) : w_apply_47 Q1 x1 x2 x3 y0 u → pw_apply_47 Q2 x1 x2 x3 y0 u → w_apply_47 Q3 x1 x2 x3 y0 u := (br_cj (cj_w_apply_69  hQ) (rd_cj fun _ => (br_cj (cj_w_apply_69  hQ) (cj_w_fail (fun _ => (hQ _))))))
theorem mn_w_apply_47 {Q1 Q2 : iST → Prop}  {x1 : Int} {x2 : Int} {x3 : Int} {y0 : Int} {u : iST} (hQ : ∀ r0, Q1 r0 → Q2 r0) : pw_apply_47 Q1 x1 x2 x3 y0 u → pw_apply_47 Q2 x1 x2 x3 y0 u := (br_mn (mn_w_apply_69  hQ) (rd_mn fun _ => (br_mn (mn_w_apply_69  hQ) (mn_w_fail (fun _ => (hQ _))))))
theorem wp_w_apply_47 {Q1 Q2 : iST → Prop}  {x1 : Int} {x2 : Int} {x3 : Int} {y0 : Int} {u : iST} (hQ : ∀ r0, Q1 r0 → Q2 r0) : w_apply_47 Q1 x1 x2 x3 y0 u → pw_apply_47 Q2 x1 x2 x3 y0 u := (br_wp (wp_w_apply_69  hQ) (rd_wp fun _ => (br_wp (wp_w_apply_69  hQ) (wp_w_fail (fun _ => (hQ _))))))
def pw_apply (a0 : Int) (Q : iST → Prop) (u : iST) : Prop :=
  bdp a0 60 (rd (u.2.1 92 a0) (fun v1 => 
  bdp v1 452000 (rd (u.2.1 0 v1) (fun v2 => 
  pw_functionOf v2 (fun v3 u => 
  pw_areConstants v1 (fun v4 u => 
  br (v4 = 0) (
    pw_apply_86 Q a0 v1 v3 u) (
    br (100 ≤ v3) (
      pw_evaluated v1 1 (fun v31 u => 
      pw_apply_47 Q a0 v1 v3 v31 u) u) (
      pw_constantValue v1 v3 (fun v36 u => 
      pw_apply_47 Q a0 v1 v3 v36 u) u))) u) u))))
theorem cj_w_apply {Q1 Q2 Q3 : iST → Prop}  {a0 : Int} {u : iST} (hQ : ∀ r0, Q1 r0 → Q2 r0 → Q3 r0) : w_apply a0 Q1 u → pw_apply a0 Q2 u → w_apply a0 Q3 u := (bd_cj (rd_cj fun _ => (bd_cj (rd_cj fun _ => (cj_w_functionOf (fun _ _ => (cj_w_areConstants (fun _ _ => (br_cj (cj_w_apply_86  hQ) (br_cj (cj_w_evaluated (fun _ _ => (cj_w_apply_47  hQ))) (cj_w_constantValue (fun _ _ => (cj_w_apply_47  hQ)))))))))))))
theorem mn_w_apply {Q1 Q2 : iST → Prop}  {a0 : Int} {u : iST} (hQ : ∀ r0, Q1 r0 → Q2 r0) : pw_apply a0 Q1 u → pw_apply a0 Q2 u := (bd_mn (rd_mn fun _ => (bd_mn (rd_mn fun _ => (mn_w_functionOf (fun _ _ => (mn_w_areConstants (fun _ _ => (br_mn (mn_w_apply_86  hQ) (br_mn (mn_w_evaluated (fun _ _ => (mn_w_apply_47  hQ))) (mn_w_constantValue (fun _ _ => (mn_w_apply_47  hQ)))))))))))))
theorem wp_w_apply {Q1 Q2 : iST → Prop}  {a0 : Int} {u : iST} (hQ : ∀ r0, Q1 r0 → Q2 r0) : w_apply a0 Q1 u → pw_apply a0 Q2 u := (bd_wp (rd_wp fun _ => (bd_wp (rd_wp fun _ => (wp_w_functionOf (fun _ _ => (wp_w_areConstants (fun _ _ => (br_wp (wp_w_apply_86  hQ) (br_wp (wp_w_evaluated (fun _ _ => (wp_w_apply_47  hQ))) (wp_w_constantValue (fun _ _ => (wp_w_apply_47  hQ)))))))))))))
def pw_nextTerm_83 (Q : iST → Prop) (x1 : Int) (x3 : Int) (u : iST) : Prop :=
  bdp x1 60 (rd (u.2.1 99 x1) (fun v14 => 
  sw (iI u 104 v14) (fun u => 
  bdp x1 60 (sw (iA u 92 x1 x3) (fun u => 
  rd (u.1 61) (fun v15 => 
  br (v15 ≠ 0) (
    Q u) (
    pw_apply x1 (fun u => 
    Q u) u)))))))
theorem cj_w_nextTerm_83 {Q1 Q2 Q3 : iST → Prop}  {x1 : Int} {x3 : Int} {u : iST} (hQ : ∀ r0, Q1 r0 → Q2 r0 → Q3 r0) : w_nextTerm_83 Q1 x1 x3 u → pw_nextTerm_83 Q2 x1 x3 u → w_nextTerm_83 Q3 x1 x3 u := (bd_cj (rd_cj fun _ => (sw_cj fun _ => (bd_cj (sw_cj fun _ => (rd_cj fun _ => (br_cj (hQ _) (cj_w_apply (fun _ => (hQ _))))))))))
theorem mn_w_nextTerm_83 {Q1 Q2 : iST → Prop}  {x1 : Int} {x3 : Int} {u : iST} (hQ : ∀ r0, Q1 r0 → Q2 r0) : pw_nextTerm_83 Q1 x1 x3 u → pw_nextTerm_83 Q2 x1 x3 u := (bd_mn (rd_mn fun _ => (sw_mn fun _ => (bd_mn (sw_mn fun _ => (rd_mn fun _ => (br_mn (hQ _) (mn_w_apply (fun _ => (hQ _))))))))))
theorem wp_w_nextTerm_83 {Q1 Q2 : iST → Prop}  {x1 : Int} {x3 : Int} {u : iST} (hQ : ∀ r0, Q1 r0 → Q2 r0) : w_nextTerm_83 Q1 x1 x3 u → pw_nextTerm_83 Q2 x1 x3 u := (bd_wp (rd_wp fun _ => (sw_wp fun _ => (bd_wp (sw_wp fun _ => (rd_wp fun _ => (br_wp (hQ _) (wp_w_apply (fun _ => (hQ _))))))))))
def pw_nextTerm_21b (R21 : Int → Int → Int → iST → Prop) (Q : iST → Prop) (x1 : Int) (x2 : Int) (x3 : Int) (u : iST) : Prop :=
  rd (u.1 104) (fun v9 => 
  br (v9 ≤ x3) (
    bdp x1 60 (rd (u.2.1 92 x1) (fun v10 => 
    bdp v10 452000 (rd (u.2.1 0 v10) (fun v11 => 
    pw_callFrom v11 x2 (fun v12 u => 
    sw (iI u 71 x2) (fun u => 
    bdp v12 452000 (rd (u.2.1 3 v12) (fun v13 => 
    br (v13 ≤ 120) (
      pw_nextTerm_83 Q x1 v12 u) (
      pw_fail 4 (fun u => 
      pw_nextTerm_83 Q x1 v12 u) u))))) u))))) (
    bdp x3 1200 (rd (u.2.1 103 x3) (fun v18 => 
    pw_build v18 (fun u => 
    ovp (x3 + 1) (
    R21 x1 x2 (x3 + 1) u)) u))))
theorem cj_w_nextTerm_21b {Q1 Q2 Q3 : iST → Prop} {R211 R212 R213 : Int → Int → Int → iST → Prop} {x1 : Int} {x2 : Int} {x3 : Int} {u : iST} (hR21 : ∀ r0 r1 r2 r3, R211 r0 r1 r2 r3 → R212 r0 r1 r2 r3 → R213 r0 r1 r2 r3) (hQ : ∀ r0, Q1 r0 → Q2 r0 → Q3 r0) : w_nextTerm_21b R211 Q1 x1 x2 x3 u → pw_nextTerm_21b R212 Q2 x1 x2 x3 u → w_nextTerm_21b R213 Q3 x1 x2 x3 u := (rd_cj fun _ => (br_cj (bd_cj (rd_cj fun _ => (bd_cj (rd_cj fun _ => (cj_w_callFrom (fun _ _ => (sw_cj fun _ => (bd_cj (rd_cj fun _ => (br_cj (cj_w_nextTerm_83  hQ) (cj_w_fail (fun _ => (cj_w_nextTerm_83  hQ))))))))))))) (bd_cj (rd_cj fun _ => (cj_w_build (fun _ => (ov_cj (hR21 _ _ _ _))))))))
theorem mn_w_nextTerm_21b {Q1 Q2 : iST → Prop} {R211 R212 : Int → Int → Int → iST → Prop} {x1 : Int} {x2 : Int} {x3 : Int} {u : iST} (hR21 : ∀ r0 r1 r2 r3, R211 r0 r1 r2 r3 → R212 r0 r1 r2 r3) (hQ : ∀ r0, Q1 r0 → Q2 r0) : pw_nextTerm_21b R211 Q1 x1 x2 x3 u → pw_nextTerm_21b R212 Q2 x1 x2 x3 u := (rd_mn fun _ => (br_mn (bd_mn (rd_mn fun _ => (bd_mn (rd_mn fun _ => (mn_w_callFrom (fun _ _ => (sw_mn fun _ => (bd_mn (rd_mn fun _ => (br_mn (mn_w_nextTerm_83  hQ) (mn_w_fail (fun _ => (mn_w_nextTerm_83  hQ))))))))))))) (bd_mn (rd_mn fun _ => (mn_w_build (fun _ => (ov_mn (hR21 _ _ _ _))))))))
theorem wp_w_nextTerm_21b {Q1 Q2 : iST → Prop} {R211 R212 : Int → Int → Int → iST → Prop} {x1 : Int} {x2 : Int} {x3 : Int} {u : iST} (hR21 : ∀ r0 r1 r2 r3, R211 r0 r1 r2 r3 → R212 r0 r1 r2 r3) (hQ : ∀ r0, Q1 r0 → Q2 r0) : w_nextTerm_21b R211 Q1 x1 x2 x3 u → pw_nextTerm_21b R212 Q2 x1 x2 x3 u := (rd_wp fun _ => (br_wp (bd_wp (rd_wp fun _ => (bd_wp (rd_wp fun _ => (wp_w_callFrom (fun _ _ => (sw_wp fun _ => (bd_wp (rd_wp fun _ => (br_wp (wp_w_nextTerm_83  hQ) (wp_w_fail (fun _ => (wp_w_nextTerm_83  hQ))))))))))))) (bd_wp (rd_wp fun _ => (wp_w_build (fun _ => (ov_wp (hR21 _ _ _ _))))))))
def pw_nextTerm_21 (Q : iST → Prop) (x1 : Int) (x2 : Int) (x3 : Int) (u : iST) : Prop := ∃ R21 : Int → Int → Int → iST → Prop, (∀ (x1 : Int) (x2 : Int) (x3 : Int) (u : iST), R21 x1 x2 x3 u → pw_nextTerm_21b R21 Q x1 x2 x3 u) ∧ R21 x1 x2 x3 u
theorem cj_w_nextTerm_21 {Q1 Q2 Q3 : iST → Prop}  {x1 : Int} {x2 : Int} {x3 : Int} {u : iST} (hQ : ∀ r0, Q1 r0 → Q2 r0 → Q3 r0) : w_nextTerm_21 Q1 x1 x2 x3 u → pw_nextTerm_21 Q2 x1 x2 x3 u → w_nextTerm_21 Q3 x1 x2 x3 u := by
  intro a b R3 c3
  obtain ⟨R2, c2, b2⟩ := b
  exact a (fun r0 r1 r2 r3 => R2 r0 r1 r2 r3 → R3 r0 r1 r2 r3) (fun r0 r1 r2 r3 a b => c3 r0 r1 r2 r3 (cj_w_nextTerm_21b (fun r0 r1 r2 r3 a b => a b) hQ a (c2 r0 r1 r2 r3 b))) b2
theorem pw_nextTerm_21_i  {Q : iST → Prop} {x1 : Int} {x2 : Int} {x3 : Int} {u : iST} (I : Int → Int → Int → iST → Prop) (s : ∀ (x1 : Int) (x2 : Int) (x3 : Int) (u : iST), I x1 x2 x3 u → pw_nextTerm_21b I Q x1 x2 x3 u) (h : I x1 x2 x3 u) : pw_nextTerm_21 Q x1 x2 x3 u := ⟨I, s, h⟩
theorem mn_w_nextTerm_21 {Q1 Q2 : iST → Prop}  {x1 : Int} {x2 : Int} {x3 : Int} {u : iST} (hQ : ∀ r0, Q1 r0 → Q2 r0) : pw_nextTerm_21 Q1 x1 x2 x3 u → pw_nextTerm_21 Q2 x1 x2 x3 u := fun ⟨R, s, h⟩ => ⟨R, fun r0 r1 r2 r3 a => mn_w_nextTerm_21b (fun r0 r1 r2 r3 a => a) hQ (s r0 r1 r2 r3 a), h⟩
theorem un_w_nextTerm_21  {Q : iST → Prop} {x1 : Int} {x2 : Int} {x3 : Int} {u : iST} : pw_nextTerm_21 Q x1 x2 x3 u → pw_nextTerm_21b (fun x1 x2 x3 u => pw_nextTerm_21 Q x1 x2 x3 u) Q x1 x2 x3 u := fun ⟨R, s, h⟩ => mn_w_nextTerm_21b (fun r0 r1 r2 r3 a => ⟨R, s, a⟩) (fun _ h => h) (s _ _ _ _ h)
theorem fo_w_nextTerm_21  {Q : iST → Prop} {x1 : Int} {x2 : Int} {x3 : Int} {u : iST} : pw_nextTerm_21b (fun x1 x2 x3 u => pw_nextTerm_21 Q x1 x2 x3 u) Q x1 x2 x3 u → pw_nextTerm_21 Q x1 x2 x3 u := fun h => ⟨fun x1 x2 x3 u => pw_nextTerm_21b (fun x1 x2 x3 u => pw_nextTerm_21 Q x1 x2 x3 u) Q x1 x2 x3 u, fun r0 r1 r2 r3 a => mn_w_nextTerm_21b (fun r0 r1 r2 r3 a => un_w_nextTerm_21 a) (fun _ h => h) a, h⟩
theorem wp_w_nextTerm_21 {Q1 Q2 : iST → Prop}  {x1 : Int} {x2 : Int} {x3 : Int} {u : iST} (hQ : ∀ r0, Q1 r0 → Q2 r0) : w_nextTerm_21 Q1 x1 x2 x3 u → pw_nextTerm_21 Q2 x1 x2 x3 u := fun a => a (fun x1 x2 x3 u => pw_nextTerm_21 Q2 x1 x2 x3 u) (fun x1 x2 x3 u b => fo_w_nextTerm_21 (wp_w_nextTerm_21b (fun r0 r1 r2 r3 a => a) hQ b))
def pw_nextTerm (a0 : Int) (Q : iST → Prop) (u : iST) : Prop :=
  bdp a0 60 (rd (u.2.1 98 a0) (fun v1 => 
  br (v1 ≠ 0) (
    bdp a0 60 (rd (u.2.1 98 a0) (fun v2 => 
    bdp v2 452000 (rd (u.2.1 0 v2) (fun v3 => 
    bdp a0 60 (rd (u.2.1 98 a0) (fun v4 => 
    bdp v4 452000 (rd (u.2.1 1 v4) (fun v5 => 
    bdp a0 60 (sw (iA u 98 a0 v5) (fun u => 
    pw_beginJob v3 0 (fun u => 
    Q u) u))))))))))) (
    rd (u.1 71) (fun v7 => 
    bdp a0 60 (rd (u.2.1 99 a0) (fun v8 => 
    pw_nextTerm_21 Q a0 v7 v8 u))))))
theorem cj_w_nextTerm {Q1 Q2 Q3 : iST → Prop}  {a0 : Int} {u : iST} (hQ : ∀ r0, Q1 r0 → Q2 r0 → Q3 r0) : w_nextTerm a0 Q1 u → pw_nextTerm a0 Q2 u → w_nextTerm a0 Q3 u := (bd_cj (rd_cj fun _ => (br_cj (bd_cj (rd_cj fun _ => (bd_cj (rd_cj fun _ => (bd_cj (rd_cj fun _ => (bd_cj (rd_cj fun _ => (bd_cj (sw_cj fun _ => (cj_w_beginJob (fun _ => (hQ _))))))))))))) (rd_cj fun _ => (bd_cj (rd_cj fun _ => (cj_w_nextTerm_21  hQ)))))))
theorem mn_w_nextTerm {Q1 Q2 : iST → Prop}  {a0 : Int} {u : iST} (hQ : ∀ r0, Q1 r0 → Q2 r0) : pw_nextTerm a0 Q1 u → pw_nextTerm a0 Q2 u := (bd_mn (rd_mn fun _ => (br_mn (bd_mn (rd_mn fun _ => (bd_mn (rd_mn fun _ => (bd_mn (rd_mn fun _ => (bd_mn (rd_mn fun _ => (bd_mn (sw_mn fun _ => (mn_w_beginJob (fun _ => (hQ _))))))))))))) (rd_mn fun _ => (bd_mn (rd_mn fun _ => (mn_w_nextTerm_21  hQ)))))))
theorem wp_w_nextTerm {Q1 Q2 : iST → Prop}  {a0 : Int} {u : iST} (hQ : ∀ r0, Q1 r0 → Q2 r0) : w_nextTerm a0 Q1 u → pw_nextTerm a0 Q2 u := (bd_wp (rd_wp fun _ => (br_wp (bd_wp (rd_wp fun _ => (bd_wp (rd_wp fun _ => (bd_wp (rd_wp fun _ => (bd_wp (rd_wp fun _ => (bd_wp (sw_wp fun _ => (wp_w_beginJob (fun _ => (hQ _))))))))))))) (rd_wp fun _ => (bd_wp (rd_wp fun _ => (wp_w_nextTerm_21  hQ)))))))
def pw_startJob (a0 : Int) (Q : iST → Prop) (u : iST) : Prop :=
  bdp a0 60 (rd (u.2.1 92 a0) (fun v1 => 
  pw_isConstant v1 (fun v2 u => 
  br (v2 = 0) (
    pw_isVariable v1 (fun v3 u => 
    br (v3 = 0) (
      bdp v1 452000 (rd (u.2.1 0 v1) (fun v4 => 
      br (v4 ≠ 3) (
        bdp v1 452000 (rd (u.2.1 0 v1) (fun v5 => 
        br (v5 ≠ 6) (
          bdp v1 452000 (rd (u.2.1 0 v1) (fun v6 => 
          br (v6 ≠ 15) (
            bdp a0 60 (sw (iA u 94 a0 10) (fun u => 
            bdp v1 452000 (rd (u.2.1 1 v1) (fun v7 => 
            bdp a0 60 (sw (iA u 98 a0 v7) (fun u => 
            rd (u.1 104) (fun v8 => 
            bdp a0 60 (sw (iA u 99 a0 v8) (fun u => 
            pw_nextTerm a0 (fun u => 
            Q u) u)))))))))) (
            bdp a0 60 (sw (iA u 94 a0 5) (fun u => 
            pw_term v1 1 (fun v10 u => 
            pw_beginJob v10 1 (fun u => 
            Q u) u) u)))))) (
          pw_term v1 2 (fun v12 u => 
          pw_made 3 v12 1 0 (fun v13 u => 
          pw_term v1 1 (fun v14 u => 
          pw_made 3 v14 v13 1 (fun v15 u => 
          pw_passOn v15 (fun u => 
          Q u) u) u) u) u) u)))) (
        bdp a0 60 (sw (iA u 94 a0 1) (fun u => 
        pw_term v1 1 (fun v17 u => 
        pw_beginJob v17 1 (fun u => 
        Q u) u) u)))))) (
      bdp a0 60 (rz (u.2.1 93 a0) (fun v19 => 
      pw_lookedUp v1 v19 (fun v20 u => 
      pw_end0 v20 (fun u => 
      Q u) u) u)))) u) (
    pw_end0 v1 (fun u => 
    Q u) u)) u))
theorem cj_w_startJob {Q1 Q2 Q3 : iST → Prop}  {a0 : Int} {u : iST} (hQ : ∀ r0, Q1 r0 → Q2 r0 → Q3 r0) : w_startJob a0 Q1 u → pw_startJob a0 Q2 u → w_startJob a0 Q3 u := (bd_cj (rd_cj fun _ => (cj_w_isConstant (fun _ _ => (br_cj (cj_w_isVariable (fun _ _ => (br_cj (bd_cj (rd_cj fun _ => (br_cj (bd_cj (rd_cj fun _ => (br_cj (bd_cj (rd_cj fun _ => (br_cj (bd_cj (sw_cj fun _ => (bd_cj (rd_cj fun _ => (bd_cj (sw_cj fun _ => (rd_cj fun _ => (bd_cj (sw_cj fun _ => (cj_w_nextTerm (fun _ => (hQ _)))))))))))) (bd_cj (sw_cj fun _ => (cj_w_term (fun _ _ => (cj_w_beginJob (fun _ => (hQ _)))))))))) (cj_w_term (fun _ _ => (cj_w_made (fun _ _ => (cj_w_term (fun _ _ => (cj_w_made (fun _ _ => (cj_w_passOn (fun _ => (hQ _)))))))))))))) (bd_cj (sw_cj fun _ => (cj_w_term (fun _ _ => (cj_w_beginJob (fun _ => (hQ _)))))))))) (bd_cj (rz_cj fun _ => (cj_w_lookedUp (fun _ _ => (cj_w_end0 (fun _ => (hQ _)))))))))) (cj_w_end0 (fun _ => (hQ _))))))))
theorem mn_w_startJob {Q1 Q2 : iST → Prop}  {a0 : Int} {u : iST} (hQ : ∀ r0, Q1 r0 → Q2 r0) : pw_startJob a0 Q1 u → pw_startJob a0 Q2 u := (bd_mn (rd_mn fun _ => (mn_w_isConstant (fun _ _ => (br_mn (mn_w_isVariable (fun _ _ => (br_mn (bd_mn (rd_mn fun _ => (br_mn (bd_mn (rd_mn fun _ => (br_mn (bd_mn (rd_mn fun _ => (br_mn (bd_mn (sw_mn fun _ => (bd_mn (rd_mn fun _ => (bd_mn (sw_mn fun _ => (rd_mn fun _ => (bd_mn (sw_mn fun _ => (mn_w_nextTerm (fun _ => (hQ _)))))))))))) (bd_mn (sw_mn fun _ => (mn_w_term (fun _ _ => (mn_w_beginJob (fun _ => (hQ _)))))))))) (mn_w_term (fun _ _ => (mn_w_made (fun _ _ => (mn_w_term (fun _ _ => (mn_w_made (fun _ _ => (mn_w_passOn (fun _ => (hQ _)))))))))))))) (bd_mn (sw_mn fun _ => (mn_w_term (fun _ _ => (mn_w_beginJob (fun _ => (hQ _)))))))))) (bd_mn (rz_mn fun _ => (mn_w_lookedUp (fun _ _ => (mn_w_end0 (fun _ => (hQ _)))))))))) (mn_w_end0 (fun _ => (hQ _))))))))
theorem wp_w_startJob {Q1 Q2 : iST → Prop}  {a0 : Int} {u : iST} (hQ : ∀ r0, Q1 r0 → Q2 r0) : w_startJob a0 Q1 u → pw_startJob a0 Q2 u := (bd_wp (rd_wp fun _ => (wp_w_isConstant (fun _ _ => (br_wp (wp_w_isVariable (fun _ _ => (br_wp (bd_wp (rd_wp fun _ => (br_wp (bd_wp (rd_wp fun _ => (br_wp (bd_wp (rd_wp fun _ => (br_wp (bd_wp (sw_wp fun _ => (bd_wp (rd_wp fun _ => (bd_wp (sw_wp fun _ => (rd_wp fun _ => (bd_wp (sw_wp fun _ => (wp_w_nextTerm (fun _ => (hQ _)))))))))))) (bd_wp (sw_wp fun _ => (wp_w_term (fun _ _ => (wp_w_beginJob (fun _ => (hQ _)))))))))) (wp_w_term (fun _ _ => (wp_w_made (fun _ _ => (wp_w_term (fun _ _ => (wp_w_made (fun _ _ => (wp_w_passOn (fun _ => (hQ _)))))))))))))) (bd_wp (sw_wp fun _ => (wp_w_term (fun _ _ => (wp_w_beginJob (fun _ => (hQ _)))))))))) (bd_wp (rz_wp fun _ => (wp_w_lookedUp (fun _ _ => (wp_w_end0 (fun _ => (hQ _)))))))))) (wp_w_end0 (fun _ => (hQ _))))))))
def pw_push (a0 : Int) (Q : iST → Prop) (u : iST) : Prop :=
  rd (u.1 109) (fun v1 => 
  bdp v1 200 (sw (iA u 108 v1 a0) (fun u => 
  rd (u.1 109) (fun v2 => 
  ovp (v2 + 1) (
  sw (iI u 109 (v2 + 1)) (fun u => 
  Q u))))))
theorem cj_w_push {Q1 Q2 Q3 : iST → Prop}  {a0 : Int} {u : iST} (hQ : ∀ r0, Q1 r0 → Q2 r0 → Q3 r0) : w_push a0 Q1 u → pw_push a0 Q2 u → w_push a0 Q3 u := (rd_cj fun _ => (bd_cj (sw_cj fun _ => (rd_cj fun _ => (ov_cj (sw_cj fun _ => (hQ _)))))))
theorem mn_w_push {Q1 Q2 : iST → Prop}  {a0 : Int} {u : iST} (hQ : ∀ r0, Q1 r0 → Q2 r0) : pw_push a0 Q1 u → pw_push a0 Q2 u := (rd_mn fun _ => (bd_mn (sw_mn fun _ => (rd_mn fun _ => (ov_mn (sw_mn fun _ => (hQ _)))))))
theorem wp_w_push {Q1 Q2 : iST → Prop}  {a0 : Int} {u : iST} (hQ : ∀ r0, Q1 r0 → Q2 r0) : w_push a0 Q1 u → pw_push a0 Q2 u := (rd_wp fun _ => (bd_wp (sw_wp fun _ => (rd_wp fun _ => (ov_wp (sw_wp fun _ => (hQ _)))))))
def pw_test_131 (Q : iST → Prop) (x1 : Int) (y2 : Int) (y3 : Int) (u : iST) : Prop :=
  pw_term y2 y3 (fun v10 u => 
  bdp x1 60 (rz (u.2.1 93 x1) (fun v11 => 
  pw_beginJob v10 v11 (fun u => 
  Q u) u))) u
theorem cj_w_test_131 {Q1 Q2 Q3 : iST → Prop}  {x1 : Int} {y2 : Int} {y3 : Int} {u : iST} (hQ : ∀ r0, Q1 r0 → Q2 r0 → Q3 r0) : w_test_131 Q1 x1 y2 y3 u → pw_test_131 Q2 x1 y2 y3 u → w_test_131 Q3 x1 y2 y3 u := (cj_w_term (fun _ _ => (bd_cj (rz_cj fun _ => (cj_w_beginJob (fun _ => (hQ _)))))))
theorem mn_w_test_131 {Q1 Q2 : iST → Prop}  {x1 : Int} {y2 : Int} {y3 : Int} {u : iST} (hQ : ∀ r0, Q1 r0 → Q2 r0) : pw_test_131 Q1 x1 y2 y3 u → pw_test_131 Q2 x1 y2 y3 u := (mn_w_term (fun _ _ => (bd_mn (rz_mn fun _ => (mn_w_beginJob (fun _ => (hQ _)))))))
theorem wp_w_test_131 {Q1 Q2 : iST → Prop}  {x1 : Int} {y2 : Int} {y3 : Int} {u : iST} (hQ : ∀ r0, Q1 r0 → Q2 r0) : w_test_131 Q1 x1 y2 y3 u → pw_test_131 Q2 x1 y2 y3 u := (wp_w_term (fun _ _ => (bd_wp (rz_wp fun _ => (wp_w_beginJob (fun _ => (hQ _)))))))
def pw_test_98 (Q : iST → Prop) (x1 : Int) (x2 : Int) (x3 : Int) (y1 : Int) (y3 : Int) (y4 : Int) (u : iST) : Prop :=
  pw_term y3 y4 (fun v7 u => 
  bdp y1 60 (sw (iA u 97 y1 v7) (fun u => 
  bdp x1 60 (rd (u.2.1 95 x1) (fun v8 => 
  pw_push v8 (fun u => 
  bdp x1 60 (sw (iA u 94 x1 3) (fun u => 
  br (x3 = 0) (
    pw_test_131 Q x1 x2 2 u) (
    pw_test_131 Q x1 x2 3 u)))) u))))) u
theorem cj_w_test_98 {Q1 Q2 Q3 : iST → Prop}  {x1 : Int} {x2 : Int} {x3 : Int} {y1 : Int} {y3 : Int} {y4 : Int} {u : iST} (hQ : ∀ r0, Q1 r0 → Q2 r0 → Q3 r0) : w_test_98 Q1 x1 x2 x3 y1 y3 y4 u → pw_test_98 Q2 x1 x2 x3 y1 y3 y4 u → w_test_98 Q3 x1 x2 x3 y1 y3 y4 u := (cj_w_term (fun _ _ => (bd_cj (sw_cj fun _ => (bd_cj (rd_cj fun _ => (cj_w_push (fun _ => (bd_cj (sw_cj fun _ => (br_cj (cj_w_test_131  hQ) (cj_w_test_131  hQ))))))))))))
theorem mn_w_test_98 {Q1 Q2 : iST → Prop}  {x1 : Int} {x2 : Int} {x3 : Int} {y1 : Int} {y3 : Int} {y4 : Int} {u : iST} (hQ : ∀ r0, Q1 r0 → Q2 r0) : pw_test_98 Q1 x1 x2 x3 y1 y3 y4 u → pw_test_98 Q2 x1 x2 x3 y1 y3 y4 u := (mn_w_term (fun _ _ => (bd_mn (sw_mn fun _ => (bd_mn (rd_mn fun _ => (mn_w_push (fun _ => (bd_mn (sw_mn fun _ => (br_mn (mn_w_test_131  hQ) (mn_w_test_131  hQ))))))))))))
theorem wp_w_test_98 {Q1 Q2 : iST → Prop}  {x1 : Int} {x2 : Int} {x3 : Int} {y1 : Int} {y3 : Int} {y4 : Int} {u : iST} (hQ : ∀ r0, Q1 r0 → Q2 r0) : w_test_98 Q1 x1 x2 x3 y1 y3 y4 u → pw_test_98 Q2 x1 x2 x3 y1 y3 y4 u := (wp_w_term (fun _ _ => (bd_wp (sw_wp fun _ => (bd_wp (rd_wp fun _ => (wp_w_push (fun _ => (bd_wp (sw_wp fun _ => (br_wp (wp_w_test_131  hQ) (wp_w_test_131  hQ))))))))))))
def pw_test_81 (Q : iST → Prop) (x1 : Int) (x2 : Int) (x3 : Int) (y1 : Int) (y2 : Int) (u : iST) : Prop :=
  bdp y1 60 (sw (iA u 95 y1 y2) (fun u => 
  br (x3 = 0) (
    pw_test_98 Q x1 x2 x3 x1 x2 3 u) (
    pw_test_98 Q x1 x2 x3 x1 x2 2 u)))
theorem cj_w_test_81 {Q1 Q2 Q3 : iST → Prop}  {x1 : Int} {x2 : Int} {x3 : Int} {y1 : Int} {y2 : Int} {u : iST} (hQ : ∀ r0, Q1 r0 → Q2 r0 → Q3 r0) : w_test_81 Q1 x1 x2 x3 y1 y2 u → pw_test_81 Q2 x1 x2 x3 y1 y2 u → w_test_81 Q3 x1 x2 x3 y1 y2 u := (bd_cj (sw_cj fun _ => (br_cj (cj_w_test_98  hQ) (cj_w_test_98  hQ))))
theorem mn_w_test_81 {Q1 Q2 : iST → Prop}  {x1 : Int} {x2 : Int} {x3 : Int} {y1 : Int} {y2 : Int} {u : iST} (hQ : ∀ r0, Q1 r0 → Q2 r0) : pw_test_81 Q1 x1 x2 x3 y1 y2 u → pw_test_81 Q2 x1 x2 x3 y1 y2 u := (bd_mn (sw_mn fun _ => (br_mn (mn_w_test_98  hQ) (mn_w_test_98  hQ))))
theorem wp_w_test_81 {Q1 Q2 : iST → Prop}  {x1 : Int} {x2 : Int} {x3 : Int} {y1 : Int} {y2 : Int} {u : iST} (hQ : ∀ r0, Q1 r0 → Q2 r0) : w_test_81 Q1 x1 x2 x3 y1 y2 u → pw_test_81 Q2 x1 x2 x3 y1 y2 u := (bd_wp (sw_wp fun _ => (br_wp (wp_w_test_98  hQ) (wp_w_test_98  hQ))))
def pw_test_33 (Q : iST → Prop) (y2 : Int) (y3 : Int) (u : iST) : Prop :=
  pw_term y2 y3 (fun v17 u => 
  pw_passOn v17 (fun u => 
  Q u) u) u
theorem cj_w_test_33 {Q1 Q2 Q3 : iST → Prop}  {y2 : Int} {y3 : Int} {u : iST} (hQ : ∀ r0, Q1 r0 → Q2 r0 → Q3 r0) : w_test_33 Q1 y2 y3 u → pw_test_33 Q2 y2 y3 u → w_test_33 Q3 y2 y3 u := (cj_w_term (fun _ _ => (cj_w_passOn (fun _ => (hQ _)))))
theorem mn_w_test_33 {Q1 Q2 : iST → Prop}  {y2 : Int} {y3 : Int} {u : iST} (hQ : ∀ r0, Q1 r0 → Q2 r0) : pw_test_33 Q1 y2 y3 u → pw_test_33 Q2 y2 y3 u := (mn_w_term (fun _ _ => (mn_w_passOn (fun _ => (hQ _)))))
theorem wp_w_test_33 {Q1 Q2 : iST → Prop}  {y2 : Int} {y3 : Int} {u : iST} (hQ : ∀ r0, Q1 r0 → Q2 r0) : w_test_33 Q1 y2 y3 u → pw_test_33 Q2 y2 y3 u := (wp_w_term (fun _ _ => (wp_w_passOn (fun _ => (hQ _)))))
def pw_test (a0 : Int) (Q : iST → Prop) (u : iST) : Prop :=
  bdp a0 60 (rd (u.2.1 92 a0) (fun v1 => 
  rd (u.1 110) (fun v2 => 
  pw_isConstant v2 (fun v3 u => 
  br (v3 = 0) (
    rd (u.1 110) (fun v4 => 
    pw_isCallOf v4 15 (fun v5 u => 
    br (v5 = 0) (
      rd (u.1 110) (fun v6 => 
      pw_test_81 Q a0 v1 v5 a0 v6 u)) (
      rd (u.1 110) (fun v13 => 
      bdp v13 452000 (rd (u.2.1 1 v13) (fun v14 => 
      bdp v14 452000 (rd (u.2.1 0 v14) (fun v15 => 
      pw_test_81 Q a0 v1 v5 a0 v15 u))))))) u)) (
    rd (u.1 110) (fun v16 => 
    br (v16 ≠ 0) (
      pw_test_33 Q v1 2 u) (
      pw_test_33 Q v1 3 u)))) u)))
theorem cj_w_test {Q1 Q2 Q3 : iST → Prop}  {a0 : Int} {u : iST} (hQ : ∀ r0, Q1 r0 → Q2 r0 → Q3 r0) : w_test a0 Q1 u → pw_test a0 Q2 u → w_test a0 Q3 u := (bd_cj (rd_cj fun _ => (rd_cj fun _ => (cj_w_isConstant (fun _ _ => (br_cj (rd_cj fun _ => (cj_w_isCallOf (fun _ _ => (br_cj (rd_cj fun _ => (cj_w_test_81  hQ)) (rd_cj fun _ => (bd_cj (rd_cj fun _ => (bd_cj (rd_cj fun _ => (cj_w_test_81  hQ)))))))))) (rd_cj fun _ => (br_cj (cj_w_test_33  hQ) (cj_w_test_33  hQ)))))))))
theorem mn_w_test {Q1 Q2 : iST → Prop}  {a0 : Int} {u : iST} (hQ : ∀ r0, Q1 r0 → Q2 r0) : pw_test a0 Q1 u → pw_test a0 Q2 u := (bd_mn (rd_mn fun _ => (rd_mn fun _ => (mn_w_isConstant (fun _ _ => (br_mn (rd_mn fun _ => (mn_w_isCallOf (fun _ _ => (br_mn (rd_mn fun _ => (mn_w_test_81  hQ)) (rd_mn fun _ => (bd_mn (rd_mn fun _ => (bd_mn (rd_mn fun _ => (mn_w_test_81  hQ)))))))))) (rd_mn fun _ => (br_mn (mn_w_test_33  hQ) (mn_w_test_33  hQ)))))))))
theorem wp_w_test {Q1 Q2 : iST → Prop}  {a0 : Int} {u : iST} (hQ : ∀ r0, Q1 r0 → Q2 r0) : w_test a0 Q1 u → pw_test a0 Q2 u := (bd_wp (rd_wp fun _ => (rd_wp fun _ => (wp_w_isConstant (fun _ _ => (br_wp (rd_wp fun _ => (wp_w_isCallOf (fun _ _ => (br_wp (rd_wp fun _ => (wp_w_test_81  hQ)) (rd_wp fun _ => (bd_wp (rd_wp fun _ => (bd_wp (rd_wp fun _ => (wp_w_test_81  hQ)))))))))) (rd_wp fun _ => (br_wp (wp_w_test_33  hQ) (wp_w_test_33  hQ)))))))))
def pw_join_75 (Q : iST → Prop) (x2 : Int) (x3 : Int) (x4 : Int) (u : iST) : Prop :=
  pw_made 3 x2 x3 x4 (fun v1 u => 
  pw_end0 v1 (fun u => 
  Q u) u) u
theorem cj_w_join_75 {Q1 Q2 Q3 : iST → Prop}  {x2 : Int} {x3 : Int} {x4 : Int} {u : iST} (hQ : ∀ r0, Q1 r0 → Q2 r0 → Q3 r0) : w_join_75 Q1 x2 x3 x4 u → pw_join_75 Q2 x2 x3 x4 u → w_join_75 Q3 x2 x3 x4 u := (cj_w_made (fun _ _ => (cj_w_end0 (fun _ => (hQ _)))))
theorem mn_w_join_75 {Q1 Q2 : iST → Prop}  {x2 : Int} {x3 : Int} {x4 : Int} {u : iST} (hQ : ∀ r0, Q1 r0 → Q2 r0) : pw_join_75 Q1 x2 x3 x4 u → pw_join_75 Q2 x2 x3 x4 u := (mn_w_made (fun _ _ => (mn_w_end0 (fun _ => (hQ _)))))
theorem wp_w_join_75 {Q1 Q2 : iST → Prop}  {x2 : Int} {x3 : Int} {x4 : Int} {u : iST} (hQ : ∀ r0, Q1 r0 → Q2 r0) : w_join_75 Q1 x2 x3 x4 u → pw_join_75 Q2 x2 x3 x4 u := (wp_w_made (fun _ _ => (wp_w_end0 (fun _ => (hQ _)))))
def pw_join_49 (Q : iST → Prop) (x2 : Int) (x3 : Int) (x4 : Int) (u : iST) : Prop :=
  br (x3 ≠ 0) (
    pw_join_75 Q x2 x3 x4 u) (
    br (x4 ≠ 1) (
      pw_join_75 Q x2 x3 x4 u) (
      pw_made 15 x2 (-1) (-1) (fun v3 u => 
      pw_end0 v3 (fun u => 
      Q u) u) u))
theorem cj_w_join_49 {Q1 Q2 Q3 : iST → Prop}  {x2 : Int} {x3 : Int} {x4 : Int} {u : iST} (hQ : ∀ r0, Q1 r0 → Q2 r0 → Q3 r0) : w_join_49 Q1 x2 x3 x4 u → pw_join_49 Q2 x2 x3 x4 u → w_join_49 Q3 x2 x3 x4 u := (br_cj (cj_w_join_75  hQ) (br_cj (cj_w_join_75  hQ) (cj_w_made (fun _ _ => (cj_w_end0 (fun _ => (hQ _)))))))
theorem mn_w_join_49 {Q1 Q2 : iST → Prop}  {x2 : Int} {x3 : Int} {x4 : Int} {u : iST} (hQ : ∀ r0, Q1 r0 → Q2 r0) : pw_join_49 Q1 x2 x3 x4 u → pw_join_49 Q2 x2 x3 x4 u := (br_mn (mn_w_join_75  hQ) (br_mn (mn_w_join_75  hQ) (mn_w_made (fun _ _ => (mn_w_end0 (fun _ => (hQ _)))))))
theorem wp_w_join_49 {Q1 Q2 : iST → Prop}  {x2 : Int} {x3 : Int} {x4 : Int} {u : iST} (hQ : ∀ r0, Q1 r0 → Q2 r0) : w_join_49 Q1 x2 x3 x4 u → pw_join_49 Q2 x2 x3 x4 u := (br_wp (wp_w_join_75  hQ) (br_wp (wp_w_join_75  hQ) (wp_w_made (fun _ _ => (wp_w_end0 (fun _ => (hQ _)))))))
def pw_join_41 (Q : iST → Prop) (x2 : Int) (u : iST) : Prop :=
  pw_end0 x2 (fun u => 
  Q u) u
theorem cj_w_join_41 {Q1 Q2 Q3 : iST → Prop}  {x2 : Int} {u : iST} (hQ : ∀ r0, Q1 r0 → Q2 r0 → Q3 r0) : w_join_41 Q1 x2 u → pw_join_41 Q2 x2 u → w_join_41 Q3 x2 u := (cj_w_end0 (fun _ => (hQ _)))
theorem mn_w_join_41 {Q1 Q2 : iST → Prop}  {x2 : Int} {u : iST} (hQ : ∀ r0, Q1 r0 → Q2 r0) : pw_join_41 Q1 x2 u → pw_join_41 Q2 x2 u := (mn_w_end0 (fun _ => (hQ _)))
theorem wp_w_join_41 {Q1 Q2 : iST → Prop}  {x2 : Int} {u : iST} (hQ : ∀ r0, Q1 r0 → Q2 r0) : w_join_41 Q1 x2 u → pw_join_41 Q2 x2 u := (wp_w_end0 (fun _ => (hQ _)))
def pw_join (a0 : Int) (a1 : Int) (a2 : Int) (a3 : Int) (Q : iST → Prop) (u : iST) : Prop :=
  br (a2 ≠ a3) (
    br (a2 ≠ 1) (
      pw_join_49 Q a1 a2 a3 u) (
      br (a3 ≠ 0) (
        pw_join_49 Q a1 a2 a3 u) (
        bdp a0 60 (rz (u.2.1 93 a0) (fun v5 => 
        br (v5 ≠ 0) (
          pw_join_41 Q a1 u) (
          pw_isBoolean a1 (fun v7 u => 
          br (v7 = 0) (
            pw_join_49 Q a1 a2 a3 u) (
            pw_join_41 Q a1 u)) u)))))) (
    pw_end0 a2 (fun u => 
    Q u) u)
theorem cj_w_join {Q1 Q2 Q3 : iST → Prop}  {a0 : Int} {a1 : Int} {a2 : Int} {a3 : Int} {u : iST} (hQ : ∀ r0, Q1 r0 → Q2 r0 → Q3 r0) : w_join a0 a1 a2 a3 Q1 u → pw_join a0 a1 a2 a3 Q2 u → w_join a0 a1 a2 a3 Q3 u := (br_cj (br_cj (cj_w_join_49  hQ) (br_cj (cj_w_join_49  hQ) (bd_cj (rz_cj fun _ => (br_cj (cj_w_join_41  hQ) (cj_w_isBoolean (fun _ _ => (br_cj (cj_w_join_49  hQ) (cj_w_join_41  hQ))))))))) (cj_w_end0 (fun _ => (hQ _))))
theorem mn_w_join {Q1 Q2 : iST → Prop}  {a0 : Int} {a1 : Int} {a2 : Int} {a3 : Int} {u : iST} (hQ : ∀ r0, Q1 r0 → Q2 r0) : pw_join a0 a1 a2 a3 Q1 u → pw_join a0 a1 a2 a3 Q2 u := (br_mn (br_mn (mn_w_join_49  hQ) (br_mn (mn_w_join_49  hQ) (bd_mn (rz_mn fun _ => (br_mn (mn_w_join_41  hQ) (mn_w_isBoolean (fun _ _ => (br_mn (mn_w_join_49  hQ) (mn_w_join_41  hQ))))))))) (mn_w_end0 (fun _ => (hQ _))))
theorem wp_w_join {Q1 Q2 : iST → Prop}  {a0 : Int} {a1 : Int} {a2 : Int} {a3 : Int} {u : iST} (hQ : ∀ r0, Q1 r0 → Q2 r0) : w_join a0 a1 a2 a3 Q1 u → pw_join a0 a1 a2 a3 Q2 u := (br_wp (br_wp (wp_w_join_49  hQ) (br_wp (wp_w_join_49  hQ) (bd_wp (rz_wp fun _ => (br_wp (wp_w_join_41  hQ) (wp_w_isBoolean (fun _ _ => (br_wp (wp_w_join_49  hQ) (wp_w_join_41  hQ))))))))) (wp_w_end0 (fun _ => (hQ _))))
def pw_takeResult_248 (Q : iST → Prop) (y1 : Int) (u : iST) : Prop :=
  pw_end0 y1 (fun u => 
  Q u) u
theorem cj_w_takeResult_248 {Q1 Q2 Q3 : iST → Prop}  {y1 : Int} {u : iST} (hQ : ∀ r0, Q1 r0 → Q2 r0 → Q3 r0) : w_takeResult_248 Q1 y1 u → pw_takeResult_248 Q2 y1 u → w_takeResult_248 Q3 y1 u := (cj_w_end0 (fun _ => (hQ _)))
theorem mn_w_takeResult_248 {Q1 Q2 : iST → Prop}  {y1 : Int} {u : iST} (hQ : ∀ r0, Q1 r0 → Q2 r0) : pw_takeResult_248 Q1 y1 u → pw_takeResult_248 Q2 y1 u := (mn_w_end0 (fun _ => (hQ _)))
theorem wp_w_takeResult_248 {Q1 Q2 : iST → Prop}  {y1 : Int} {u : iST} (hQ : ∀ r0, Q1 r0 → Q2 r0) : w_takeResult_248 Q1 y1 u → pw_takeResult_248 Q2 y1 u := (wp_w_end0 (fun _ => (hQ _)))
def pw_takeResult_224 (Q : iST → Prop) (x1 : Int) (x2 : Int) (u : iST) : Prop :=
  pw_isConstant x2 (fun v25 u => 
  br (v25 = 0) (
    bdp x1 60 (rz (u.2.1 93 x1) (fun v26 => 
    pw_lookedUp x2 v26 (fun v27 u => 
    pw_takeResult_248 Q v27 u) u))) (
    pw_takeResult_248 Q x2 u)) u
theorem cj_w_takeResult_224 {Q1 Q2 Q3 : iST → Prop}  {x1 : Int} {x2 : Int} {u : iST} (hQ : ∀ r0, Q1 r0 → Q2 r0 → Q3 r0) : w_takeResult_224 Q1 x1 x2 u → pw_takeResult_224 Q2 x1 x2 u → w_takeResult_224 Q3 x1 x2 u := (cj_w_isConstant (fun _ _ => (br_cj (bd_cj (rz_cj fun _ => (cj_w_lookedUp (fun _ _ => (cj_w_takeResult_248  hQ))))) (cj_w_takeResult_248  hQ))))
theorem mn_w_takeResult_224 {Q1 Q2 : iST → Prop}  {x1 : Int} {x2 : Int} {u : iST} (hQ : ∀ r0, Q1 r0 → Q2 r0) : pw_takeResult_224 Q1 x1 x2 u → pw_takeResult_224 Q2 x1 x2 u := (mn_w_isConstant (fun _ _ => (br_mn (bd_mn (rz_mn fun _ => (mn_w_lookedUp (fun _ _ => (mn_w_takeResult_248  hQ))))) (mn_w_takeResult_248  hQ))))
theorem wp_w_takeResult_224 {Q1 Q2 : iST → Prop}  {x1 : Int} {x2 : Int} {u : iST} (hQ : ∀ r0, Q1 r0 → Q2 r0) : w_takeResult_224 Q1 x1 x2 u → pw_takeResult_224 Q2 x1 x2 u := (wp_w_isConstant (fun _ _ => (br_wp (bd_wp (rz_wp fun _ => (wp_w_lookedUp (fun _ _ => (wp_w_takeResult_248  hQ))))) (wp_w_takeResult_248  hQ))))
def pw_takeResult_352 (Q : iST → Prop) (y2 : Int) (y3 : Int) (u : iST) : Prop :=
  pw_bodyOf y2 y3 (fun v54 u => 
  pw_passOn v54 (fun u => 
  Q u) u) u
theorem cj_w_takeResult_352 {Q1 Q2 Q3 : iST → Prop}  {y2 : Int} {y3 : Int} {u : iST} (hQ : ∀ r0, Q1 r0 → Q2 r0 → Q3 r0) : w_takeResult_352 Q1 y2 y3 u → pw_takeResult_352 Q2 y2 y3 u → w_takeResult_352 Q3 y2 y3 u := (cj_w_bodyOf (fun _ _ => (cj_w_passOn (fun _ => (hQ _)))))
theorem mn_w_takeResult_352 {Q1 Q2 : iST → Prop}  {y2 : Int} {y3 : Int} {u : iST} (hQ : ∀ r0, Q1 r0 → Q2 r0) : pw_takeResult_352 Q1 y2 y3 u → pw_takeResult_352 Q2 y2 y3 u := (mn_w_bodyOf (fun _ _ => (mn_w_passOn (fun _ => (hQ _)))))
theorem wp_w_takeResult_352 {Q1 Q2 : iST → Prop}  {y2 : Int} {y3 : Int} {u : iST} (hQ : ∀ r0, Q1 r0 → Q2 r0) : w_takeResult_352 Q1 y2 y3 u → pw_takeResult_352 Q2 y2 y3 u := (wp_w_bodyOf (fun _ _ => (wp_w_passOn (fun _ => (hQ _)))))
def pw_takeResult (a0 : Int) (Q : iST → Prop) (u : iST) : Prop :=
  ztp 0 (sw (iI u 111 0) (fun u => 
  bdp a0 60 (rd (u.2.1 94 a0) (fun v1 => 
  br (v1 = 1) (
    pw_test a0 (fun u => 
    Q u) u) (
  br (v1 = 3) (
    rd (u.1 110) (fun v4 => 
    bdp a0 60 (sw (iA u 96 a0 v4) (fun u => 
    rd (u.1 109) (fun v5 => 
    ovp (v5 - 1) (
    sw (iI u 109 (v5 - 1)) (fun u => 
    bdp a0 60 (rd (u.2.1 95 a0) (fun v7 => 
    pw_notOf v7 (fun v8 u => 
    pw_push v8 (fun u => 
    bdp a0 60 (sw (iA u 94 a0 4) (fun u => 
    bdp a0 60 (rd (u.2.1 97 a0) (fun v10 => 
    bdp a0 60 (rz (u.2.1 93 a0) (fun v11 => 
    pw_beginJob v10 v11 (fun u => 
    Q u) u))))))) u) u))))))))) (
  br (v1 = 4) (
    rd (u.1 109) (fun v14 => 
    ovp (v14 - 1) (
    sw (iI u 109 (v14 - 1)) (fun u => 
    bdp a0 60 (rd (u.2.1 95 a0) (fun v16 => 
    bdp a0 60 (rd (u.2.1 96 a0) (fun v17 => 
    rd (u.1 110) (fun v18 => 
    pw_join a0 v16 v17 v18 (fun u => 
    Q u) u))))))))) (
  br (v1 = 5) (
    rd (u.1 110) (fun v21 => 
    pw_notOf v21 (fun v22 u => 
    rd (u.1 110) (fun v23 => 
    pw_isCallOf v23 15 (fun v24 u => 
    br (v24 = 0) (
      pw_takeResult_224 Q a0 v22 u) (
      pw_isBoolean v22 (fun v29 u => 
      br (v29 ≠ 0) (
        pw_takeResult_224 Q a0 v22 u) (
        bdp a0 60 (rz (u.2.1 93 a0) (fun v30 => 
        br (v30 ≠ 0) (
          pw_takeResult_224 Q a0 v22 u) (
          rd (u.1 110) (fun v31 => 
          pw_made 15 v31 (-1) (-1) (fun v32 u => 
          pw_takeResult_224 Q a0 v32 u) u)))))) u)) u)) u)) (
  br (v1 = 10) (
    rd (u.1 104) (fun v34 => 
    rd (u.1 110) (fun v35 => 
    bdp v34 1200 (sw (iA u 103 v34 v35) (fun u => 
    rd (u.1 104) (fun v36 => 
    ovp (v36 + 1) (
    sw (iI u 104 (v36 + 1)) (fun u => 
    pw_nextTerm a0 (fun u => 
    Q u) u)))))))) (
  br (v1 = 31) (
    rd (u.1 110) (fun v40 => 
    br (v40 ≠ 1) (
      bdp a0 60 (rd (u.2.1 100 a0) (fun v41 => 
      ovp (v41 - 1) (
      pw_tryRules a0 (v41 - 1) (fun u => 
      Q u) u)))) (
      bdp a0 60 (rd (u.2.1 101 a0) (fun v44 => 
      ovp (v44 + 1) (
      bdp a0 60 (sw (iA u 101 a0 (v44 + 1)) (fun u => 
      pw_nextHypothesis a0 (fun u => 
      Q u) u)))))))) (
  br (v1 = 40) (
    rd (u.1 110) (fun v48 => 
    pw_isConstant v48 (fun v49 u => 
    br (v49 = 0) (
      bdp a0 60 (rd (u.2.1 92 a0) (fun v50 => 
      pw_end0 v50 (fun u => 
      Q u) u))) (
      bdp a0 60 (rd (u.2.1 92 a0) (fun v52 => 
      rd (u.1 110) (fun v53 => 
      br (v53 ≠ 0) (
        pw_takeResult_352 Q v52 2 u) (
        pw_takeResult_352 Q v52 3 u)))))) u)) (
  rd (u.1 110) (fun v57 => 
  pw_end0 v57 (fun u => 
  Q u) u))))))))))))
theorem cj_w_takeResult {Q1 Q2 Q3 : iST → Prop}  {a0 : Int} {u : iST} (hQ : ∀ r0, Q1 r0 → Q2 r0 → Q3 r0) : w_takeResult a0 Q1 u → pw_takeResult a0 Q2 u → w_takeResult a0 Q3 u := (zt_cj (sw_cj fun _ => (bd_cj (rd_cj fun _ => (br_cj (cj_w_test (fun _ => (hQ _))) (br_cj (rd_cj fun _ => (bd_cj (sw_cj fun _ => (rd_cj fun _ => (ov_cj (sw_cj fun _ => (bd_cj (rd_cj fun _ => (cj_w_notOf (fun _ _ => (cj_w_push (fun _ => (bd_cj (sw_cj fun _ => (bd_cj (rd_cj fun _ => (bd_cj (rz_cj fun _ => (cj_w_beginJob (fun _ => (hQ _))))))))))))))))))))) (br_cj (rd_cj fun _ => (ov_cj (sw_cj fun _ => (bd_cj (rd_cj fun _ => (bd_cj (rd_cj fun _ => (rd_cj fun _ => (cj_w_join (fun _ => (hQ _))))))))))) (br_cj (rd_cj fun _ => (cj_w_notOf (fun _ _ => (rd_cj fun _ => (cj_w_isCallOf (fun _ _ => (br_cj (cj_w_takeResult_224  hQ) (cj_w_isBoolean (fun _ _ => (br_cj (cj_w_takeResult_224  hQ) (bd_cj (rz_cj fun _ => (br_cj (cj_w_takeResult_224  hQ) (rd_cj fun _ => (cj_w_made (fun _ _ => (cj_w_takeResult_224  hQ))))))))))))))))) (br_cj (rd_cj fun _ => (rd_cj fun _ => (bd_cj (sw_cj fun _ => (rd_cj fun _ => (ov_cj (sw_cj fun _ => (cj_w_nextTerm (fun _ => (hQ _)))))))))) (br_cj (rd_cj fun _ => (br_cj (bd_cj (rd_cj fun _ => (ov_cj (cj_w_tryRules (fun _ => (hQ _)))))) (bd_cj (rd_cj fun _ => (ov_cj (bd_cj (sw_cj fun _ => (cj_w_nextHypothesis (fun _ => (hQ _)))))))))) (br_cj (rd_cj fun _ => (cj_w_isConstant (fun _ _ => (br_cj (bd_cj (rd_cj fun _ => (cj_w_end0 (fun _ => (hQ _))))) (bd_cj (rd_cj fun _ => (rd_cj fun _ => (br_cj (cj_w_takeResult_352  hQ) (cj_w_takeResult_352  hQ))))))))) (rd_cj fun _ => (cj_w_end0 (fun _ => (hQ _)))))))))))))))
theorem mn_w_takeResult {Q1 Q2 : iST → Prop}  {a0 : Int} {u : iST} (hQ : ∀ r0, Q1 r0 → Q2 r0) : pw_takeResult a0 Q1 u → pw_takeResult a0 Q2 u := (zt_mn (sw_mn fun _ => (bd_mn (rd_mn fun _ => (br_mn (mn_w_test (fun _ => (hQ _))) (br_mn (rd_mn fun _ => (bd_mn (sw_mn fun _ => (rd_mn fun _ => (ov_mn (sw_mn fun _ => (bd_mn (rd_mn fun _ => (mn_w_notOf (fun _ _ => (mn_w_push (fun _ => (bd_mn (sw_mn fun _ => (bd_mn (rd_mn fun _ => (bd_mn (rz_mn fun _ => (mn_w_beginJob (fun _ => (hQ _))))))))))))))))))))) (br_mn (rd_mn fun _ => (ov_mn (sw_mn fun _ => (bd_mn (rd_mn fun _ => (bd_mn (rd_mn fun _ => (rd_mn fun _ => (mn_w_join (fun _ => (hQ _))))))))))) (br_mn (rd_mn fun _ => (mn_w_notOf (fun _ _ => (rd_mn fun _ => (mn_w_isCallOf (fun _ _ => (br_mn (mn_w_takeResult_224  hQ) (mn_w_isBoolean (fun _ _ => (br_mn (mn_w_takeResult_224  hQ) (bd_mn (rz_mn fun _ => (br_mn (mn_w_takeResult_224  hQ) (rd_mn fun _ => (mn_w_made (fun _ _ => (mn_w_takeResult_224  hQ))))))))))))))))) (br_mn (rd_mn fun _ => (rd_mn fun _ => (bd_mn (sw_mn fun _ => (rd_mn fun _ => (ov_mn (sw_mn fun _ => (mn_w_nextTerm (fun _ => (hQ _)))))))))) (br_mn (rd_mn fun _ => (br_mn (bd_mn (rd_mn fun _ => (ov_mn (mn_w_tryRules (fun _ => (hQ _)))))) (bd_mn (rd_mn fun _ => (ov_mn (bd_mn (sw_mn fun _ => (mn_w_nextHypothesis (fun _ => (hQ _)))))))))) (br_mn (rd_mn fun _ => (mn_w_isConstant (fun _ _ => (br_mn (bd_mn (rd_mn fun _ => (mn_w_end0 (fun _ => (hQ _))))) (bd_mn (rd_mn fun _ => (rd_mn fun _ => (br_mn (mn_w_takeResult_352  hQ) (mn_w_takeResult_352  hQ))))))))) (rd_mn fun _ => (mn_w_end0 (fun _ => (hQ _)))))))))))))))
theorem wp_w_takeResult {Q1 Q2 : iST → Prop}  {a0 : Int} {u : iST} (hQ : ∀ r0, Q1 r0 → Q2 r0) : w_takeResult a0 Q1 u → pw_takeResult a0 Q2 u := (zt_wp (sw_wp fun _ => (bd_wp (rd_wp fun _ => (br_wp (wp_w_test (fun _ => (hQ _))) (br_wp (rd_wp fun _ => (bd_wp (sw_wp fun _ => (rd_wp fun _ => (ov_wp (sw_wp fun _ => (bd_wp (rd_wp fun _ => (wp_w_notOf (fun _ _ => (wp_w_push (fun _ => (bd_wp (sw_wp fun _ => (bd_wp (rd_wp fun _ => (bd_wp (rz_wp fun _ => (wp_w_beginJob (fun _ => (hQ _))))))))))))))))))))) (br_wp (rd_wp fun _ => (ov_wp (sw_wp fun _ => (bd_wp (rd_wp fun _ => (bd_wp (rd_wp fun _ => (rd_wp fun _ => (wp_w_join (fun _ => (hQ _))))))))))) (br_wp (rd_wp fun _ => (wp_w_notOf (fun _ _ => (rd_wp fun _ => (wp_w_isCallOf (fun _ _ => (br_wp (wp_w_takeResult_224  hQ) (wp_w_isBoolean (fun _ _ => (br_wp (wp_w_takeResult_224  hQ) (bd_wp (rz_wp fun _ => (br_wp (wp_w_takeResult_224  hQ) (rd_wp fun _ => (wp_w_made (fun _ _ => (wp_w_takeResult_224  hQ))))))))))))))))) (br_wp (rd_wp fun _ => (rd_wp fun _ => (bd_wp (sw_wp fun _ => (rd_wp fun _ => (ov_wp (sw_wp fun _ => (wp_w_nextTerm (fun _ => (hQ _)))))))))) (br_wp (rd_wp fun _ => (br_wp (bd_wp (rd_wp fun _ => (ov_wp (wp_w_tryRules (fun _ => (hQ _)))))) (bd_wp (rd_wp fun _ => (ov_wp (bd_wp (sw_wp fun _ => (wp_w_nextHypothesis (fun _ => (hQ _)))))))))) (br_wp (rd_wp fun _ => (wp_w_isConstant (fun _ _ => (br_wp (bd_wp (rd_wp fun _ => (wp_w_end0 (fun _ => (hQ _))))) (bd_wp (rd_wp fun _ => (rd_wp fun _ => (br_wp (wp_w_takeResult_352  hQ) (wp_w_takeResult_352  hQ))))))))) (rd_wp fun _ => (wp_w_end0 (fun _ => (hQ _)))))))))))))))
def pw_rewritten_21b (R21 : iST → Prop) (Q : Int → iST → Prop) (u : iST) : Prop :=
  rd (u.1 61) (fun v2 => 
  br (v2 ≠ 0) (
    rd (u.1 110) (fun v3 => 
    Q v3 u)) (
    rd (u.1 102) (fun v4 => 
    br (v4 ≤ 0) (
      rd (u.1 110) (fun v5 => 
      Q v5 u)) (
      rd (u.1 102) (fun v6 => 
      ovp (v6 - 1) (
      rz (u.1 111) (fun v8 => 
      br (v8 = 0) (
        pw_startJob (v6 - 1) (fun u => 
        R21 u) u) (
        pw_takeResult (v6 - 1) (fun u => 
        R21 u) u))))))))
theorem cj_w_rewritten_21b {Q1 Q2 Q3 : Int → iST → Prop} {R211 R212 R213 : iST → Prop} {u : iST} (hR21 : ∀ r0, R211 r0 → R212 r0 → R213 r0) (hQ : ∀ r0 r1, Q1 r0 r1 → Q2 r0 r1 → Q3 r0 r1) : w_rewritten_21b R211 Q1 u → pw_rewritten_21b R212 Q2 u → w_rewritten_21b R213 Q3 u := (rd_cj fun _ => (br_cj (rd_cj fun _ => (hQ _ _)) (rd_cj fun _ => (br_cj (rd_cj fun _ => (hQ _ _)) (rd_cj fun _ => (ov_cj (rz_cj fun _ => (br_cj (cj_w_startJob (fun _ => (hR21 _))) (cj_w_takeResult (fun _ => (hR21 _)))))))))))
theorem mn_w_rewritten_21b {Q1 Q2 : Int → iST → Prop} {R211 R212 : iST → Prop} {u : iST} (hR21 : ∀ r0, R211 r0 → R212 r0) (hQ : ∀ r0 r1, Q1 r0 r1 → Q2 r0 r1) : pw_rewritten_21b R211 Q1 u → pw_rewritten_21b R212 Q2 u := (rd_mn fun _ => (br_mn (rd_mn fun _ => (hQ _ _)) (rd_mn fun _ => (br_mn (rd_mn fun _ => (hQ _ _)) (rd_mn fun _ => (ov_mn (rz_mn fun _ => (br_mn (mn_w_startJob (fun _ => (hR21 _))) (mn_w_takeResult (fun _ => (hR21 _)))))))))))
theorem wp_w_rewritten_21b {Q1 Q2 : Int → iST → Prop} {R211 R212 : iST → Prop} {u : iST} (hR21 : ∀ r0, R211 r0 → R212 r0) (hQ : ∀ r0 r1, Q1 r0 r1 → Q2 r0 r1) : w_rewritten_21b R211 Q1 u → pw_rewritten_21b R212 Q2 u := (rd_wp fun _ => (br_wp (rd_wp fun _ => (hQ _ _)) (rd_wp fun _ => (br_wp (rd_wp fun _ => (hQ _ _)) (rd_wp fun _ => (ov_wp (rz_wp fun _ => (br_wp (wp_w_startJob (fun _ => (hR21 _))) (wp_w_takeResult (fun _ => (hR21 _)))))))))))
def pw_rewritten_21 (Q : Int → iST → Prop) (u : iST) : Prop := ∃ R21 : iST → Prop, (∀ (u : iST), R21 u → pw_rewritten_21b R21 Q u) ∧ R21 u
theorem cj_w_rewritten_21 {Q1 Q2 Q3 : Int → iST → Prop}  {u : iST} (hQ : ∀ r0 r1, Q1 r0 r1 → Q2 r0 r1 → Q3 r0 r1) : w_rewritten_21 Q1 u → pw_rewritten_21 Q2 u → w_rewritten_21 Q3 u := by
  intro a b R3 c3
  obtain ⟨R2, c2, b2⟩ := b
  exact a (fun r0 => R2 r0 → R3 r0) (fun r0 a b => c3 r0 (cj_w_rewritten_21b (fun r0 a b => a b) hQ a (c2 r0 b))) b2
theorem pw_rewritten_21_i  {Q : Int → iST → Prop} {u : iST} (I : iST → Prop) (s : ∀ (u : iST), I u → pw_rewritten_21b I Q u) (h : I u) : pw_rewritten_21 Q u := ⟨I, s, h⟩
theorem mn_w_rewritten_21 {Q1 Q2 : Int → iST → Prop}  {u : iST} (hQ : ∀ r0 r1, Q1 r0 r1 → Q2 r0 r1) : pw_rewritten_21 Q1 u → pw_rewritten_21 Q2 u := fun ⟨R, s, h⟩ => ⟨R, fun r0 a => mn_w_rewritten_21b (fun r0 a => a) hQ (s r0 a), h⟩
theorem un_w_rewritten_21  {Q : Int → iST → Prop} {u : iST} : pw_rewritten_21 Q u → pw_rewritten_21b (fun u => pw_rewritten_21 Q u) Q u := fun ⟨R, s, h⟩ => mn_w_rewritten_21b (fun r0 a => ⟨R, s, a⟩) (fun _ _ h => h) (s _ h)
theorem fo_w_rewritten_21  {Q : Int → iST → Prop} {u : iST} : pw_rewritten_21b (fun u => pw_rewritten_21 Q u) Q u → pw_rewritten_21 Q u := fun h => ⟨fun u => pw_rewritten_21b (fun u => pw_rewritten_21 Q u) Q u, fun r0 a => mn_w_rewritten_21b (fun r0 a => un_w_rewritten_21 a) (fun _ _ h => h) a, h⟩
theorem wp_w_rewritten_21 {Q1 Q2 : Int → iST → Prop}  {u : iST} (hQ : ∀ r0 r1, Q1 r0 r1 → Q2 r0 r1) : w_rewritten_21 Q1 u → pw_rewritten_21 Q2 u := fun a => a (fun u => pw_rewritten_21 Q2 u) (fun u b => fo_w_rewritten_21 (wp_w_rewritten_21b (fun r0 a => a) hQ b))
def pw_rewritten (a0 : Int) (a1 : Int) (Q : Int → iST → Prop) (u : iST) : Prop :=
  sw (iI u 102 0) (fun u => 
  sw (iI u 104 0) (fun u => 
  ztp 0 (sw (iI u 111 0) (fun u => 
  pw_beginJob a0 a1 (fun u => 
  pw_rewritten_21 Q u) u))))
theorem cj_w_rewritten {Q1 Q2 Q3 : Int → iST → Prop}  {a0 : Int} {a1 : Int} {u : iST} (hQ : ∀ r0 r1, Q1 r0 r1 → Q2 r0 r1 → Q3 r0 r1) : w_rewritten a0 a1 Q1 u → pw_rewritten a0 a1 Q2 u → w_rewritten a0 a1 Q3 u := (sw_cj fun _ => (sw_cj fun _ => (zt_cj (sw_cj fun _ => (cj_w_beginJob (fun _ => (cj_w_rewritten_21  hQ)))))))
theorem mn_w_rewritten {Q1 Q2 : Int → iST → Prop}  {a0 : Int} {a1 : Int} {u : iST} (hQ : ∀ r0 r1, Q1 r0 r1 → Q2 r0 r1) : pw_rewritten a0 a1 Q1 u → pw_rewritten a0 a1 Q2 u := (sw_mn fun _ => (sw_mn fun _ => (zt_mn (sw_mn fun _ => (mn_w_beginJob (fun _ => (mn_w_rewritten_21  hQ)))))))
theorem wp_w_rewritten {Q1 Q2 : Int → iST → Prop}  {a0 : Int} {a1 : Int} {u : iST} (hQ : ∀ r0 r1, Q1 r0 r1 → Q2 r0 r1) : w_rewritten a0 a1 Q1 u → pw_rewritten a0 a1 Q2 u := (sw_wp fun _ => (sw_wp fun _ => (zt_wp (sw_wp fun _ => (wp_w_beginJob (fun _ => (wp_w_rewritten_21  hQ)))))))
def pw_put_2b (R2 : Int → Int → iST → Prop) (Q : iST → Prop) (x1 : Int) (x2 : Int) (u : iST) : Prop :=
  rd (u.1 122) (fun v1 => 
  br (v1 ≤ x2) (
    rd (u.1 122) (fun v2 => 
    bdp v2 1200 (sw (iA u 121 v2 x1) (fun u => 
    rd (u.1 122) (fun v3 => 
    ovp (v3 + 1) (
    sw (iI u 122 (v3 + 1)) (fun u => 
    Q u))))))) (
    bdp x2 1200 (rd (u.2.1 121 x2) (fun v5 => 
    br (v5 ≠ x1) (
      ovp (x2 + 1) (
      R2 x1 (x2 + 1) u)) (
      Q u)))))
theorem cj_w_put_2b {Q1 Q2 Q3 : iST → Prop} {R21 R22 R23 : Int → Int → iST → Prop} {x1 : Int} {x2 : Int} {u : iST} (hR2 : ∀ r0 r1 r2, R21 r0 r1 r2 → R22 r0 r1 r2 → R23 r0 r1 r2) (hQ : ∀ r0, Q1 r0 → Q2 r0 → Q3 r0) : w_put_2b R21 Q1 x1 x2 u → pw_put_2b R22 Q2 x1 x2 u → w_put_2b R23 Q3 x1 x2 u := (rd_cj fun _ => (br_cj (rd_cj fun _ => (bd_cj (sw_cj fun _ => (rd_cj fun _ => (ov_cj (sw_cj fun _ => (hQ _))))))) (bd_cj (rd_cj fun _ => (br_cj (ov_cj (hR2 _ _ _)) (hQ _))))))
theorem mn_w_put_2b {Q1 Q2 : iST → Prop} {R21 R22 : Int → Int → iST → Prop} {x1 : Int} {x2 : Int} {u : iST} (hR2 : ∀ r0 r1 r2, R21 r0 r1 r2 → R22 r0 r1 r2) (hQ : ∀ r0, Q1 r0 → Q2 r0) : pw_put_2b R21 Q1 x1 x2 u → pw_put_2b R22 Q2 x1 x2 u := (rd_mn fun _ => (br_mn (rd_mn fun _ => (bd_mn (sw_mn fun _ => (rd_mn fun _ => (ov_mn (sw_mn fun _ => (hQ _))))))) (bd_mn (rd_mn fun _ => (br_mn (ov_mn (hR2 _ _ _)) (hQ _))))))
theorem wp_w_put_2b {Q1 Q2 : iST → Prop} {R21 R22 : Int → Int → iST → Prop} {x1 : Int} {x2 : Int} {u : iST} (hR2 : ∀ r0 r1 r2, R21 r0 r1 r2 → R22 r0 r1 r2) (hQ : ∀ r0, Q1 r0 → Q2 r0) : w_put_2b R21 Q1 x1 x2 u → pw_put_2b R22 Q2 x1 x2 u := (rd_wp fun _ => (br_wp (rd_wp fun _ => (bd_wp (sw_wp fun _ => (rd_wp fun _ => (ov_wp (sw_wp fun _ => (hQ _))))))) (bd_wp (rd_wp fun _ => (br_wp (ov_wp (hR2 _ _ _)) (hQ _))))))
def pw_put_2 (Q : iST → Prop) (x1 : Int) (x2 : Int) (u : iST) : Prop := ∃ R2 : Int → Int → iST → Prop, (∀ (x1 : Int) (x2 : Int) (u : iST), R2 x1 x2 u → pw_put_2b R2 Q x1 x2 u) ∧ R2 x1 x2 u
theorem cj_w_put_2 {Q1 Q2 Q3 : iST → Prop}  {x1 : Int} {x2 : Int} {u : iST} (hQ : ∀ r0, Q1 r0 → Q2 r0 → Q3 r0) : w_put_2 Q1 x1 x2 u → pw_put_2 Q2 x1 x2 u → w_put_2 Q3 x1 x2 u := by
  intro a b R3 c3
  obtain ⟨R2, c2, b2⟩ := b
  exact a (fun r0 r1 r2 => R2 r0 r1 r2 → R3 r0 r1 r2) (fun r0 r1 r2 a b => c3 r0 r1 r2 (cj_w_put_2b (fun r0 r1 r2 a b => a b) hQ a (c2 r0 r1 r2 b))) b2
theorem pw_put_2_i  {Q : iST → Prop} {x1 : Int} {x2 : Int} {u : iST} (I : Int → Int → iST → Prop) (s : ∀ (x1 : Int) (x2 : Int) (u : iST), I x1 x2 u → pw_put_2b I Q x1 x2 u) (h : I x1 x2 u) : pw_put_2 Q x1 x2 u := ⟨I, s, h⟩
theorem mn_w_put_2 {Q1 Q2 : iST → Prop}  {x1 : Int} {x2 : Int} {u : iST} (hQ : ∀ r0, Q1 r0 → Q2 r0) : pw_put_2 Q1 x1 x2 u → pw_put_2 Q2 x1 x2 u := fun ⟨R, s, h⟩ => ⟨R, fun r0 r1 r2 a => mn_w_put_2b (fun r0 r1 r2 a => a) hQ (s r0 r1 r2 a), h⟩
theorem un_w_put_2  {Q : iST → Prop} {x1 : Int} {x2 : Int} {u : iST} : pw_put_2 Q x1 x2 u → pw_put_2b (fun x1 x2 u => pw_put_2 Q x1 x2 u) Q x1 x2 u := fun ⟨R, s, h⟩ => mn_w_put_2b (fun r0 r1 r2 a => ⟨R, s, a⟩) (fun _ h => h) (s _ _ _ h)
theorem fo_w_put_2  {Q : iST → Prop} {x1 : Int} {x2 : Int} {u : iST} : pw_put_2b (fun x1 x2 u => pw_put_2 Q x1 x2 u) Q x1 x2 u → pw_put_2 Q x1 x2 u := fun h => ⟨fun x1 x2 u => pw_put_2b (fun x1 x2 u => pw_put_2 Q x1 x2 u) Q x1 x2 u, fun r0 r1 r2 a => mn_w_put_2b (fun r0 r1 r2 a => un_w_put_2 a) (fun _ h => h) a, h⟩
theorem wp_w_put_2 {Q1 Q2 : iST → Prop}  {x1 : Int} {x2 : Int} {u : iST} (hQ : ∀ r0, Q1 r0 → Q2 r0) : w_put_2 Q1 x1 x2 u → pw_put_2 Q2 x1 x2 u := fun a => a (fun x1 x2 u => pw_put_2 Q2 x1 x2 u) (fun x1 x2 u b => fo_w_put_2 (wp_w_put_2b (fun r0 r1 r2 a => a) hQ b))
def pw_put (a0 : Int) (Q : iST → Prop) (u : iST) : Prop :=
  pw_put_2 Q a0 0 u
theorem cj_w_put {Q1 Q2 Q3 : iST → Prop}  {a0 : Int} {u : iST} (hQ : ∀ r0, Q1 r0 → Q2 r0 → Q3 r0) : w_put a0 Q1 u → pw_put a0 Q2 u → w_put a0 Q3 u := (cj_w_put_2  hQ)
theorem mn_w_put {Q1 Q2 : iST → Prop}  {a0 : Int} {u : iST} (hQ : ∀ r0, Q1 r0 → Q2 r0) : pw_put a0 Q1 u → pw_put a0 Q2 u := (mn_w_put_2  hQ)
theorem wp_w_put {Q1 Q2 : iST → Prop}  {a0 : Int} {u : iST} (hQ : ∀ r0, Q1 r0 → Q2 r0) : w_put a0 Q1 u → pw_put a0 Q2 u := (wp_w_put_2  hQ)
def pw_bounded_47 (Q : iST → Prop) (u : iST) : Prop :=
  pw_fail 4 (fun u => 
  Q u) u
theorem cj_w_bounded_47 {Q1 Q2 Q3 : iST → Prop}  {u : iST} (hQ : ∀ r0, Q1 r0 → Q2 r0 → Q3 r0) : w_bounded_47 Q1 u → pw_bounded_47 Q2 u → w_bounded_47 Q3 u := (cj_w_fail (fun _ => (hQ _)))
theorem mn_w_bounded_47 {Q1 Q2 : iST → Prop}  {u : iST} (hQ : ∀ r0, Q1 r0 → Q2 r0) : pw_bounded_47 Q1 u → pw_bounded_47 Q2 u := (mn_w_fail (fun _ => (hQ _)))
theorem wp_w_bounded_47 {Q1 Q2 : iST → Prop}  {u : iST} (hQ : ∀ r0, Q1 r0 → Q2 r0) : w_bounded_47 Q1 u → pw_bounded_47 Q2 u := (wp_w_fail (fun _ => (hQ _)))
def pw_bounded_4b (R4 : Int → Int → iST → Prop) (Q : iST → Prop) (x1 : Int) (x2 : Int) (u : iST) : Prop :=
  rd (u.1 122) (fun v1 => 
  br (v1 ≤ x2) (
    rd (u.1 122) (fun v2 => 
    br (30 < v2) (
      pw_bounded_47 Q u) (
      br (x1 ≤ 400) (
        Q u) (
        pw_bounded_47 Q u)))) (
    bdp x2 1200 (rd (u.2.1 121 x2) (fun v4 => 
    pw_sizeOf v4 (fun v5 u => 
    ovp (x1 + v5) (
    ovp (x2 + 1) (
    R4 (x1 + v5) (x2 + 1) u))) u))))
theorem cj_w_bounded_4b {Q1 Q2 Q3 : iST → Prop} {R41 R42 R43 : Int → Int → iST → Prop} {x1 : Int} {x2 : Int} {u : iST} (hR4 : ∀ r0 r1 r2, R41 r0 r1 r2 → R42 r0 r1 r2 → R43 r0 r1 r2) (hQ : ∀ r0, Q1 r0 → Q2 r0 → Q3 r0) : w_bounded_4b R41 Q1 x1 x2 u → pw_bounded_4b R42 Q2 x1 x2 u → w_bounded_4b R43 Q3 x1 x2 u := (rd_cj fun _ => (br_cj (rd_cj fun _ => (br_cj (cj_w_bounded_47  hQ) (br_cj (hQ _) (cj_w_bounded_47  hQ)))) (bd_cj (rd_cj fun _ => (cj_w_sizeOf (fun _ _ => (ov_cj (ov_cj (hR4 _ _ _)))))))))
theorem mn_w_bounded_4b {Q1 Q2 : iST → Prop} {R41 R42 : Int → Int → iST → Prop} {x1 : Int} {x2 : Int} {u : iST} (hR4 : ∀ r0 r1 r2, R41 r0 r1 r2 → R42 r0 r1 r2) (hQ : ∀ r0, Q1 r0 → Q2 r0) : pw_bounded_4b R41 Q1 x1 x2 u → pw_bounded_4b R42 Q2 x1 x2 u := (rd_mn fun _ => (br_mn (rd_mn fun _ => (br_mn (mn_w_bounded_47  hQ) (br_mn (hQ _) (mn_w_bounded_47  hQ)))) (bd_mn (rd_mn fun _ => (mn_w_sizeOf (fun _ _ => (ov_mn (ov_mn (hR4 _ _ _)))))))))
theorem wp_w_bounded_4b {Q1 Q2 : iST → Prop} {R41 R42 : Int → Int → iST → Prop} {x1 : Int} {x2 : Int} {u : iST} (hR4 : ∀ r0 r1 r2, R41 r0 r1 r2 → R42 r0 r1 r2) (hQ : ∀ r0, Q1 r0 → Q2 r0) : w_bounded_4b R41 Q1 x1 x2 u → pw_bounded_4b R42 Q2 x1 x2 u := (rd_wp fun _ => (br_wp (rd_wp fun _ => (br_wp (wp_w_bounded_47  hQ) (br_wp (hQ _) (wp_w_bounded_47  hQ)))) (bd_wp (rd_wp fun _ => (wp_w_sizeOf (fun _ _ => (ov_wp (ov_wp (hR4 _ _ _)))))))))
def pw_bounded_4 (Q : iST → Prop) (x1 : Int) (x2 : Int) (u : iST) : Prop := ∃ R4 : Int → Int → iST → Prop, (∀ (x1 : Int) (x2 : Int) (u : iST), R4 x1 x2 u → pw_bounded_4b R4 Q x1 x2 u) ∧ R4 x1 x2 u
theorem cj_w_bounded_4 {Q1 Q2 Q3 : iST → Prop}  {x1 : Int} {x2 : Int} {u : iST} (hQ : ∀ r0, Q1 r0 → Q2 r0 → Q3 r0) : w_bounded_4 Q1 x1 x2 u → pw_bounded_4 Q2 x1 x2 u → w_bounded_4 Q3 x1 x2 u := by
  intro a b R3 c3
  obtain ⟨R2, c2, b2⟩ := b
  exact a (fun r0 r1 r2 => R2 r0 r1 r2 → R3 r0 r1 r2) (fun r0 r1 r2 a b => c3 r0 r1 r2 (cj_w_bounded_4b (fun r0 r1 r2 a b => a b) hQ a (c2 r0 r1 r2 b))) b2
theorem pw_bounded_4_i  {Q : iST → Prop} {x1 : Int} {x2 : Int} {u : iST} (I : Int → Int → iST → Prop) (s : ∀ (x1 : Int) (x2 : Int) (u : iST), I x1 x2 u → pw_bounded_4b I Q x1 x2 u) (h : I x1 x2 u) : pw_bounded_4 Q x1 x2 u := ⟨I, s, h⟩
theorem mn_w_bounded_4 {Q1 Q2 : iST → Prop}  {x1 : Int} {x2 : Int} {u : iST} (hQ : ∀ r0, Q1 r0 → Q2 r0) : pw_bounded_4 Q1 x1 x2 u → pw_bounded_4 Q2 x1 x2 u := fun ⟨R, s, h⟩ => ⟨R, fun r0 r1 r2 a => mn_w_bounded_4b (fun r0 r1 r2 a => a) hQ (s r0 r1 r2 a), h⟩
theorem un_w_bounded_4  {Q : iST → Prop} {x1 : Int} {x2 : Int} {u : iST} : pw_bounded_4 Q x1 x2 u → pw_bounded_4b (fun x1 x2 u => pw_bounded_4 Q x1 x2 u) Q x1 x2 u := fun ⟨R, s, h⟩ => mn_w_bounded_4b (fun r0 r1 r2 a => ⟨R, s, a⟩) (fun _ h => h) (s _ _ _ h)
theorem fo_w_bounded_4  {Q : iST → Prop} {x1 : Int} {x2 : Int} {u : iST} : pw_bounded_4b (fun x1 x2 u => pw_bounded_4 Q x1 x2 u) Q x1 x2 u → pw_bounded_4 Q x1 x2 u := fun h => ⟨fun x1 x2 u => pw_bounded_4b (fun x1 x2 u => pw_bounded_4 Q x1 x2 u) Q x1 x2 u, fun r0 r1 r2 a => mn_w_bounded_4b (fun r0 r1 r2 a => un_w_bounded_4 a) (fun _ h => h) a, h⟩
theorem wp_w_bounded_4 {Q1 Q2 : iST → Prop}  {x1 : Int} {x2 : Int} {u : iST} (hQ : ∀ r0, Q1 r0 → Q2 r0) : w_bounded_4 Q1 x1 x2 u → pw_bounded_4 Q2 x1 x2 u := fun a => a (fun x1 x2 u => pw_bounded_4 Q2 x1 x2 u) (fun x1 x2 u b => fo_w_bounded_4 (wp_w_bounded_4b (fun r0 r1 r2 a => a) hQ b))
def pw_bounded (Q : iST → Prop) (u : iST) : Prop :=
  pw_bounded_4 Q 0 0 u
theorem cj_w_bounded {Q1 Q2 Q3 : iST → Prop}  {u : iST} (hQ : ∀ r0, Q1 r0 → Q2 r0 → Q3 r0) : w_bounded Q1 u → pw_bounded Q2 u → w_bounded Q3 u := (cj_w_bounded_4  hQ)
theorem mn_w_bounded {Q1 Q2 : iST → Prop}  {u : iST} (hQ : ∀ r0, Q1 r0 → Q2 r0) : pw_bounded Q1 u → pw_bounded Q2 u := (mn_w_bounded_4  hQ)
theorem wp_w_bounded {Q1 Q2 : iST → Prop}  {u : iST} (hQ : ∀ r0, Q1 r0 → Q2 r0) : w_bounded Q1 u → pw_bounded Q2 u := (wp_w_bounded_4  hQ)
def pw_row_15b (R15 : Int → Int → iST → Prop) (Q : Int → iST → Prop) (x1 : Int) (x2 : Int) (u : iST) : Prop :=
  rd (u.1 122) (fun v3 => 
  br (v3 ≤ x2) (
    rd (u.1 117) (fun v4 => 
    rd (u.1 122) (fun v5 => 
    bdp v4 2300 (sw (iA u 115 v4 v5) (fun u => 
    rd (u.1 117) (fun v6 => 
    bdp v6 2300 (sw (iA u 116 v6 x1) (fun u => 
    rd (u.1 117) (fun v7 => 
    ovp (v7 + 1) (
    sw (iI u 117 (v7 + 1)) (fun u => 
    rd (u.1 117) (fun v9 => 
    ovp (v9 - 1) (
    Q (v9 - 1) u))))))))))))) (
    rd (u.1 117) (fun v11 => 
    ovp (30 * v11) (
    ovp ((30 * v11) + x2) (
    bdp x2 1200 (rd (u.2.1 121 x2) (fun v14 => 
    bdp ((30 * v11) + x2) 69000 (sw (iA u 114 ((30 * v11) + x2) v14) (fun u => 
    ovp (x2 + 1) (
    R15 x1 (x2 + 1) u))))))))))
theorem cj_w_row_15b {Q1 Q2 Q3 : Int → iST → Prop} {R151 R152 R153 : Int → Int → iST → Prop} {x1 : Int} {x2 : Int} {u : iST} (hR15 : ∀ r0 r1 r2, R151 r0 r1 r2 → R152 r0 r1 r2 → R153 r0 r1 r2) (hQ : ∀ r0 r1, Q1 r0 r1 → Q2 r0 r1 → Q3 r0 r1) : w_row_15b R151 Q1 x1 x2 u → pw_row_15b R152 Q2 x1 x2 u → w_row_15b R153 Q3 x1 x2 u := (rd_cj fun _ => (br_cj (rd_cj fun _ => (rd_cj fun _ => (bd_cj (sw_cj fun _ => (rd_cj fun _ => (bd_cj (sw_cj fun _ => (rd_cj fun _ => (ov_cj (sw_cj fun _ => (rd_cj fun _ => (ov_cj (hQ _ _))))))))))))) (rd_cj fun _ => (ov_cj (ov_cj (bd_cj (rd_cj fun _ => (bd_cj (sw_cj fun _ => (ov_cj (hR15 _ _ _)))))))))))
theorem mn_w_row_15b {Q1 Q2 : Int → iST → Prop} {R151 R152 : Int → Int → iST → Prop} {x1 : Int} {x2 : Int} {u : iST} (hR15 : ∀ r0 r1 r2, R151 r0 r1 r2 → R152 r0 r1 r2) (hQ : ∀ r0 r1, Q1 r0 r1 → Q2 r0 r1) : pw_row_15b R151 Q1 x1 x2 u → pw_row_15b R152 Q2 x1 x2 u := (rd_mn fun _ => (br_mn (rd_mn fun _ => (rd_mn fun _ => (bd_mn (sw_mn fun _ => (rd_mn fun _ => (bd_mn (sw_mn fun _ => (rd_mn fun _ => (ov_mn (sw_mn fun _ => (rd_mn fun _ => (ov_mn (hQ _ _))))))))))))) (rd_mn fun _ => (ov_mn (ov_mn (bd_mn (rd_mn fun _ => (bd_mn (sw_mn fun _ => (ov_mn (hR15 _ _ _)))))))))))
theorem wp_w_row_15b {Q1 Q2 : Int → iST → Prop} {R151 R152 : Int → Int → iST → Prop} {x1 : Int} {x2 : Int} {u : iST} (hR15 : ∀ r0 r1 r2, R151 r0 r1 r2 → R152 r0 r1 r2) (hQ : ∀ r0 r1, Q1 r0 r1 → Q2 r0 r1) : w_row_15b R151 Q1 x1 x2 u → pw_row_15b R152 Q2 x1 x2 u := (rd_wp fun _ => (br_wp (rd_wp fun _ => (rd_wp fun _ => (bd_wp (sw_wp fun _ => (rd_wp fun _ => (bd_wp (sw_wp fun _ => (rd_wp fun _ => (ov_wp (sw_wp fun _ => (rd_wp fun _ => (ov_wp (hQ _ _))))))))))))) (rd_wp fun _ => (ov_wp (ov_wp (bd_wp (rd_wp fun _ => (bd_wp (sw_wp fun _ => (ov_wp (hR15 _ _ _)))))))))))
def pw_row_15 (Q : Int → iST → Prop) (x1 : Int) (x2 : Int) (u : iST) : Prop := ∃ R15 : Int → Int → iST → Prop, (∀ (x1 : Int) (x2 : Int) (u : iST), R15 x1 x2 u → pw_row_15b R15 Q x1 x2 u) ∧ R15 x1 x2 u
theorem cj_w_row_15 {Q1 Q2 Q3 : Int → iST → Prop}  {x1 : Int} {x2 : Int} {u : iST} (hQ : ∀ r0 r1, Q1 r0 r1 → Q2 r0 r1 → Q3 r0 r1) : w_row_15 Q1 x1 x2 u → pw_row_15 Q2 x1 x2 u → w_row_15 Q3 x1 x2 u := by
  intro a b R3 c3
  obtain ⟨R2, c2, b2⟩ := b
  exact a (fun r0 r1 r2 => R2 r0 r1 r2 → R3 r0 r1 r2) (fun r0 r1 r2 a b => c3 r0 r1 r2 (cj_w_row_15b (fun r0 r1 r2 a b => a b) hQ a (c2 r0 r1 r2 b))) b2
theorem pw_row_15_i  {Q : Int → iST → Prop} {x1 : Int} {x2 : Int} {u : iST} (I : Int → Int → iST → Prop) (s : ∀ (x1 : Int) (x2 : Int) (u : iST), I x1 x2 u → pw_row_15b I Q x1 x2 u) (h : I x1 x2 u) : pw_row_15 Q x1 x2 u := ⟨I, s, h⟩
theorem mn_w_row_15 {Q1 Q2 : Int → iST → Prop}  {x1 : Int} {x2 : Int} {u : iST} (hQ : ∀ r0 r1, Q1 r0 r1 → Q2 r0 r1) : pw_row_15 Q1 x1 x2 u → pw_row_15 Q2 x1 x2 u := fun ⟨R, s, h⟩ => ⟨R, fun r0 r1 r2 a => mn_w_row_15b (fun r0 r1 r2 a => a) hQ (s r0 r1 r2 a), h⟩
theorem un_w_row_15  {Q : Int → iST → Prop} {x1 : Int} {x2 : Int} {u : iST} : pw_row_15 Q x1 x2 u → pw_row_15b (fun x1 x2 u => pw_row_15 Q x1 x2 u) Q x1 x2 u := fun ⟨R, s, h⟩ => mn_w_row_15b (fun r0 r1 r2 a => ⟨R, s, a⟩) (fun _ _ h => h) (s _ _ _ h)
theorem fo_w_row_15  {Q : Int → iST → Prop} {x1 : Int} {x2 : Int} {u : iST} : pw_row_15b (fun x1 x2 u => pw_row_15 Q x1 x2 u) Q x1 x2 u → pw_row_15 Q x1 x2 u := fun h => ⟨fun x1 x2 u => pw_row_15b (fun x1 x2 u => pw_row_15 Q x1 x2 u) Q x1 x2 u, fun r0 r1 r2 a => mn_w_row_15b (fun r0 r1 r2 a => un_w_row_15 a) (fun _ _ h => h) a, h⟩
theorem wp_w_row_15 {Q1 Q2 : Int → iST → Prop}  {x1 : Int} {x2 : Int} {u : iST} (hQ : ∀ r0 r1, Q1 r0 r1 → Q2 r0 r1) : w_row_15 Q1 x1 x2 u → pw_row_15 Q2 x1 x2 u := fun a => a (fun x1 x2 u => pw_row_15 Q2 x1 x2 u) (fun x1 x2 u b => fo_w_row_15 (wp_w_row_15b (fun r0 r1 r2 a => a) hQ b))
def pw_row (a0 : Int) (Q : Int → iST → Prop) (u : iST) : Prop :=
  pw_bounded (fun u => 
  rd (u.1 61) (fun v2 => 
  br (v2 = 0) (
    pw_row_15 Q a0 0 u) (
    Q 0 u))) u
theorem cj_w_row {Q1 Q2 Q3 : Int → iST → Prop}  {a0 : Int} {u : iST} (hQ : ∀ r0 r1, Q1 r0 r1 → Q2 r0 r1 → Q3 r0 r1) : w_row a0 Q1 u → pw_row a0 Q2 u → w_row a0 Q3 u := (cj_w_bounded (fun _ => (rd_cj fun _ => (br_cj (cj_w_row_15  hQ) (hQ _ _)))))
theorem mn_w_row {Q1 Q2 : Int → iST → Prop}  {a0 : Int} {u : iST} (hQ : ∀ r0 r1, Q1 r0 r1 → Q2 r0 r1) : pw_row a0 Q1 u → pw_row a0 Q2 u := (mn_w_bounded (fun _ => (rd_mn fun _ => (br_mn (mn_w_row_15  hQ) (hQ _ _)))))
theorem wp_w_row {Q1 Q2 : Int → iST → Prop}  {a0 : Int} {u : iST} (hQ : ∀ r0 r1, Q1 r0 r1 → Q2 r0 r1) : w_row a0 Q1 u → pw_row a0 Q2 u := (wp_w_bounded (fun _ => (rd_wp fun _ => (br_wp (wp_w_row_15  hQ) (hQ _ _)))))
def pw_isProved_47b (R5 : Int → Int → iST → Prop) (R47 : Int → Int → Int → Int → iST → Prop) (Q : Int → iST → Prop) (x1 : Int) (x2 : Int) (x3 : Int) (x4 : Int) (u : iST) : Prop :=
  ovp (30 * x1) (
  bdp x1 2300 (rd (u.2.1 115 x1) (fun v9 => 
  ovp ((30 * x1) + v9) (
  br (((30 * x1) + v9) ≤ x4) (
    ovp (x2 + 1) (
    R5 x1 (x2 + 1) u)) (
    bdp x4 69000 (rd (u.2.1 114 x4) (fun v12 => 
    pw_isCallOf v12 15 (fun v13 u => 
    br (v13 = 0) (
      ovp (x4 + 1) (
      R47 x1 x2 x3 (x4 + 1) u)) (
      bdp x4 69000 (rd (u.2.1 114 x4) (fun v15 => 
      bdp v15 452000 (rd (u.2.1 1 v15) (fun v16 => 
      bdp v16 452000 (rd (u.2.1 0 v16) (fun v17 => 
      br (v17 ≠ x3) (
        ovp (x4 + 1) (
        R47 x1 x2 x3 (x4 + 1) u)) (
        ztp 1 (Q 1 u)))))))))) u)))))))
theorem cj_w_isProved_47b {Q1 Q2 Q3 : Int → iST → Prop} {R51 R52 R53 : Int → Int → iST → Prop} {R471 R472 R473 : Int → Int → Int → Int → iST → Prop} {x1 : Int} {x2 : Int} {x3 : Int} {x4 : Int} {u : iST} (hR5 : ∀ r0 r1 r2, R51 r0 r1 r2 → R52 r0 r1 r2 → R53 r0 r1 r2) (hR47 : ∀ r0 r1 r2 r3 r4, R471 r0 r1 r2 r3 r4 → R472 r0 r1 r2 r3 r4 → R473 r0 r1 r2 r3 r4) (hQ : ∀ r0 r1, Q1 r0 r1 → Q2 r0 r1 → Q3 r0 r1) : w_isProved_47b R51 R471 Q1 x1 x2 x3 x4 u → pw_isProved_47b R52 R472 Q2 x1 x2 x3 x4 u → w_isProved_47b R53 R473 Q3 x1 x2 x3 x4 u := (ov_cj (bd_cj (rd_cj fun _ => (ov_cj (br_cj (ov_cj (hR5 _ _ _)) (bd_cj (rd_cj fun _ => (cj_w_isCallOf (fun _ _ => (br_cj (ov_cj (hR47 _ _ _ _ _)) (bd_cj (rd_cj fun _ => (bd_cj (rd_cj fun _ => (bd_cj (rd_cj fun _ => (br_cj (ov_cj (hR47 _ _ _ _ _)) (zt_cj (hQ _ _)))))))))))))))))))
theorem mn_w_isProved_47b {Q1 Q2 : Int → iST → Prop} {R51 R52 : Int → Int → iST → Prop} {R471 R472 : Int → Int → Int → Int → iST → Prop} {x1 : Int} {x2 : Int} {x3 : Int} {x4 : Int} {u : iST} (hR5 : ∀ r0 r1 r2, R51 r0 r1 r2 → R52 r0 r1 r2) (hR47 : ∀ r0 r1 r2 r3 r4, R471 r0 r1 r2 r3 r4 → R472 r0 r1 r2 r3 r4) (hQ : ∀ r0 r1, Q1 r0 r1 → Q2 r0 r1) : pw_isProved_47b R51 R471 Q1 x1 x2 x3 x4 u → pw_isProved_47b R52 R472 Q2 x1 x2 x3 x4 u := (ov_mn (bd_mn (rd_mn fun _ => (ov_mn (br_mn (ov_mn (hR5 _ _ _)) (bd_mn (rd_mn fun _ => (mn_w_isCallOf (fun _ _ => (br_mn (ov_mn (hR47 _ _ _ _ _)) (bd_mn (rd_mn fun _ => (bd_mn (rd_mn fun _ => (bd_mn (rd_mn fun _ => (br_mn (ov_mn (hR47 _ _ _ _ _)) (zt_mn (hQ _ _)))))))))))))))))))
theorem wp_w_isProved_47b {Q1 Q2 : Int → iST → Prop} {R51 R52 : Int → Int → iST → Prop} {R471 R472 : Int → Int → Int → Int → iST → Prop} {x1 : Int} {x2 : Int} {x3 : Int} {x4 : Int} {u : iST} (hR5 : ∀ r0 r1 r2, R51 r0 r1 r2 → R52 r0 r1 r2) (hR47 : ∀ r0 r1 r2 r3 r4, R471 r0 r1 r2 r3 r4 → R472 r0 r1 r2 r3 r4) (hQ : ∀ r0 r1, Q1 r0 r1 → Q2 r0 r1) : w_isProved_47b R51 R471 Q1 x1 x2 x3 x4 u → pw_isProved_47b R52 R472 Q2 x1 x2 x3 x4 u := (ov_wp (bd_wp (rd_wp fun _ => (ov_wp (br_wp (ov_wp (hR5 _ _ _)) (bd_wp (rd_wp fun _ => (wp_w_isCallOf (fun _ _ => (br_wp (ov_wp (hR47 _ _ _ _ _)) (bd_wp (rd_wp fun _ => (bd_wp (rd_wp fun _ => (bd_wp (rd_wp fun _ => (br_wp (ov_wp (hR47 _ _ _ _ _)) (zt_wp (hQ _ _)))))))))))))))))))
def pw_isProved_47 (R5 : Int → Int → iST → Prop) (Q : Int → iST → Prop) (x1 : Int) (x2 : Int) (x3 : Int) (x4 : Int) (u : iST) : Prop := ∃ R47 : Int → Int → Int → Int → iST → Prop, (∀ (x1 : Int) (x2 : Int) (x3 : Int) (x4 : Int) (u : iST), R47 x1 x2 x3 x4 u → pw_isProved_47b R5 R47 Q x1 x2 x3 x4 u) ∧ R47 x1 x2 x3 x4 u
theorem cj_w_isProved_47 {Q1 Q2 Q3 : Int → iST → Prop} {R51 R52 R53 : Int → Int → iST → Prop} {x1 : Int} {x2 : Int} {x3 : Int} {x4 : Int} {u : iST} (hR5 : ∀ r0 r1 r2, R51 r0 r1 r2 → R52 r0 r1 r2 → R53 r0 r1 r2) (hQ : ∀ r0 r1, Q1 r0 r1 → Q2 r0 r1 → Q3 r0 r1) : w_isProved_47 R51 Q1 x1 x2 x3 x4 u → pw_isProved_47 R52 Q2 x1 x2 x3 x4 u → w_isProved_47 R53 Q3 x1 x2 x3 x4 u := by
  intro a b R3 c3
  obtain ⟨R2, c2, b2⟩ := b
  exact a (fun r0 r1 r2 r3 r4 => R2 r0 r1 r2 r3 r4 → R3 r0 r1 r2 r3 r4) (fun r0 r1 r2 r3 r4 a b => c3 r0 r1 r2 r3 r4 (cj_w_isProved_47b hR5 (fun r0 r1 r2 r3 r4 a b => a b) hQ a (c2 r0 r1 r2 r3 r4 b))) b2
theorem pw_isProved_47_i {R5 : Int → Int → iST → Prop} {Q : Int → iST → Prop} {x1 : Int} {x2 : Int} {x3 : Int} {x4 : Int} {u : iST} (I : Int → Int → Int → Int → iST → Prop) (s : ∀ (x1 : Int) (x2 : Int) (x3 : Int) (x4 : Int) (u : iST), I x1 x2 x3 x4 u → pw_isProved_47b R5 I Q x1 x2 x3 x4 u) (h : I x1 x2 x3 x4 u) : pw_isProved_47 R5 Q x1 x2 x3 x4 u := ⟨I, s, h⟩
theorem mn_w_isProved_47 {Q1 Q2 : Int → iST → Prop} {R51 R52 : Int → Int → iST → Prop} {x1 : Int} {x2 : Int} {x3 : Int} {x4 : Int} {u : iST} (hR5 : ∀ r0 r1 r2, R51 r0 r1 r2 → R52 r0 r1 r2) (hQ : ∀ r0 r1, Q1 r0 r1 → Q2 r0 r1) : pw_isProved_47 R51 Q1 x1 x2 x3 x4 u → pw_isProved_47 R52 Q2 x1 x2 x3 x4 u := fun ⟨R, s, h⟩ => ⟨R, fun r0 r1 r2 r3 r4 a => mn_w_isProved_47b hR5 (fun r0 r1 r2 r3 r4 a => a) hQ (s r0 r1 r2 r3 r4 a), h⟩
theorem un_w_isProved_47 {R5 : Int → Int → iST → Prop} {Q : Int → iST → Prop} {x1 : Int} {x2 : Int} {x3 : Int} {x4 : Int} {u : iST} : pw_isProved_47 R5 Q x1 x2 x3 x4 u → pw_isProved_47b R5 (fun x1 x2 x3 x4 u => pw_isProved_47 R5 Q x1 x2 x3 x4 u) Q x1 x2 x3 x4 u := fun ⟨R, s, h⟩ => mn_w_isProved_47b (fun _ _ _ h => h) (fun r0 r1 r2 r3 r4 a => ⟨R, s, a⟩) (fun _ _ h => h) (s _ _ _ _ _ h)
theorem fo_w_isProved_47 {R5 : Int → Int → iST → Prop} {Q : Int → iST → Prop} {x1 : Int} {x2 : Int} {x3 : Int} {x4 : Int} {u : iST} : pw_isProved_47b R5 (fun x1 x2 x3 x4 u => pw_isProved_47 R5 Q x1 x2 x3 x4 u) Q x1 x2 x3 x4 u → pw_isProved_47 R5 Q x1 x2 x3 x4 u := fun h => ⟨fun x1 x2 x3 x4 u => pw_isProved_47b R5 (fun x1 x2 x3 x4 u => pw_isProved_47 R5 Q x1 x2 x3 x4 u) Q x1 x2 x3 x4 u, fun r0 r1 r2 r3 r4 a => mn_w_isProved_47b (fun _ _ _ h => h) (fun r0 r1 r2 r3 r4 a => un_w_isProved_47 a) (fun _ _ h => h) a, h⟩
theorem wp_w_isProved_47 {Q1 Q2 : Int → iST → Prop} {R51 R52 : Int → Int → iST → Prop} {x1 : Int} {x2 : Int} {x3 : Int} {x4 : Int} {u : iST} (hR5 : ∀ r0 r1 r2, R51 r0 r1 r2 → R52 r0 r1 r2) (hQ : ∀ r0 r1, Q1 r0 r1 → Q2 r0 r1) : w_isProved_47 R51 Q1 x1 x2 x3 x4 u → pw_isProved_47 R52 Q2 x1 x2 x3 x4 u := fun a => a (fun x1 x2 x3 x4 u => pw_isProved_47 R52 Q2 x1 x2 x3 x4 u) (fun x1 x2 x3 x4 u b => fo_w_isProved_47 (wp_w_isProved_47b hR5 (fun r0 r1 r2 r3 r4 a => a) hQ b))
def pw_isProved_41 (R5 : Int → Int → iST → Prop) (Q : Int → iST → Prop) (x1 : Int) (x2 : Int) (x3 : Int) (u : iST) : Prop :=
  ovp (30 * x1) (
  pw_isProved_47 R5 Q x1 x2 x3 (30 * x1) u)
theorem cj_w_isProved_41 {Q1 Q2 Q3 : Int → iST → Prop} {R51 R52 R53 : Int → Int → iST → Prop} {x1 : Int} {x2 : Int} {x3 : Int} {u : iST} (hR5 : ∀ r0 r1 r2, R51 r0 r1 r2 → R52 r0 r1 r2 → R53 r0 r1 r2) (hQ : ∀ r0 r1, Q1 r0 r1 → Q2 r0 r1 → Q3 r0 r1) : w_isProved_41 R51 Q1 x1 x2 x3 u → pw_isProved_41 R52 Q2 x1 x2 x3 u → w_isProved_41 R53 Q3 x1 x2 x3 u := (ov_cj (cj_w_isProved_47 hR5 hQ))
theorem mn_w_isProved_41 {Q1 Q2 : Int → iST → Prop} {R51 R52 : Int → Int → iST → Prop} {x1 : Int} {x2 : Int} {x3 : Int} {u : iST} (hR5 : ∀ r0 r1 r2, R51 r0 r1 r2 → R52 r0 r1 r2) (hQ : ∀ r0 r1, Q1 r0 r1 → Q2 r0 r1) : pw_isProved_41 R51 Q1 x1 x2 x3 u → pw_isProved_41 R52 Q2 x1 x2 x3 u := (ov_mn (mn_w_isProved_47 hR5 hQ))
theorem wp_w_isProved_41 {Q1 Q2 : Int → iST → Prop} {R51 R52 : Int → Int → iST → Prop} {x1 : Int} {x2 : Int} {x3 : Int} {u : iST} (hR5 : ∀ r0 r1 r2, R51 r0 r1 r2 → R52 r0 r1 r2) (hQ : ∀ r0 r1, Q1 r0 r1 → Q2 r0 r1) : w_isProved_41 R51 Q1 x1 x2 x3 u → pw_isProved_41 R52 Q2 x1 x2 x3 u := (ov_wp (wp_w_isProved_47 hR5 hQ))
def pw_isProved_5b (R5 : Int → Int → iST → Prop) (Q : Int → iST → Prop) (x1 : Int) (x2 : Int) (u : iST) : Prop :=
  ovp (30 * x1) (
  bdp x1 2300 (rd (u.2.1 115 x1) (fun v3 => 
  ovp ((30 * x1) + v3) (
  br (((30 * x1) + v3) ≤ x2) (
    ztp 0 (Q 0 u)) (
    bdp x2 69000 (rd (u.2.1 114 x2) (fun v5 => 
    pw_isConstant v5 (fun v6 u => 
    br (v6 = 0) (
      pw_isProved_41 R5 Q x1 x2 v5 u) (
      br (v5 = 0) (
        pw_isProved_41 R5 Q x1 x2 v5 u) (
        ztp 1 (Q 1 u)))) u)))))))
theorem cj_w_isProved_5b {Q1 Q2 Q3 : Int → iST → Prop} {R51 R52 R53 : Int → Int → iST → Prop} {x1 : Int} {x2 : Int} {u : iST} (hR5 : ∀ r0 r1 r2, R51 r0 r1 r2 → R52 r0 r1 r2 → R53 r0 r1 r2) (hQ : ∀ r0 r1, Q1 r0 r1 → Q2 r0 r1 → Q3 r0 r1) : w_isProved_5b R51 Q1 x1 x2 u → pw_isProved_5b R52 Q2 x1 x2 u → w_isProved_5b R53 Q3 x1 x2 u := (ov_cj (bd_cj (rd_cj fun _ => (ov_cj (br_cj (zt_cj (hQ _ _)) (bd_cj (rd_cj fun _ => (cj_w_isConstant (fun _ _ => (br_cj (cj_w_isProved_41 hR5 hQ) (br_cj (cj_w_isProved_41 hR5 hQ) (zt_cj (hQ _ _)))))))))))))
theorem mn_w_isProved_5b {Q1 Q2 : Int → iST → Prop} {R51 R52 : Int → Int → iST → Prop} {x1 : Int} {x2 : Int} {u : iST} (hR5 : ∀ r0 r1 r2, R51 r0 r1 r2 → R52 r0 r1 r2) (hQ : ∀ r0 r1, Q1 r0 r1 → Q2 r0 r1) : pw_isProved_5b R51 Q1 x1 x2 u → pw_isProved_5b R52 Q2 x1 x2 u := (ov_mn (bd_mn (rd_mn fun _ => (ov_mn (br_mn (zt_mn (hQ _ _)) (bd_mn (rd_mn fun _ => (mn_w_isConstant (fun _ _ => (br_mn (mn_w_isProved_41 hR5 hQ) (br_mn (mn_w_isProved_41 hR5 hQ) (zt_mn (hQ _ _)))))))))))))
theorem wp_w_isProved_5b {Q1 Q2 : Int → iST → Prop} {R51 R52 : Int → Int → iST → Prop} {x1 : Int} {x2 : Int} {u : iST} (hR5 : ∀ r0 r1 r2, R51 r0 r1 r2 → R52 r0 r1 r2) (hQ : ∀ r0 r1, Q1 r0 r1 → Q2 r0 r1) : w_isProved_5b R51 Q1 x1 x2 u → pw_isProved_5b R52 Q2 x1 x2 u := (ov_wp (bd_wp (rd_wp fun _ => (ov_wp (br_wp (zt_wp (hQ _ _)) (bd_wp (rd_wp fun _ => (wp_w_isConstant (fun _ _ => (br_wp (wp_w_isProved_41 hR5 hQ) (br_wp (wp_w_isProved_41 hR5 hQ) (zt_wp (hQ _ _)))))))))))))
def pw_isProved_5 (Q : Int → iST → Prop) (x1 : Int) (x2 : Int) (u : iST) : Prop := ∃ R5 : Int → Int → iST → Prop, (∀ (x1 : Int) (x2 : Int) (u : iST), R5 x1 x2 u → pw_isProved_5b R5 Q x1 x2 u) ∧ R5 x1 x2 u
theorem cj_w_isProved_5 {Q1 Q2 Q3 : Int → iST → Prop}  {x1 : Int} {x2 : Int} {u : iST} (hQ : ∀ r0 r1, Q1 r0 r1 → Q2 r0 r1 → Q3 r0 r1) : w_isProved_5 Q1 x1 x2 u → pw_isProved_5 Q2 x1 x2 u → w_isProved_5 Q3 x1 x2 u := by
  intro a b R3 c3
  obtain ⟨R2, c2, b2⟩ := b
  exact a (fun r0 r1 r2 => R2 r0 r1 r2 → R3 r0 r1 r2) (fun r0 r1 r2 a b => c3 r0 r1 r2 (cj_w_isProved_5b (fun r0 r1 r2 a b => a b) hQ a (c2 r0 r1 r2 b))) b2
theorem pw_isProved_5_i  {Q : Int → iST → Prop} {x1 : Int} {x2 : Int} {u : iST} (I : Int → Int → iST → Prop) (s : ∀ (x1 : Int) (x2 : Int) (u : iST), I x1 x2 u → pw_isProved_5b I Q x1 x2 u) (h : I x1 x2 u) : pw_isProved_5 Q x1 x2 u := ⟨I, s, h⟩
theorem mn_w_isProved_5 {Q1 Q2 : Int → iST → Prop}  {x1 : Int} {x2 : Int} {u : iST} (hQ : ∀ r0 r1, Q1 r0 r1 → Q2 r0 r1) : pw_isProved_5 Q1 x1 x2 u → pw_isProved_5 Q2 x1 x2 u := fun ⟨R, s, h⟩ => ⟨R, fun r0 r1 r2 a => mn_w_isProved_5b (fun r0 r1 r2 a => a) hQ (s r0 r1 r2 a), h⟩
theorem un_w_isProved_5  {Q : Int → iST → Prop} {x1 : Int} {x2 : Int} {u : iST} : pw_isProved_5 Q x1 x2 u → pw_isProved_5b (fun x1 x2 u => pw_isProved_5 Q x1 x2 u) Q x1 x2 u := fun ⟨R, s, h⟩ => mn_w_isProved_5b (fun r0 r1 r2 a => ⟨R, s, a⟩) (fun _ _ h => h) (s _ _ _ h)
theorem fo_w_isProved_5  {Q : Int → iST → Prop} {x1 : Int} {x2 : Int} {u : iST} : pw_isProved_5b (fun x1 x2 u => pw_isProved_5 Q x1 x2 u) Q x1 x2 u → pw_isProved_5 Q x1 x2 u := fun h => ⟨fun x1 x2 u => pw_isProved_5b (fun x1 x2 u => pw_isProved_5 Q x1 x2 u) Q x1 x2 u, fun r0 r1 r2 a => mn_w_isProved_5b (fun r0 r1 r2 a => un_w_isProved_5 a) (fun _ _ h => h) a, h⟩
theorem wp_w_isProved_5 {Q1 Q2 : Int → iST → Prop}  {x1 : Int} {x2 : Int} {u : iST} (hQ : ∀ r0 r1, Q1 r0 r1 → Q2 r0 r1) : w_isProved_5 Q1 x1 x2 u → pw_isProved_5 Q2 x1 x2 u := fun a => a (fun x1 x2 u => pw_isProved_5 Q2 x1 x2 u) (fun x1 x2 u b => fo_w_isProved_5 (wp_w_isProved_5b (fun r0 r1 r2 a => a) hQ b))
def pw_isProved (a0 : Int) (Q : Int → iST → Prop) (u : iST) : Prop :=
  ovp (30 * a0) (
  pw_isProved_5 Q a0 (30 * a0) u)
theorem cj_w_isProved {Q1 Q2 Q3 : Int → iST → Prop}  {a0 : Int} {u : iST} (hQ : ∀ r0 r1, Q1 r0 r1 → Q2 r0 r1 → Q3 r0 r1) : w_isProved a0 Q1 u → pw_isProved a0 Q2 u → w_isProved a0 Q3 u := (ov_cj (cj_w_isProved_5  hQ))
theorem mn_w_isProved {Q1 Q2 : Int → iST → Prop}  {a0 : Int} {u : iST} (hQ : ∀ r0 r1, Q1 r0 r1 → Q2 r0 r1) : pw_isProved a0 Q1 u → pw_isProved a0 Q2 u := (ov_mn (mn_w_isProved_5  hQ))
theorem wp_w_isProved {Q1 Q2 : Int → iST → Prop}  {a0 : Int} {u : iST} (hQ : ∀ r0 r1, Q1 r0 r1 → Q2 r0 r1) : w_isProved a0 Q1 u → pw_isProved a0 Q2 u := (ov_wp (wp_w_isProved_5  hQ))
def pw_removeAt_17b (R17 : Int → Int → iST → Prop) (Q : iST → Prop) (x1 : Int) (x3 : Int) (u : iST) : Prop :=
  ovp (30 * x1) (
  bdp x1 2300 (rd (u.2.1 115 x1) (fun v6 => 
  ovp ((30 * x1) + v6) (
  br (((30 * x1) + v6) ≤ x3) (
    Q u) (
    ovp (x3 + 1) (
    bdp (x3 + 1) 69000 (rd (u.2.1 114 (x3 + 1)) (fun v9 => 
    bdp x3 69000 (sw (iA u 114 x3 v9) (fun u => 
    ovp (x3 + 1) (
    R17 x1 (x3 + 1) u)))))))))))
theorem cj_w_removeAt_17b {Q1 Q2 Q3 : iST → Prop} {R171 R172 R173 : Int → Int → iST → Prop} {x1 : Int} {x3 : Int} {u : iST} (hR17 : ∀ r0 r1 r2, R171 r0 r1 r2 → R172 r0 r1 r2 → R173 r0 r1 r2) (hQ : ∀ r0, Q1 r0 → Q2 r0 → Q3 r0) : w_removeAt_17b R171 Q1 x1 x3 u → pw_removeAt_17b R172 Q2 x1 x3 u → w_removeAt_17b R173 Q3 x1 x3 u := (ov_cj (bd_cj (rd_cj fun _ => (ov_cj (br_cj (hQ _) (ov_cj (bd_cj (rd_cj fun _ => (bd_cj (sw_cj fun _ => (ov_cj (hR17 _ _ _))))))))))))
theorem mn_w_removeAt_17b {Q1 Q2 : iST → Prop} {R171 R172 : Int → Int → iST → Prop} {x1 : Int} {x3 : Int} {u : iST} (hR17 : ∀ r0 r1 r2, R171 r0 r1 r2 → R172 r0 r1 r2) (hQ : ∀ r0, Q1 r0 → Q2 r0) : pw_removeAt_17b R171 Q1 x1 x3 u → pw_removeAt_17b R172 Q2 x1 x3 u := (ov_mn (bd_mn (rd_mn fun _ => (ov_mn (br_mn (hQ _) (ov_mn (bd_mn (rd_mn fun _ => (bd_mn (sw_mn fun _ => (ov_mn (hR17 _ _ _))))))))))))
theorem wp_w_removeAt_17b {Q1 Q2 : iST → Prop} {R171 R172 : Int → Int → iST → Prop} {x1 : Int} {x3 : Int} {u : iST} (hR17 : ∀ r0 r1 r2, R171 r0 r1 r2 → R172 r0 r1 r2) (hQ : ∀ r0, Q1 r0 → Q2 r0) : w_removeAt_17b R171 Q1 x1 x3 u → pw_removeAt_17b R172 Q2 x1 x3 u := (ov_wp (bd_wp (rd_wp fun _ => (ov_wp (br_wp (hQ _) (ov_wp (bd_wp (rd_wp fun _ => (bd_wp (sw_wp fun _ => (ov_wp (hR17 _ _ _))))))))))))
def pw_removeAt_17 (Q : iST → Prop) (x1 : Int) (x3 : Int) (u : iST) : Prop := ∃ R17 : Int → Int → iST → Prop, (∀ (x1 : Int) (x3 : Int) (u : iST), R17 x1 x3 u → pw_removeAt_17b R17 Q x1 x3 u) ∧ R17 x1 x3 u
theorem cj_w_removeAt_17 {Q1 Q2 Q3 : iST → Prop}  {x1 : Int} {x3 : Int} {u : iST} (hQ : ∀ r0, Q1 r0 → Q2 r0 → Q3 r0) : w_removeAt_17 Q1 x1 x3 u → pw_removeAt_17 Q2 x1 x3 u → w_removeAt_17 Q3 x1 x3 u := by
  intro a b R3 c3
  obtain ⟨R2, c2, b2⟩ := b
  exact a (fun r0 r1 r2 => R2 r0 r1 r2 → R3 r0 r1 r2) (fun r0 r1 r2 a b => c3 r0 r1 r2 (cj_w_removeAt_17b (fun r0 r1 r2 a b => a b) hQ a (c2 r0 r1 r2 b))) b2
theorem pw_removeAt_17_i  {Q : iST → Prop} {x1 : Int} {x3 : Int} {u : iST} (I : Int → Int → iST → Prop) (s : ∀ (x1 : Int) (x3 : Int) (u : iST), I x1 x3 u → pw_removeAt_17b I Q x1 x3 u) (h : I x1 x3 u) : pw_removeAt_17 Q x1 x3 u := ⟨I, s, h⟩
theorem mn_w_removeAt_17 {Q1 Q2 : iST → Prop}  {x1 : Int} {x3 : Int} {u : iST} (hQ : ∀ r0, Q1 r0 → Q2 r0) : pw_removeAt_17 Q1 x1 x3 u → pw_removeAt_17 Q2 x1 x3 u := fun ⟨R, s, h⟩ => ⟨R, fun r0 r1 r2 a => mn_w_removeAt_17b (fun r0 r1 r2 a => a) hQ (s r0 r1 r2 a), h⟩
theorem un_w_removeAt_17  {Q : iST → Prop} {x1 : Int} {x3 : Int} {u : iST} : pw_removeAt_17 Q x1 x3 u → pw_removeAt_17b (fun x1 x3 u => pw_removeAt_17 Q x1 x3 u) Q x1 x3 u := fun ⟨R, s, h⟩ => mn_w_removeAt_17b (fun r0 r1 r2 a => ⟨R, s, a⟩) (fun _ h => h) (s _ _ _ h)
theorem fo_w_removeAt_17  {Q : iST → Prop} {x1 : Int} {x3 : Int} {u : iST} : pw_removeAt_17b (fun x1 x3 u => pw_removeAt_17 Q x1 x3 u) Q x1 x3 u → pw_removeAt_17 Q x1 x3 u := fun h => ⟨fun x1 x3 u => pw_removeAt_17b (fun x1 x3 u => pw_removeAt_17 Q x1 x3 u) Q x1 x3 u, fun r0 r1 r2 a => mn_w_removeAt_17b (fun r0 r1 r2 a => un_w_removeAt_17 a) (fun _ h => h) a, h⟩
theorem wp_w_removeAt_17 {Q1 Q2 : iST → Prop}  {x1 : Int} {x3 : Int} {u : iST} (hQ : ∀ r0, Q1 r0 → Q2 r0) : w_removeAt_17 Q1 x1 x3 u → pw_removeAt_17 Q2 x1 x3 u := fun a => a (fun x1 x3 u => pw_removeAt_17 Q2 x1 x3 u) (fun x1 x3 u b => fo_w_removeAt_17 (wp_w_removeAt_17b (fun r0 r1 r2 a => a) hQ b))
def pw_removeAt (a0 : Int) (a1 : Int) (Q : iST → Prop) (u : iST) : Prop :=
  bdp a0 2300 (rd (u.2.1 115 a0) (fun v1 => 
  ovp (v1 - 1) (
  bdp a0 2300 (sw (iA u 115 a0 (v1 - 1)) (fun u => 
  ovp (30 * a0) (
  ovp ((30 * a0) + a1) (
  pw_removeAt_17 Q a0 ((30 * a0) + a1) u)))))))
theorem cj_w_removeAt {Q1 Q2 Q3 : iST → Prop}  {a0 : Int} {a1 : Int} {u : iST} (hQ : ∀ r0, Q1 r0 → Q2 r0 → Q3 r0) : w_removeAt a0 a1 Q1 u → pw_removeAt a0 a1 Q2 u → w_removeAt a0 a1 Q3 u := (bd_cj (rd_cj fun _ => (ov_cj (bd_cj (sw_cj fun _ => (ov_cj (ov_cj (cj_w_removeAt_17  hQ))))))))
theorem mn_w_removeAt {Q1 Q2 : iST → Prop}  {a0 : Int} {a1 : Int} {u : iST} (hQ : ∀ r0, Q1 r0 → Q2 r0) : pw_removeAt a0 a1 Q1 u → pw_removeAt a0 a1 Q2 u := (bd_mn (rd_mn fun _ => (ov_mn (bd_mn (sw_mn fun _ => (ov_mn (ov_mn (mn_w_removeAt_17  hQ))))))))
theorem wp_w_removeAt {Q1 Q2 : iST → Prop}  {a0 : Int} {a1 : Int} {u : iST} (hQ : ∀ r0, Q1 r0 → Q2 r0) : w_removeAt a0 a1 Q1 u → pw_removeAt a0 a1 Q2 u := (bd_wp (rd_wp fun _ => (ov_wp (bd_wp (sw_wp fun _ => (ov_wp (ov_wp (wp_w_removeAt_17  hQ))))))))
def pw_changeTo_56b (R56 : Int → Int → Int → iST → Prop) (Q : Int → iST → Prop) (x1 : Int) (x3 : Int) (x4 : Int) (u : iST) : Prop :=
  bdp x1 2300 (rd (u.2.1 115 x1) (fun v4 => 
  br (v4 ≤ x4) (
    ztp 1 (Q 1 u)) (
    ovp (30 * x1) (
    ovp ((30 * x1) + x4) (
    bdp ((30 * x1) + x4) 69000 (rd (u.2.1 114 ((30 * x1) + x4)) (fun v7 => 
    br (v7 ≠ x3) (
      ovp (x4 + 1) (
      R56 x1 x3 (x4 + 1) u)) (
      pw_removeAt x1 x4 (fun u => 
      ovp (x4 + (-1)) (
      ovp ((x4 + (-1)) + 1) (
      R56 x1 x3 ((x4 + (-1)) + 1) u))) u))))))))
theorem cj_w_changeTo_56b {Q1 Q2 Q3 : Int → iST → Prop} {R561 R562 R563 : Int → Int → Int → iST → Prop} {x1 : Int} {x3 : Int} {x4 : Int} {u : iST} (hR56 : ∀ r0 r1 r2 r3, R561 r0 r1 r2 r3 → R562 r0 r1 r2 r3 → R563 r0 r1 r2 r3) (hQ : ∀ r0 r1, Q1 r0 r1 → Q2 r0 r1 → Q3 r0 r1) : w_changeTo_56b R561 Q1 x1 x3 x4 u → pw_changeTo_56b R562 Q2 x1 x3 x4 u → w_changeTo_56b R563 Q3 x1 x3 x4 u := (bd_cj (rd_cj fun _ => (br_cj (zt_cj (hQ _ _)) (ov_cj (ov_cj (bd_cj (rd_cj fun _ => (br_cj (ov_cj (hR56 _ _ _ _)) (cj_w_removeAt (fun _ => (ov_cj (ov_cj (hR56 _ _ _ _)))))))))))))
theorem mn_w_changeTo_56b {Q1 Q2 : Int → iST → Prop} {R561 R562 : Int → Int → Int → iST → Prop} {x1 : Int} {x3 : Int} {x4 : Int} {u : iST} (hR56 : ∀ r0 r1 r2 r3, R561 r0 r1 r2 r3 → R562 r0 r1 r2 r3) (hQ : ∀ r0 r1, Q1 r0 r1 → Q2 r0 r1) : pw_changeTo_56b R561 Q1 x1 x3 x4 u → pw_changeTo_56b R562 Q2 x1 x3 x4 u := (bd_mn (rd_mn fun _ => (br_mn (zt_mn (hQ _ _)) (ov_mn (ov_mn (bd_mn (rd_mn fun _ => (br_mn (ov_mn (hR56 _ _ _ _)) (mn_w_removeAt (fun _ => (ov_mn (ov_mn (hR56 _ _ _ _)))))))))))))
theorem wp_w_changeTo_56b {Q1 Q2 : Int → iST → Prop} {R561 R562 : Int → Int → Int → iST → Prop} {x1 : Int} {x3 : Int} {x4 : Int} {u : iST} (hR56 : ∀ r0 r1 r2 r3, R561 r0 r1 r2 r3 → R562 r0 r1 r2 r3) (hQ : ∀ r0 r1, Q1 r0 r1 → Q2 r0 r1) : w_changeTo_56b R561 Q1 x1 x3 x4 u → pw_changeTo_56b R562 Q2 x1 x3 x4 u := (bd_wp (rd_wp fun _ => (br_wp (zt_wp (hQ _ _)) (ov_wp (ov_wp (bd_wp (rd_wp fun _ => (br_wp (ov_wp (hR56 _ _ _ _)) (wp_w_removeAt (fun _ => (ov_wp (ov_wp (hR56 _ _ _ _)))))))))))))
def pw_changeTo_56 (Q : Int → iST → Prop) (x1 : Int) (x3 : Int) (x4 : Int) (u : iST) : Prop := ∃ R56 : Int → Int → Int → iST → Prop, (∀ (x1 : Int) (x3 : Int) (x4 : Int) (u : iST), R56 x1 x3 x4 u → pw_changeTo_56b R56 Q x1 x3 x4 u) ∧ R56 x1 x3 x4 u
theorem cj_w_changeTo_56 {Q1 Q2 Q3 : Int → iST → Prop}  {x1 : Int} {x3 : Int} {x4 : Int} {u : iST} (hQ : ∀ r0 r1, Q1 r0 r1 → Q2 r0 r1 → Q3 r0 r1) : w_changeTo_56 Q1 x1 x3 x4 u → pw_changeTo_56 Q2 x1 x3 x4 u → w_changeTo_56 Q3 x1 x3 x4 u := by
  intro a b R3 c3
  obtain ⟨R2, c2, b2⟩ := b
  exact a (fun r0 r1 r2 r3 => R2 r0 r1 r2 r3 → R3 r0 r1 r2 r3) (fun r0 r1 r2 r3 a b => c3 r0 r1 r2 r3 (cj_w_changeTo_56b (fun r0 r1 r2 r3 a b => a b) hQ a (c2 r0 r1 r2 r3 b))) b2
theorem pw_changeTo_56_i  {Q : Int → iST → Prop} {x1 : Int} {x3 : Int} {x4 : Int} {u : iST} (I : Int → Int → Int → iST → Prop) (s : ∀ (x1 : Int) (x3 : Int) (x4 : Int) (u : iST), I x1 x3 x4 u → pw_changeTo_56b I Q x1 x3 x4 u) (h : I x1 x3 x4 u) : pw_changeTo_56 Q x1 x3 x4 u := ⟨I, s, h⟩
theorem mn_w_changeTo_56 {Q1 Q2 : Int → iST → Prop}  {x1 : Int} {x3 : Int} {x4 : Int} {u : iST} (hQ : ∀ r0 r1, Q1 r0 r1 → Q2 r0 r1) : pw_changeTo_56 Q1 x1 x3 x4 u → pw_changeTo_56 Q2 x1 x3 x4 u := fun ⟨R, s, h⟩ => ⟨R, fun r0 r1 r2 r3 a => mn_w_changeTo_56b (fun r0 r1 r2 r3 a => a) hQ (s r0 r1 r2 r3 a), h⟩
theorem un_w_changeTo_56  {Q : Int → iST → Prop} {x1 : Int} {x3 : Int} {x4 : Int} {u : iST} : pw_changeTo_56 Q x1 x3 x4 u → pw_changeTo_56b (fun x1 x3 x4 u => pw_changeTo_56 Q x1 x3 x4 u) Q x1 x3 x4 u := fun ⟨R, s, h⟩ => mn_w_changeTo_56b (fun r0 r1 r2 r3 a => ⟨R, s, a⟩) (fun _ _ h => h) (s _ _ _ _ h)
theorem fo_w_changeTo_56  {Q : Int → iST → Prop} {x1 : Int} {x3 : Int} {x4 : Int} {u : iST} : pw_changeTo_56b (fun x1 x3 x4 u => pw_changeTo_56 Q x1 x3 x4 u) Q x1 x3 x4 u → pw_changeTo_56 Q x1 x3 x4 u := fun h => ⟨fun x1 x3 x4 u => pw_changeTo_56b (fun x1 x3 x4 u => pw_changeTo_56 Q x1 x3 x4 u) Q x1 x3 x4 u, fun r0 r1 r2 r3 a => mn_w_changeTo_56b (fun r0 r1 r2 r3 a => un_w_changeTo_56 a) (fun _ _ h => h) a, h⟩
theorem wp_w_changeTo_56 {Q1 Q2 : Int → iST → Prop}  {x1 : Int} {x3 : Int} {x4 : Int} {u : iST} (hQ : ∀ r0 r1, Q1 r0 r1 → Q2 r0 r1) : w_changeTo_56 Q1 x1 x3 x4 u → pw_changeTo_56 Q2 x1 x3 x4 u := fun a => a (fun x1 x3 x4 u => pw_changeTo_56 Q2 x1 x3 x4 u) (fun x1 x3 x4 u b => fo_w_changeTo_56 (wp_w_changeTo_56b (fun r0 r1 r2 r3 a => a) hQ b))
