def pv_9_write_7b (R7 : Int → Int → Int → Int → iST → Prop) (Q : iST → Prop) (x0 : Int) (x2 : Int) (x3 : Int) (x4 : Int) (u : iST) : Prop :=
  br ((slenI x0) ≤ x4) (
    Q u) (
    rd (u.2.1 54 x0) (fun v1 => 
    br ((slenI x0) ≤ v1) (
      Q u) (
      br (x3 = (-1)) (
        Q u) (
        pv_7_isQuoted x3 (fun v2 u => 
        br (v2 = 0) (
          pv_7_isPair x3 (fun v3 u => 
          br (v3 = 0) (
            pv_7_cellOf x3 (fun v4 u => 
            pv_9_putAtom x0 v4 (fun u => 
            pv_9_write_130 R7 Q x0 x2 (-1) x4 u) u) u) (
            pv_9_put x0 40 (fun u => 
            pv_7_right x3 (fun v23 u => 
            bdp x2 (slenI x0) (sw (iA u 56 (2000 * x0 + x2) v23) (fun u => 
            ovp (x2 + 1) (
            pv_7_left x3 (fun v25 u => 
            ovp (x4 + 1) (
            R7 x0 (x2 + 1) v25 (x4 + 1) u)) u)))) u) u)) u) (
          pv_9_put x0 39 (fun u => 
          pv_7_right x3 (fun v28 u => 
          pv_7_left v28 (fun v29 u => 
          ovp (x4 + 1) (
          R7 x0 x2 v29 (x4 + 1) u)) u) u) u)) u))))
theorem cj_v_9_write_7b {Q1 Q2 Q3 : iST → Prop} {R71 R72 R73 : Int → Int → Int → Int → iST → Prop} {x0 : Int} {x2 : Int} {x3 : Int} {x4 : Int} {u : iST} (hR7 : ∀ r0 r1 r2 r3 r4, R71 r0 r1 r2 r3 r4 → R72 r0 r1 r2 r3 r4 → R73 r0 r1 r2 r3 r4) (hQ : ∀ r0, Q1 r0 → Q2 r0 → Q3 r0) : v_9_write_7b R71 Q1 x0 x2 x3 x4 u → pv_9_write_7b R72 Q2 x0 x2 x3 x4 u → v_9_write_7b R73 Q3 x0 x2 x3 x4 u := (br_cj (hQ _) (rd_cj fun _ => (br_cj (hQ _) (br_cj (hQ _) (cj_v_7_isQuoted (fun _ _ => (br_cj (cj_v_7_isPair (fun _ _ => (br_cj (cj_v_7_cellOf (fun _ _ => (cj_v_9_putAtom (fun _ => (cj_v_9_write_130 hR7 hQ))))) (cj_v_9_put (fun _ => (cj_v_7_right (fun _ _ => (bd_cj (sw_cj fun _ => (ov_cj (cj_v_7_left (fun _ _ => (ov_cj (hR7 _ _ _ _ _)))))))))))))) (cj_v_9_put (fun _ => (cj_v_7_right (fun _ _ => (cj_v_7_left (fun _ _ => (ov_cj (hR7 _ _ _ _ _)))))))))))))))
theorem mn_v_9_write_7b {Q1 Q2 : iST → Prop} {R71 R72 : Int → Int → Int → Int → iST → Prop} {x0 : Int} {x2 : Int} {x3 : Int} {x4 : Int} {u : iST} (hR7 : ∀ r0 r1 r2 r3 r4, R71 r0 r1 r2 r3 r4 → R72 r0 r1 r2 r3 r4) (hQ : ∀ r0, Q1 r0 → Q2 r0) : pv_9_write_7b R71 Q1 x0 x2 x3 x4 u → pv_9_write_7b R72 Q2 x0 x2 x3 x4 u := (br_mn (hQ _) (rd_mn fun _ => (br_mn (hQ _) (br_mn (hQ _) (mn_v_7_isQuoted (fun _ _ => (br_mn (mn_v_7_isPair (fun _ _ => (br_mn (mn_v_7_cellOf (fun _ _ => (mn_v_9_putAtom (fun _ => (mn_v_9_write_130 hR7 hQ))))) (mn_v_9_put (fun _ => (mn_v_7_right (fun _ _ => (bd_mn (sw_mn fun _ => (ov_mn (mn_v_7_left (fun _ _ => (ov_mn (hR7 _ _ _ _ _)))))))))))))) (mn_v_9_put (fun _ => (mn_v_7_right (fun _ _ => (mn_v_7_left (fun _ _ => (ov_mn (hR7 _ _ _ _ _)))))))))))))))
theorem wp_v_9_write_7b {Q1 Q2 : iST → Prop} {R71 R72 : Int → Int → Int → Int → iST → Prop} {x0 : Int} {x2 : Int} {x3 : Int} {x4 : Int} {u : iST} (hR7 : ∀ r0 r1 r2 r3 r4, R71 r0 r1 r2 r3 r4 → R72 r0 r1 r2 r3 r4) (hQ : ∀ r0, Q1 r0 → Q2 r0) : v_9_write_7b R71 Q1 x0 x2 x3 x4 u → pv_9_write_7b R72 Q2 x0 x2 x3 x4 u := (br_wp (hQ _) (rd_wp fun _ => (br_wp (hQ _) (br_wp (hQ _) (wp_v_7_isQuoted (fun _ _ => (br_wp (wp_v_7_isPair (fun _ _ => (br_wp (wp_v_7_cellOf (fun _ _ => (wp_v_9_putAtom (fun _ => (wp_v_9_write_130 hR7 hQ))))) (wp_v_9_put (fun _ => (wp_v_7_right (fun _ _ => (bd_wp (sw_wp fun _ => (ov_wp (wp_v_7_left (fun _ _ => (ov_wp (hR7 _ _ _ _ _)))))))))))))) (wp_v_9_put (fun _ => (wp_v_7_right (fun _ _ => (wp_v_7_left (fun _ _ => (ov_wp (hR7 _ _ _ _ _)))))))))))))))
def pv_9_write_7 (Q : iST → Prop) (x0 : Int) (x2 : Int) (x3 : Int) (x4 : Int) (u : iST) : Prop := ∃ R7 : Int → Int → Int → Int → iST → Prop, (∀ (x0 : Int) (x2 : Int) (x3 : Int) (x4 : Int) (u : iST), R7 x0 x2 x3 x4 u → pv_9_write_7b R7 Q x0 x2 x3 x4 u) ∧ R7 x0 x2 x3 x4 u
theorem cj_v_9_write_7 {Q1 Q2 Q3 : iST → Prop}  {x0 : Int} {x2 : Int} {x3 : Int} {x4 : Int} {u : iST} (hQ : ∀ r0, Q1 r0 → Q2 r0 → Q3 r0) : v_9_write_7 Q1 x0 x2 x3 x4 u → pv_9_write_7 Q2 x0 x2 x3 x4 u → v_9_write_7 Q3 x0 x2 x3 x4 u := by
  intro a b R3 c3
  obtain ⟨R2, c2, b2⟩ := b
  exact a (fun r0 r1 r2 r3 r4 => R2 r0 r1 r2 r3 r4 → R3 r0 r1 r2 r3 r4) (fun r0 r1 r2 r3 r4 a b => c3 r0 r1 r2 r3 r4 (cj_v_9_write_7b (fun r0 r1 r2 r3 r4 a b => a b) hQ a (c2 r0 r1 r2 r3 r4 b))) b2
theorem pv_9_write_7_i  {Q : iST → Prop} {x0 : Int} {x2 : Int} {x3 : Int} {x4 : Int} {u : iST} (I : Int → Int → Int → Int → iST → Prop) (s : ∀ (x0 : Int) (x2 : Int) (x3 : Int) (x4 : Int) (u : iST), I x0 x2 x3 x4 u → pv_9_write_7b I Q x0 x2 x3 x4 u) (h : I x0 x2 x3 x4 u) : pv_9_write_7 Q x0 x2 x3 x4 u := ⟨I, s, h⟩
theorem mn_v_9_write_7 {Q1 Q2 : iST → Prop}  {x0 : Int} {x2 : Int} {x3 : Int} {x4 : Int} {u : iST} (hQ : ∀ r0, Q1 r0 → Q2 r0) : pv_9_write_7 Q1 x0 x2 x3 x4 u → pv_9_write_7 Q2 x0 x2 x3 x4 u := fun ⟨R, s, h⟩ => ⟨R, fun r0 r1 r2 r3 r4 a => mn_v_9_write_7b (fun r0 r1 r2 r3 r4 a => a) hQ (s r0 r1 r2 r3 r4 a), h⟩
theorem un_v_9_write_7  {Q : iST → Prop} {x0 : Int} {x2 : Int} {x3 : Int} {x4 : Int} {u : iST} : pv_9_write_7 Q x0 x2 x3 x4 u → pv_9_write_7b (fun x0 x2 x3 x4 u => pv_9_write_7 Q x0 x2 x3 x4 u) Q x0 x2 x3 x4 u := fun ⟨R, s, h⟩ => mn_v_9_write_7b (fun r0 r1 r2 r3 r4 a => ⟨R, s, a⟩) (fun _ h => h) (s _ _ _ _ _ h)
theorem fo_v_9_write_7  {Q : iST → Prop} {x0 : Int} {x2 : Int} {x3 : Int} {x4 : Int} {u : iST} : pv_9_write_7b (fun x0 x2 x3 x4 u => pv_9_write_7 Q x0 x2 x3 x4 u) Q x0 x2 x3 x4 u → pv_9_write_7 Q x0 x2 x3 x4 u := fun h => ⟨fun x0 x2 x3 x4 u => pv_9_write_7b (fun x0 x2 x3 x4 u => pv_9_write_7 Q x0 x2 x3 x4 u) Q x0 x2 x3 x4 u, fun r0 r1 r2 r3 r4 a => mn_v_9_write_7b (fun r0 r1 r2 r3 r4 a => un_v_9_write_7 a) (fun _ h => h) a, h⟩
theorem wp_v_9_write_7 {Q1 Q2 : iST → Prop}  {x0 : Int} {x2 : Int} {x3 : Int} {x4 : Int} {u : iST} (hQ : ∀ r0, Q1 r0 → Q2 r0) : v_9_write_7 Q1 x0 x2 x3 x4 u → pv_9_write_7 Q2 x0 x2 x3 x4 u := fun a => a (fun x0 x2 x3 x4 u => pv_9_write_7 Q2 x0 x2 x3 x4 u) (fun x0 x2 x3 x4 u b => fo_v_9_write_7 (wp_v_9_write_7b (fun r0 r1 r2 r3 r4 a => a) hQ b))
def pv_9_write (th : Int) (a0 : Int) (Q : iST → Prop) (u : iST) : Prop :=
  pv_9_write_7 Q th 0 a0 0 u
theorem cj_v_9_write {Q1 Q2 Q3 : iST → Prop}  {th : Int} {a0 : Int} {u : iST} (hQ : ∀ r0, Q1 r0 → Q2 r0 → Q3 r0) : v_9_write th a0 Q1 u → pv_9_write th a0 Q2 u → v_9_write th a0 Q3 u := (cj_v_9_write_7  hQ)
theorem mn_v_9_write {Q1 Q2 : iST → Prop}  {th : Int} {a0 : Int} {u : iST} (hQ : ∀ r0, Q1 r0 → Q2 r0) : pv_9_write th a0 Q1 u → pv_9_write th a0 Q2 u := (mn_v_9_write_7  hQ)
theorem wp_v_9_write {Q1 Q2 : iST → Prop}  {th : Int} {a0 : Int} {u : iST} (hQ : ∀ r0, Q1 r0 → Q2 r0) : v_9_write th a0 Q1 u → pv_9_write th a0 Q2 u := (wp_v_9_write_7  hQ)
def pv_6_compare_208 (Q : iST → Prop) (y0 : Int) (y1 : Int) (y2 : Int) (y3 : Int) (u : iST) : Prop :=
  ovp (y2 - y3) (
  bdp y1 17 (sw (iA u 51 (17 * y0 + y1) (y2 - y3)) (fun u => 
  Q u)))
theorem cj_v_6_compare_208 {Q1 Q2 Q3 : iST → Prop}  {y0 : Int} {y1 : Int} {y2 : Int} {y3 : Int} {u : iST} (hQ : ∀ r0, Q1 r0 → Q2 r0 → Q3 r0) : v_6_compare_208 Q1 y0 y1 y2 y3 u → pv_6_compare_208 Q2 y0 y1 y2 y3 u → v_6_compare_208 Q3 y0 y1 y2 y3 u := (ov_cj (bd_cj (sw_cj fun _ => (hQ _))))
theorem mn_v_6_compare_208 {Q1 Q2 : iST → Prop}  {y0 : Int} {y1 : Int} {y2 : Int} {y3 : Int} {u : iST} (hQ : ∀ r0, Q1 r0 → Q2 r0) : pv_6_compare_208 Q1 y0 y1 y2 y3 u → pv_6_compare_208 Q2 y0 y1 y2 y3 u := (ov_mn (bd_mn (sw_mn fun _ => (hQ _))))
theorem wp_v_6_compare_208 {Q1 Q2 : iST → Prop}  {y0 : Int} {y1 : Int} {y2 : Int} {y3 : Int} {u : iST} (hQ : ∀ r0, Q1 r0 → Q2 r0) : v_6_compare_208 Q1 y0 y1 y2 y3 u → pv_6_compare_208 Q2 y0 y1 y2 y3 u := (ov_wp (bd_wp (sw_wp fun _ => (hQ _))))
def pv_6_compare_191 (Q : iST → Prop) (x1 : Int) (x3 : Int) (x4 : Int) (y0 : Int) (y1 : Int) (y2 : Int) (u : iST) : Prop :=
  bdp y1 17 (sw (iA u 51 (17 * y0 + y1) y2) (fun u => 
  bdp 8 17 (rd (u.2.1 51 (17 * x1 + 8)) (fun v16 => 
  br (x4 ≤ x3) (
    pv_6_compare_208 Q x1 8 v16 1 u) (
    pv_6_compare_208 Q x1 8 v16 0 u)))))
theorem cj_v_6_compare_191 {Q1 Q2 Q3 : iST → Prop}  {x1 : Int} {x3 : Int} {x4 : Int} {y0 : Int} {y1 : Int} {y2 : Int} {u : iST} (hQ : ∀ r0, Q1 r0 → Q2 r0 → Q3 r0) : v_6_compare_191 Q1 x1 x3 x4 y0 y1 y2 u → pv_6_compare_191 Q2 x1 x3 x4 y0 y1 y2 u → v_6_compare_191 Q3 x1 x3 x4 y0 y1 y2 u := (bd_cj (sw_cj fun _ => (bd_cj (rd_cj fun _ => (br_cj (cj_v_6_compare_208  hQ) (cj_v_6_compare_208  hQ))))))
theorem mn_v_6_compare_191 {Q1 Q2 : iST → Prop}  {x1 : Int} {x3 : Int} {x4 : Int} {y0 : Int} {y1 : Int} {y2 : Int} {u : iST} (hQ : ∀ r0, Q1 r0 → Q2 r0) : pv_6_compare_191 Q1 x1 x3 x4 y0 y1 y2 u → pv_6_compare_191 Q2 x1 x3 x4 y0 y1 y2 u := (bd_mn (sw_mn fun _ => (bd_mn (rd_mn fun _ => (br_mn (mn_v_6_compare_208  hQ) (mn_v_6_compare_208  hQ))))))
theorem wp_v_6_compare_191 {Q1 Q2 : iST → Prop}  {x1 : Int} {x3 : Int} {x4 : Int} {y0 : Int} {y1 : Int} {y2 : Int} {u : iST} (hQ : ∀ r0, Q1 r0 → Q2 r0) : v_6_compare_191 Q1 x1 x3 x4 y0 y1 y2 u → pv_6_compare_191 Q2 x1 x3 x4 y0 y1 y2 u := (bd_wp (sw_wp fun _ => (bd_wp (rd_wp fun _ => (br_wp (wp_v_6_compare_208  hQ) (wp_v_6_compare_208  hQ))))))
def pv_6_compare_174 (Q : iST → Prop) (x1 : Int) (x3 : Int) (y0 : Int) (u : iST) : Prop :=
  br (y0 ≤ x3) (
    pv_6_compare_191 Q x1 x3 y0 x1 3 12 u) (
    pv_6_compare_191 Q x1 x3 y0 x1 3 14 u)
theorem cj_v_6_compare_174 {Q1 Q2 Q3 : iST → Prop}  {x1 : Int} {x3 : Int} {y0 : Int} {u : iST} (hQ : ∀ r0, Q1 r0 → Q2 r0 → Q3 r0) : v_6_compare_174 Q1 x1 x3 y0 u → pv_6_compare_174 Q2 x1 x3 y0 u → v_6_compare_174 Q3 x1 x3 y0 u := (br_cj (cj_v_6_compare_191  hQ) (cj_v_6_compare_191  hQ))
theorem mn_v_6_compare_174 {Q1 Q2 : iST → Prop}  {x1 : Int} {x3 : Int} {y0 : Int} {u : iST} (hQ : ∀ r0, Q1 r0 → Q2 r0) : pv_6_compare_174 Q1 x1 x3 y0 u → pv_6_compare_174 Q2 x1 x3 y0 u := (br_mn (mn_v_6_compare_191  hQ) (mn_v_6_compare_191  hQ))
theorem wp_v_6_compare_174 {Q1 Q2 : iST → Prop}  {x1 : Int} {x3 : Int} {y0 : Int} {u : iST} (hQ : ∀ r0, Q1 r0 → Q2 r0) : v_6_compare_174 Q1 x1 x3 y0 u → pv_6_compare_174 Q2 x1 x3 y0 u := (br_wp (wp_v_6_compare_191  hQ) (wp_v_6_compare_191  hQ))
def pv_6_compare_149 (Q : iST → Prop) (x1 : Int) (x2 : Int) (y0 : Int) (u : iST) : Prop :=
  rd (u.2.1 54 2) (fun v15 => 
  br (v15 ≤ x2) (
    pv_6_compare_174 Q x1 y0 (-1) u) (
    bdp x2 (slenI 2) (rh (u.2.1 55 (2000 * 2 + x2)) (fun v18 => 
    pv_6_compare_174 Q x1 y0 v18 u))))
theorem cj_v_6_compare_149 {Q1 Q2 Q3 : iST → Prop}  {x1 : Int} {x2 : Int} {y0 : Int} {u : iST} (hQ : ∀ r0, Q1 r0 → Q2 r0 → Q3 r0) : v_6_compare_149 Q1 x1 x2 y0 u → pv_6_compare_149 Q2 x1 x2 y0 u → v_6_compare_149 Q3 x1 x2 y0 u := (rd_cj fun _ => (br_cj (cj_v_6_compare_174  hQ) (bd_cj (rh_cj fun _ => (cj_v_6_compare_174  hQ)))))
theorem mn_v_6_compare_149 {Q1 Q2 : iST → Prop}  {x1 : Int} {x2 : Int} {y0 : Int} {u : iST} (hQ : ∀ r0, Q1 r0 → Q2 r0) : pv_6_compare_149 Q1 x1 x2 y0 u → pv_6_compare_149 Q2 x1 x2 y0 u := (rd_mn fun _ => (br_mn (mn_v_6_compare_174  hQ) (bd_mn (rh_mn fun _ => (mn_v_6_compare_174  hQ)))))
theorem wp_v_6_compare_149 {Q1 Q2 : iST → Prop}  {x1 : Int} {x2 : Int} {y0 : Int} {u : iST} (hQ : ∀ r0, Q1 r0 → Q2 r0) : v_6_compare_149 Q1 x1 x2 y0 u → pv_6_compare_149 Q2 x1 x2 y0 u := (rd_wp fun _ => (br_wp (wp_v_6_compare_174  hQ) (bd_wp (rh_wp fun _ => (wp_v_6_compare_174  hQ)))))
def pv_6_compare_125 (Q : iST → Prop) (x1 : Int) (x2 : Int) (u : iST) : Prop :=
  rd (u.2.1 54 1) (fun v14 => 
  br (v14 ≤ x2) (
    pv_6_compare_149 Q x1 x2 (-1) u) (
    bdp x2 (slenI 1) (rh (u.2.1 55 (2000 * 1 + x2)) (fun v19 => 
    pv_6_compare_149 Q x1 x2 v19 u))))
theorem cj_v_6_compare_125 {Q1 Q2 Q3 : iST → Prop}  {x1 : Int} {x2 : Int} {u : iST} (hQ : ∀ r0, Q1 r0 → Q2 r0 → Q3 r0) : v_6_compare_125 Q1 x1 x2 u → pv_6_compare_125 Q2 x1 x2 u → v_6_compare_125 Q3 x1 x2 u := (rd_cj fun _ => (br_cj (cj_v_6_compare_149  hQ) (bd_cj (rh_cj fun _ => (cj_v_6_compare_149  hQ)))))
theorem mn_v_6_compare_125 {Q1 Q2 : iST → Prop}  {x1 : Int} {x2 : Int} {u : iST} (hQ : ∀ r0, Q1 r0 → Q2 r0) : pv_6_compare_125 Q1 x1 x2 u → pv_6_compare_125 Q2 x1 x2 u := (rd_mn fun _ => (br_mn (mn_v_6_compare_149  hQ) (bd_mn (rh_mn fun _ => (mn_v_6_compare_149  hQ)))))
theorem wp_v_6_compare_125 {Q1 Q2 : iST → Prop}  {x1 : Int} {x2 : Int} {u : iST} (hQ : ∀ r0, Q1 r0 → Q2 r0) : v_6_compare_125 Q1 x1 x2 u → pv_6_compare_125 Q2 x1 x2 u := (rd_wp fun _ => (br_wp (wp_v_6_compare_149  hQ) (bd_wp (rh_wp fun _ => (wp_v_6_compare_149  hQ)))))
def pv_6_compare_76b (R76 : Int → Int → iST → Prop) (Q : iST → Prop) (x1 : Int) (x2 : Int) (u : iST) : Prop :=
  rd (u.2.1 54 1) (fun v13 => 
  br (v13 ≤ x2) (
    pv_6_compare_125 Q x1 x2 u) (
    rd (u.2.1 54 2) (fun v20 => 
    br (v20 ≤ x2) (
      pv_6_compare_125 Q x1 x2 u) (
      bdp x2 (slenI 1) (rh (u.2.1 55 (2000 * 1 + x2)) (fun v21 => 
      bdp x2 (slenI 2) (rh (u.2.1 55 (2000 * 2 + x2)) (fun v22 => 
      br (v21 ≠ v22) (
        pv_6_compare_125 Q x1 x2 u) (
        ovp (x2 + 1) (
        R76 x1 (x2 + 1) u))))))))))
theorem cj_v_6_compare_76b {Q1 Q2 Q3 : iST → Prop} {R761 R762 R763 : Int → Int → iST → Prop} {x1 : Int} {x2 : Int} {u : iST} (hR76 : ∀ r0 r1 r2, R761 r0 r1 r2 → R762 r0 r1 r2 → R763 r0 r1 r2) (hQ : ∀ r0, Q1 r0 → Q2 r0 → Q3 r0) : v_6_compare_76b R761 Q1 x1 x2 u → pv_6_compare_76b R762 Q2 x1 x2 u → v_6_compare_76b R763 Q3 x1 x2 u := (rd_cj fun _ => (br_cj (cj_v_6_compare_125  hQ) (rd_cj fun _ => (br_cj (cj_v_6_compare_125  hQ) (bd_cj (rh_cj fun _ => (bd_cj (rh_cj fun _ => (br_cj (cj_v_6_compare_125  hQ) (ov_cj (hR76 _ _ _)))))))))))
theorem mn_v_6_compare_76b {Q1 Q2 : iST → Prop} {R761 R762 : Int → Int → iST → Prop} {x1 : Int} {x2 : Int} {u : iST} (hR76 : ∀ r0 r1 r2, R761 r0 r1 r2 → R762 r0 r1 r2) (hQ : ∀ r0, Q1 r0 → Q2 r0) : pv_6_compare_76b R761 Q1 x1 x2 u → pv_6_compare_76b R762 Q2 x1 x2 u := (rd_mn fun _ => (br_mn (mn_v_6_compare_125  hQ) (rd_mn fun _ => (br_mn (mn_v_6_compare_125  hQ) (bd_mn (rh_mn fun _ => (bd_mn (rh_mn fun _ => (br_mn (mn_v_6_compare_125  hQ) (ov_mn (hR76 _ _ _)))))))))))
theorem wp_v_6_compare_76b {Q1 Q2 : iST → Prop} {R761 R762 : Int → Int → iST → Prop} {x1 : Int} {x2 : Int} {u : iST} (hR76 : ∀ r0 r1 r2, R761 r0 r1 r2 → R762 r0 r1 r2) (hQ : ∀ r0, Q1 r0 → Q2 r0) : v_6_compare_76b R761 Q1 x1 x2 u → pv_6_compare_76b R762 Q2 x1 x2 u := (rd_wp fun _ => (br_wp (wp_v_6_compare_125  hQ) (rd_wp fun _ => (br_wp (wp_v_6_compare_125  hQ) (bd_wp (rh_wp fun _ => (bd_wp (rh_wp fun _ => (br_wp (wp_v_6_compare_125  hQ) (ov_wp (hR76 _ _ _)))))))))))
def pv_6_compare_76 (Q : iST → Prop) (x1 : Int) (x2 : Int) (u : iST) : Prop := ∃ R76 : Int → Int → iST → Prop, (∀ (x1 : Int) (x2 : Int) (u : iST), R76 x1 x2 u → pv_6_compare_76b R76 Q x1 x2 u) ∧ R76 x1 x2 u
theorem cj_v_6_compare_76 {Q1 Q2 Q3 : iST → Prop}  {x1 : Int} {x2 : Int} {u : iST} (hQ : ∀ r0, Q1 r0 → Q2 r0 → Q3 r0) : v_6_compare_76 Q1 x1 x2 u → pv_6_compare_76 Q2 x1 x2 u → v_6_compare_76 Q3 x1 x2 u := by
  intro a b R3 c3
  obtain ⟨R2, c2, b2⟩ := b
  exact a (fun r0 r1 r2 => R2 r0 r1 r2 → R3 r0 r1 r2) (fun r0 r1 r2 a b => c3 r0 r1 r2 (cj_v_6_compare_76b (fun r0 r1 r2 a b => a b) hQ a (c2 r0 r1 r2 b))) b2
theorem pv_6_compare_76_i  {Q : iST → Prop} {x1 : Int} {x2 : Int} {u : iST} (I : Int → Int → iST → Prop) (s : ∀ (x1 : Int) (x2 : Int) (u : iST), I x1 x2 u → pv_6_compare_76b I Q x1 x2 u) (h : I x1 x2 u) : pv_6_compare_76 Q x1 x2 u := ⟨I, s, h⟩
theorem mn_v_6_compare_76 {Q1 Q2 : iST → Prop}  {x1 : Int} {x2 : Int} {u : iST} (hQ : ∀ r0, Q1 r0 → Q2 r0) : pv_6_compare_76 Q1 x1 x2 u → pv_6_compare_76 Q2 x1 x2 u := fun ⟨R, s, h⟩ => ⟨R, fun r0 r1 r2 a => mn_v_6_compare_76b (fun r0 r1 r2 a => a) hQ (s r0 r1 r2 a), h⟩
theorem un_v_6_compare_76  {Q : iST → Prop} {x1 : Int} {x2 : Int} {u : iST} : pv_6_compare_76 Q x1 x2 u → pv_6_compare_76b (fun x1 x2 u => pv_6_compare_76 Q x1 x2 u) Q x1 x2 u := fun ⟨R, s, h⟩ => mn_v_6_compare_76b (fun r0 r1 r2 a => ⟨R, s, a⟩) (fun _ h => h) (s _ _ _ h)
theorem fo_v_6_compare_76  {Q : iST → Prop} {x1 : Int} {x2 : Int} {u : iST} : pv_6_compare_76b (fun x1 x2 u => pv_6_compare_76 Q x1 x2 u) Q x1 x2 u → pv_6_compare_76 Q x1 x2 u := fun h => ⟨fun x1 x2 u => pv_6_compare_76b (fun x1 x2 u => pv_6_compare_76 Q x1 x2 u) Q x1 x2 u, fun r0 r1 r2 a => mn_v_6_compare_76b (fun r0 r1 r2 a => un_v_6_compare_76 a) (fun _ h => h) a, h⟩
theorem wp_v_6_compare_76 {Q1 Q2 : iST → Prop}  {x1 : Int} {x2 : Int} {u : iST} (hQ : ∀ r0, Q1 r0 → Q2 r0) : v_6_compare_76 Q1 x1 x2 u → pv_6_compare_76 Q2 x1 x2 u := fun a => a (fun x1 x2 u => pv_6_compare_76 Q2 x1 x2 u) (fun x1 x2 u b => fo_v_6_compare_76 (wp_v_6_compare_76b (fun r0 r1 r2 a => a) hQ b))
def pv_6_compare (a0 : Int) (Q : iST → Prop) (u : iST) : Prop :=
  bdp 8 17 (rd (u.2.1 51 (17 * a0 + 8)) (fun v1 => 
  bdp v1 60 (rd (u.2.1 7 v1) (fun v2 => 
  bdp 5 17 (rd (u.2.1 51 (17 * a0 + 5)) (fun v3 => 
  pv_10_matches v2 v3 (fun v4 u => 
  pv_9_clear 1 (fun u => 
  bdp 8 17 (rd (u.2.1 51 (17 * a0 + 8)) (fun v6 => 
  bdp v6 60 (rd (u.2.1 8 v6) (fun v7 => 
  pv_10_rebuilt v7 1 (fun v8 u => 
  pv_9_write 1 v8 (fun u => 
  pv_9_clear 2 (fun u => 
  bdp 5 17 (rd (u.2.1 51 (17 * a0 + 5)) (fun v11 => 
  pv_9_write 2 v11 (fun u => 
  pv_6_compare_76 Q a0 0 u) u))) u) u) u))))) u) u))))))
theorem cj_v_6_compare {Q1 Q2 Q3 : iST → Prop}  {a0 : Int} {u : iST} (hQ : ∀ r0, Q1 r0 → Q2 r0 → Q3 r0) : v_6_compare a0 Q1 u → pv_6_compare a0 Q2 u → v_6_compare a0 Q3 u := (bd_cj (rd_cj fun _ => (bd_cj (rd_cj fun _ => (bd_cj (rd_cj fun _ => (cj_v_10_matches (fun _ _ => (cj_v_9_clear (fun _ => (bd_cj (rd_cj fun _ => (bd_cj (rd_cj fun _ => (cj_v_10_rebuilt (fun _ _ => (cj_v_9_write (fun _ => (cj_v_9_clear (fun _ => (bd_cj (rd_cj fun _ => (cj_v_9_write (fun _ => (cj_v_6_compare_76  hQ)))))))))))))))))))))))))
theorem mn_v_6_compare {Q1 Q2 : iST → Prop}  {a0 : Int} {u : iST} (hQ : ∀ r0, Q1 r0 → Q2 r0) : pv_6_compare a0 Q1 u → pv_6_compare a0 Q2 u := (bd_mn (rd_mn fun _ => (bd_mn (rd_mn fun _ => (bd_mn (rd_mn fun _ => (mn_v_10_matches (fun _ _ => (mn_v_9_clear (fun _ => (bd_mn (rd_mn fun _ => (bd_mn (rd_mn fun _ => (mn_v_10_rebuilt (fun _ _ => (mn_v_9_write (fun _ => (mn_v_9_clear (fun _ => (bd_mn (rd_mn fun _ => (mn_v_9_write (fun _ => (mn_v_6_compare_76  hQ)))))))))))))))))))))))))
theorem wp_v_6_compare {Q1 Q2 : iST → Prop}  {a0 : Int} {u : iST} (hQ : ∀ r0, Q1 r0 → Q2 r0) : v_6_compare a0 Q1 u → pv_6_compare a0 Q2 u := (bd_wp (rd_wp fun _ => (bd_wp (rd_wp fun _ => (bd_wp (rd_wp fun _ => (wp_v_10_matches (fun _ _ => (wp_v_9_clear (fun _ => (bd_wp (rd_wp fun _ => (bd_wp (rd_wp fun _ => (wp_v_10_rebuilt (fun _ _ => (wp_v_9_write (fun _ => (wp_v_9_clear (fun _ => (bd_wp (rd_wp fun _ => (wp_v_9_write (fun _ => (wp_v_6_compare_76  hQ)))))))))))))))))))))))))
def pv_6_apply (a0 : Int) (Q : iST → Prop) (u : iST) : Prop :=
  bdp 8 17 (rd (u.2.1 51 (17 * a0 + 8)) (fun v1 => 
  bdp v1 60 (rd (u.2.1 7 v1) (fun v2 => 
  bdp 5 17 (rd (u.2.1 51 (17 * a0 + 5)) (fun v3 => 
  pv_10_matches v2 v3 (fun v4 u => 
  bdp 9 17 (rd (u.2.1 51 (17 * a0 + 9)) (fun v5 => 
  bdp v1 60 (rd (u.2.1 9 v1) (fun v6 => 
  br (v5 < v6) (
    bdp 3 17 (sw (iA u 51 (17 * a0 + 3) 15) (fun u => 
    bdp v1 60 (
    bdp 9 17 (rd (u.2.1 51 (17 * a0 + 9)) (fun v9 => 
    bdp v9 60 (rd (u.2.1 50 (60 * v1 + v9)) (fun v10 => 
    pv_10_rebuilt v10 1 (fun v11 u => 
    rd (u.1 32) (fun v12 => 
    br (v12 ≠ 0) (
      Q u) (
      bdp 2 17 (rd (u.2.1 51 (17 * a0 + 2)) (fun v13 => 
      pv_6_ask v11 1 v13 (fun u => 
      Q u) u))))) u)))))))) (
    bdp v1 60 (rd (u.2.1 8 v1) (fun v15 => 
    pv_10_rebuilt v15 1 (fun v16 u => 
    pv_6_askInstead a0 v16 (fun u => 
    Q u) u) u)))))))) u))))))
theorem cj_v_6_apply {Q1 Q2 Q3 : iST → Prop}  {a0 : Int} {u : iST} (hQ : ∀ r0, Q1 r0 → Q2 r0 → Q3 r0) : v_6_apply a0 Q1 u → pv_6_apply a0 Q2 u → v_6_apply a0 Q3 u := (bd_cj (rd_cj fun _ => (bd_cj (rd_cj fun _ => (bd_cj (rd_cj fun _ => (cj_v_10_matches (fun _ _ => (bd_cj (rd_cj fun _ => (bd_cj (rd_cj fun _ => (br_cj (bd_cj (sw_cj fun _ => (bd_cj (bd_cj (rd_cj fun _ => (bd_cj (rd_cj fun _ => (cj_v_10_rebuilt (fun _ _ => (rd_cj fun _ => (br_cj (hQ _) (bd_cj (rd_cj fun _ => (cj_v_6_ask (fun _ => (hQ _)))))))))))))))) (bd_cj (rd_cj fun _ => (cj_v_10_rebuilt (fun _ _ => (cj_v_6_askInstead (fun _ => (hQ _))))))))))))))))))))
theorem mn_v_6_apply {Q1 Q2 : iST → Prop}  {a0 : Int} {u : iST} (hQ : ∀ r0, Q1 r0 → Q2 r0) : pv_6_apply a0 Q1 u → pv_6_apply a0 Q2 u := (bd_mn (rd_mn fun _ => (bd_mn (rd_mn fun _ => (bd_mn (rd_mn fun _ => (mn_v_10_matches (fun _ _ => (bd_mn (rd_mn fun _ => (bd_mn (rd_mn fun _ => (br_mn (bd_mn (sw_mn fun _ => (bd_mn (bd_mn (rd_mn fun _ => (bd_mn (rd_mn fun _ => (mn_v_10_rebuilt (fun _ _ => (rd_mn fun _ => (br_mn (hQ _) (bd_mn (rd_mn fun _ => (mn_v_6_ask (fun _ => (hQ _)))))))))))))))) (bd_mn (rd_mn fun _ => (mn_v_10_rebuilt (fun _ _ => (mn_v_6_askInstead (fun _ => (hQ _))))))))))))))))))))
theorem wp_v_6_apply {Q1 Q2 : iST → Prop}  {a0 : Int} {u : iST} (hQ : ∀ r0, Q1 r0 → Q2 r0) : v_6_apply a0 Q1 u → pv_6_apply a0 Q2 u := (bd_wp (rd_wp fun _ => (bd_wp (rd_wp fun _ => (bd_wp (rd_wp fun _ => (wp_v_10_matches (fun _ _ => (bd_wp (rd_wp fun _ => (bd_wp (rd_wp fun _ => (br_wp (bd_wp (sw_wp fun _ => (bd_wp (bd_wp (rd_wp fun _ => (bd_wp (rd_wp fun _ => (wp_v_10_rebuilt (fun _ _ => (rd_wp fun _ => (br_wp (hQ _) (bd_wp (rd_wp fun _ => (wp_v_6_ask (fun _ => (hQ _)))))))))))))))) (bd_wp (rd_wp fun _ => (wp_v_10_rebuilt (fun _ _ => (wp_v_6_askInstead (fun _ => (hQ _))))))))))))))))))))
def pv_6_judge (a0 : Int) (Q : iST → Prop) (u : iST) : Prop :=
  rd (u.1 24) (fun v1 => 
  br (v1 ≠ 1) (
    bdp 8 17 (rd (u.2.1 51 (17 * a0 + 8)) (fun v2 => 
    ovp (v2 - 1) (
    bdp 8 17 (sw (iA u 51 (17 * a0 + 8) (v2 - 1)) (fun u => 
    bdp 3 17 (sw (iA u 51 (17 * a0 + 3) 12) (fun u => 
    Q u)))))))) (
    bdp 9 17 (rd (u.2.1 51 (17 * a0 + 9)) (fun v4 => 
    ovp (v4 + 1) (
    bdp 9 17 (sw (iA u 51 (17 * a0 + 9) (v4 + 1)) (fun u => 
    bdp 3 17 (sw (iA u 51 (17 * a0 + 3) 14) (fun u => 
    Q u)))))))))
theorem cj_v_6_judge {Q1 Q2 Q3 : iST → Prop}  {a0 : Int} {u : iST} (hQ : ∀ r0, Q1 r0 → Q2 r0 → Q3 r0) : v_6_judge a0 Q1 u → pv_6_judge a0 Q2 u → v_6_judge a0 Q3 u := (rd_cj fun _ => (br_cj (bd_cj (rd_cj fun _ => (ov_cj (bd_cj (sw_cj fun _ => (bd_cj (sw_cj fun _ => (hQ _)))))))) (bd_cj (rd_cj fun _ => (ov_cj (bd_cj (sw_cj fun _ => (bd_cj (sw_cj fun _ => (hQ _))))))))))
theorem mn_v_6_judge {Q1 Q2 : iST → Prop}  {a0 : Int} {u : iST} (hQ : ∀ r0, Q1 r0 → Q2 r0) : pv_6_judge a0 Q1 u → pv_6_judge a0 Q2 u := (rd_mn fun _ => (br_mn (bd_mn (rd_mn fun _ => (ov_mn (bd_mn (sw_mn fun _ => (bd_mn (sw_mn fun _ => (hQ _)))))))) (bd_mn (rd_mn fun _ => (ov_mn (bd_mn (sw_mn fun _ => (bd_mn (sw_mn fun _ => (hQ _))))))))))
theorem wp_v_6_judge {Q1 Q2 : iST → Prop}  {a0 : Int} {u : iST} (hQ : ∀ r0, Q1 r0 → Q2 r0) : v_6_judge a0 Q1 u → pv_6_judge a0 Q2 u := (rd_wp fun _ => (br_wp (bd_wp (rd_wp fun _ => (ov_wp (bd_wp (sw_wp fun _ => (bd_wp (sw_wp fun _ => (hQ _)))))))) (bd_wp (rd_wp fun _ => (ov_wp (bd_wp (sw_wp fun _ => (bd_wp (sw_wp fun _ => (hQ _))))))))))
def pv_6_unfold_134 (Q : iST → Prop) (x1 : Int) (x4 : Int) (y1 : Int) (u : iST) : Prop :=
  pv_10_rebuilt y1 1 (fun v11 u => 
  br (x4 = 0) (
    rd (u.1 32) (fun v12 => 
    br (v12 ≠ 0) (
      Q u) (
      bdp 3 17 (sw (iA u 51 (17 * x1 + 3) 17) (fun u => 
      bdp 2 17 (rd (u.2.1 51 (17 * x1 + 2)) (fun v13 => 
      pv_6_ask v11 1 v13 (fun u => 
      Q u) u))))))) (
    pv_6_askInstead x1 v11 (fun u => 
    Q u) u)) u
theorem cj_v_6_unfold_134 {Q1 Q2 Q3 : iST → Prop}  {x1 : Int} {x4 : Int} {y1 : Int} {u : iST} (hQ : ∀ r0, Q1 r0 → Q2 r0 → Q3 r0) : v_6_unfold_134 Q1 x1 x4 y1 u → pv_6_unfold_134 Q2 x1 x4 y1 u → v_6_unfold_134 Q3 x1 x4 y1 u := (cj_v_10_rebuilt (fun _ _ => (br_cj (rd_cj fun _ => (br_cj (hQ _) (bd_cj (sw_cj fun _ => (bd_cj (rd_cj fun _ => (cj_v_6_ask (fun _ => (hQ _))))))))) (cj_v_6_askInstead (fun _ => (hQ _))))))
theorem mn_v_6_unfold_134 {Q1 Q2 : iST → Prop}  {x1 : Int} {x4 : Int} {y1 : Int} {u : iST} (hQ : ∀ r0, Q1 r0 → Q2 r0) : pv_6_unfold_134 Q1 x1 x4 y1 u → pv_6_unfold_134 Q2 x1 x4 y1 u := (mn_v_10_rebuilt (fun _ _ => (br_mn (rd_mn fun _ => (br_mn (hQ _) (bd_mn (sw_mn fun _ => (bd_mn (rd_mn fun _ => (mn_v_6_ask (fun _ => (hQ _))))))))) (mn_v_6_askInstead (fun _ => (hQ _))))))
theorem wp_v_6_unfold_134 {Q1 Q2 : iST → Prop}  {x1 : Int} {x4 : Int} {y1 : Int} {u : iST} (hQ : ∀ r0, Q1 r0 → Q2 r0) : v_6_unfold_134 Q1 x1 x4 y1 u → pv_6_unfold_134 Q2 x1 x4 y1 u := (wp_v_10_rebuilt (fun _ _ => (br_wp (rd_wp fun _ => (br_wp (hQ _) (bd_wp (sw_wp fun _ => (bd_wp (rd_wp fun _ => (wp_v_6_ask (fun _ => (hQ _))))))))) (wp_v_6_askInstead (fun _ => (hQ _))))))
def pv_6_unfold_86 (Q : iST → Prop) (x1 : Int) (x2 : Int) (x3 : Int) (x4 : Int) (u : iST) : Prop :=
  bdp x2 40 (rd (u.2.1 1 x2) (fun v6 => 
  bdp 5 17 (rd (u.2.1 51 (17 * x1 + 5)) (fun v7 => 
  pv_7_right v7 (fun v8 u => 
  pv_10_bindRow v6 v8 (fun u => 
  br (x4 = 0) (
    pv_7_item x3 1 (fun v10 u => 
    pv_6_unfold_134 Q x1 x4 v10 u) u) (
    pv_6_unfold_134 Q x1 x4 x3 u)) u) u))))
theorem cj_v_6_unfold_86 {Q1 Q2 Q3 : iST → Prop}  {x1 : Int} {x2 : Int} {x3 : Int} {x4 : Int} {u : iST} (hQ : ∀ r0, Q1 r0 → Q2 r0 → Q3 r0) : v_6_unfold_86 Q1 x1 x2 x3 x4 u → pv_6_unfold_86 Q2 x1 x2 x3 x4 u → v_6_unfold_86 Q3 x1 x2 x3 x4 u := (bd_cj (rd_cj fun _ => (bd_cj (rd_cj fun _ => (cj_v_7_right (fun _ _ => (cj_v_10_bindRow (fun _ => (br_cj (cj_v_7_item (fun _ _ => (cj_v_6_unfold_134  hQ))) (cj_v_6_unfold_134  hQ))))))))))
theorem mn_v_6_unfold_86 {Q1 Q2 : iST → Prop}  {x1 : Int} {x2 : Int} {x3 : Int} {x4 : Int} {u : iST} (hQ : ∀ r0, Q1 r0 → Q2 r0) : pv_6_unfold_86 Q1 x1 x2 x3 x4 u → pv_6_unfold_86 Q2 x1 x2 x3 x4 u := (bd_mn (rd_mn fun _ => (bd_mn (rd_mn fun _ => (mn_v_7_right (fun _ _ => (mn_v_10_bindRow (fun _ => (br_mn (mn_v_7_item (fun _ _ => (mn_v_6_unfold_134  hQ))) (mn_v_6_unfold_134  hQ))))))))))
theorem wp_v_6_unfold_86 {Q1 Q2 : iST → Prop}  {x1 : Int} {x2 : Int} {x3 : Int} {x4 : Int} {u : iST} (hQ : ∀ r0, Q1 r0 → Q2 r0) : v_6_unfold_86 Q1 x1 x2 x3 x4 u → pv_6_unfold_86 Q2 x1 x2 x3 x4 u := (bd_wp (rd_wp fun _ => (bd_wp (rd_wp fun _ => (wp_v_7_right (fun _ _ => (wp_v_10_bindRow (fun _ => (br_wp (wp_v_7_item (fun _ _ => (wp_v_6_unfold_134  hQ))) (wp_v_6_unfold_134  hQ))))))))))
def pv_6_unfold_59 (Q : iST → Prop) (x1 : Int) (x2 : Int) (x3 : Int) (y0 : Int) (u : iST) : Prop :=
  br (y0 ≠ 0) (
    pv_6_unfold_86 Q x1 x2 x3 y0 u) (
    pv_7_isCallOf x3 3 (fun v16 u => 
    br (v16 ≠ 0) (
      pv_6_unfold_86 Q x1 x2 x3 y0 u) (
      bdp 5 17 (rd (u.2.1 51 (17 * x1 + 5)) (fun v17 => 
      pv_6_finish v17 (fun u => 
      Q u) u)))) u)
theorem cj_v_6_unfold_59 {Q1 Q2 Q3 : iST → Prop}  {x1 : Int} {x2 : Int} {x3 : Int} {y0 : Int} {u : iST} (hQ : ∀ r0, Q1 r0 → Q2 r0 → Q3 r0) : v_6_unfold_59 Q1 x1 x2 x3 y0 u → pv_6_unfold_59 Q2 x1 x2 x3 y0 u → v_6_unfold_59 Q3 x1 x2 x3 y0 u := (br_cj (cj_v_6_unfold_86  hQ) (cj_v_7_isCallOf (fun _ _ => (br_cj (cj_v_6_unfold_86  hQ) (bd_cj (rd_cj fun _ => (cj_v_6_finish (fun _ => (hQ _)))))))))
theorem mn_v_6_unfold_59 {Q1 Q2 : iST → Prop}  {x1 : Int} {x2 : Int} {x3 : Int} {y0 : Int} {u : iST} (hQ : ∀ r0, Q1 r0 → Q2 r0) : pv_6_unfold_59 Q1 x1 x2 x3 y0 u → pv_6_unfold_59 Q2 x1 x2 x3 y0 u := (br_mn (mn_v_6_unfold_86  hQ) (mn_v_7_isCallOf (fun _ _ => (br_mn (mn_v_6_unfold_86  hQ) (bd_mn (rd_mn fun _ => (mn_v_6_finish (fun _ => (hQ _)))))))))
theorem wp_v_6_unfold_59 {Q1 Q2 : iST → Prop}  {x1 : Int} {x2 : Int} {x3 : Int} {y0 : Int} {u : iST} (hQ : ∀ r0, Q1 r0 → Q2 r0) : v_6_unfold_59 Q1 x1 x2 x3 y0 u → pv_6_unfold_59 Q2 x1 x2 x3 y0 u := (br_wp (wp_v_6_unfold_86  hQ) (wp_v_7_isCallOf (fun _ _ => (br_wp (wp_v_6_unfold_86  hQ) (bd_wp (rd_wp fun _ => (wp_v_6_finish (fun _ => (hQ _)))))))))
def pv_6_unfold (a0 : Int) (Q : iST → Prop) (u : iST) : Prop :=
  bdp 5 17 (rd (u.2.1 51 (17 * a0 + 5)) (fun v1 => 
  pv_7_left v1 (fun v2 u => 
  pv_0_functionOf v2 (fun v3 u => 
  br (v3 ≠ (-1)) (
    bdp v3 40 (rd (u.2.1 3 v3) (fun v4 => 
    bdp v3 40 (rd (u.2.1 4 v3) (fun v5 => 
    br (v5 ≠ (-1)) (
      pv_6_unfold_59 Q a0 v3 v4 0 u) (
      pv_6_unfold_59 Q a0 v3 v4 1 u)))))) (
    bdp 5 17 (rd (u.2.1 51 (17 * a0 + 5)) (fun v19 => 
    pv_6_finish v19 (fun u => 
    Q u) u)))) u) u))
theorem cj_v_6_unfold {Q1 Q2 Q3 : iST → Prop}  {a0 : Int} {u : iST} (hQ : ∀ r0, Q1 r0 → Q2 r0 → Q3 r0) : v_6_unfold a0 Q1 u → pv_6_unfold a0 Q2 u → v_6_unfold a0 Q3 u := (bd_cj (rd_cj fun _ => (cj_v_7_left (fun _ _ => (cj_v_0_functionOf (fun _ _ => (br_cj (bd_cj (rd_cj fun _ => (bd_cj (rd_cj fun _ => (br_cj (cj_v_6_unfold_59  hQ) (cj_v_6_unfold_59  hQ)))))) (bd_cj (rd_cj fun _ => (cj_v_6_finish (fun _ => (hQ _))))))))))))
theorem mn_v_6_unfold {Q1 Q2 : iST → Prop}  {a0 : Int} {u : iST} (hQ : ∀ r0, Q1 r0 → Q2 r0) : pv_6_unfold a0 Q1 u → pv_6_unfold a0 Q2 u := (bd_mn (rd_mn fun _ => (mn_v_7_left (fun _ _ => (mn_v_0_functionOf (fun _ _ => (br_mn (bd_mn (rd_mn fun _ => (bd_mn (rd_mn fun _ => (br_mn (mn_v_6_unfold_59  hQ) (mn_v_6_unfold_59  hQ)))))) (bd_mn (rd_mn fun _ => (mn_v_6_finish (fun _ => (hQ _))))))))))))
theorem wp_v_6_unfold {Q1 Q2 : iST → Prop}  {a0 : Int} {u : iST} (hQ : ∀ r0, Q1 r0 → Q2 r0) : v_6_unfold a0 Q1 u → pv_6_unfold a0 Q2 u := (bd_wp (rd_wp fun _ => (wp_v_7_left (fun _ _ => (wp_v_0_functionOf (fun _ _ => (br_wp (bd_wp (rd_wp fun _ => (bd_wp (rd_wp fun _ => (br_wp (wp_v_6_unfold_59  hQ) (wp_v_6_unfold_59  hQ)))))) (bd_wp (rd_wp fun _ => (wp_v_6_finish (fun _ => (hQ _))))))))))))
def pv_6_chooseBranch_37 (Q : iST → Prop) (x1 : Int) (u : iST) : Prop :=
  bdp 5 17 (rd (u.2.1 51 (17 * x1 + 5)) (fun v4 => 
  pv_6_finish v4 (fun u => 
  Q u) u))
theorem cj_v_6_chooseBranch_37 {Q1 Q2 Q3 : iST → Prop}  {x1 : Int} {u : iST} (hQ : ∀ r0, Q1 r0 → Q2 r0 → Q3 r0) : v_6_chooseBranch_37 Q1 x1 u → pv_6_chooseBranch_37 Q2 x1 u → v_6_chooseBranch_37 Q3 x1 u := (bd_cj (rd_cj fun _ => (cj_v_6_finish (fun _ => (hQ _)))))
theorem mn_v_6_chooseBranch_37 {Q1 Q2 : iST → Prop}  {x1 : Int} {u : iST} (hQ : ∀ r0, Q1 r0 → Q2 r0) : pv_6_chooseBranch_37 Q1 x1 u → pv_6_chooseBranch_37 Q2 x1 u := (bd_mn (rd_mn fun _ => (mn_v_6_finish (fun _ => (hQ _)))))
theorem wp_v_6_chooseBranch_37 {Q1 Q2 : iST → Prop}  {x1 : Int} {u : iST} (hQ : ∀ r0, Q1 r0 → Q2 r0) : v_6_chooseBranch_37 Q1 x1 u → pv_6_chooseBranch_37 Q2 x1 u := (bd_wp (rd_wp fun _ => (wp_v_6_finish (fun _ => (hQ _)))))
def pv_6_chooseBranch_102 (Q : iST → Prop) (y1 : Int) (y4 : Int) (y5 : Int) (u : iST) : Prop :=
  pv_7_item y4 y5 (fun v14 u => 
  pv_10_rebuilt v14 1 (fun v15 u => 
  pv_6_askInstead y1 v15 (fun u => 
  Q u) u) u) u
theorem cj_v_6_chooseBranch_102 {Q1 Q2 Q3 : iST → Prop}  {y1 : Int} {y4 : Int} {y5 : Int} {u : iST} (hQ : ∀ r0, Q1 r0 → Q2 r0 → Q3 r0) : v_6_chooseBranch_102 Q1 y1 y4 y5 u → pv_6_chooseBranch_102 Q2 y1 y4 y5 u → v_6_chooseBranch_102 Q3 y1 y4 y5 u := (cj_v_7_item (fun _ _ => (cj_v_10_rebuilt (fun _ _ => (cj_v_6_askInstead (fun _ => (hQ _)))))))
theorem mn_v_6_chooseBranch_102 {Q1 Q2 : iST → Prop}  {y1 : Int} {y4 : Int} {y5 : Int} {u : iST} (hQ : ∀ r0, Q1 r0 → Q2 r0) : pv_6_chooseBranch_102 Q1 y1 y4 y5 u → pv_6_chooseBranch_102 Q2 y1 y4 y5 u := (mn_v_7_item (fun _ _ => (mn_v_10_rebuilt (fun _ _ => (mn_v_6_askInstead (fun _ => (hQ _)))))))
theorem wp_v_6_chooseBranch_102 {Q1 Q2 : iST → Prop}  {y1 : Int} {y4 : Int} {y5 : Int} {u : iST} (hQ : ∀ r0, Q1 r0 → Q2 r0) : v_6_chooseBranch_102 Q1 y1 y4 y5 u → pv_6_chooseBranch_102 Q2 y1 y4 y5 u := (wp_v_7_item (fun _ _ => (wp_v_10_rebuilt (fun _ _ => (wp_v_6_askInstead (fun _ => (hQ _)))))))
def pv_6_chooseBranch (a0 : Int) (Q : iST → Prop) (u : iST) : Prop :=
  bdp 5 17 (rd (u.2.1 51 (17 * a0 + 5)) (fun v1 => 
  pv_7_left v1 (fun v2 u => 
  pv_0_functionOf v2 (fun v3 u => 
  br (v3 = (-1)) (
    pv_6_chooseBranch_37 Q a0 u) (
    rd (u.1 24) (fun v6 => 
    pv_7_isConstant v6 (fun v7 u => 
    br (v7 ≠ 0) (
      bdp v3 40 (rd (u.2.1 1 v3) (fun v8 => 
      bdp 5 17 (rd (u.2.1 51 (17 * a0 + 5)) (fun v9 => 
      pv_7_right v9 (fun v10 u => 
      pv_10_bindRow v8 v10 (fun u => 
      bdp v3 40 (rd (u.2.1 3 v3) (fun v12 => 
      rd (u.1 24) (fun v13 => 
      br (v13 = 0) (
        pv_6_chooseBranch_102 Q a0 v12 3 u) (
        pv_6_chooseBranch_102 Q a0 v12 2 u))))) u) u))))) (
      pv_6_chooseBranch_37 Q a0 u)) u))) u) u))
theorem cj_v_6_chooseBranch {Q1 Q2 Q3 : iST → Prop}  {a0 : Int} {u : iST} (hQ : ∀ r0, Q1 r0 → Q2 r0 → Q3 r0) : v_6_chooseBranch a0 Q1 u → pv_6_chooseBranch a0 Q2 u → v_6_chooseBranch a0 Q3 u := (bd_cj (rd_cj fun _ => (cj_v_7_left (fun _ _ => (cj_v_0_functionOf (fun _ _ => (br_cj (cj_v_6_chooseBranch_37  hQ) (rd_cj fun _ => (cj_v_7_isConstant (fun _ _ => (br_cj (bd_cj (rd_cj fun _ => (bd_cj (rd_cj fun _ => (cj_v_7_right (fun _ _ => (cj_v_10_bindRow (fun _ => (bd_cj (rd_cj fun _ => (rd_cj fun _ => (br_cj (cj_v_6_chooseBranch_102  hQ) (cj_v_6_chooseBranch_102  hQ))))))))))))) (cj_v_6_chooseBranch_37  hQ))))))))))))
theorem mn_v_6_chooseBranch {Q1 Q2 : iST → Prop}  {a0 : Int} {u : iST} (hQ : ∀ r0, Q1 r0 → Q2 r0) : pv_6_chooseBranch a0 Q1 u → pv_6_chooseBranch a0 Q2 u := (bd_mn (rd_mn fun _ => (mn_v_7_left (fun _ _ => (mn_v_0_functionOf (fun _ _ => (br_mn (mn_v_6_chooseBranch_37  hQ) (rd_mn fun _ => (mn_v_7_isConstant (fun _ _ => (br_mn (bd_mn (rd_mn fun _ => (bd_mn (rd_mn fun _ => (mn_v_7_right (fun _ _ => (mn_v_10_bindRow (fun _ => (bd_mn (rd_mn fun _ => (rd_mn fun _ => (br_mn (mn_v_6_chooseBranch_102  hQ) (mn_v_6_chooseBranch_102  hQ))))))))))))) (mn_v_6_chooseBranch_37  hQ))))))))))))
theorem wp_v_6_chooseBranch {Q1 Q2 : iST → Prop}  {a0 : Int} {u : iST} (hQ : ∀ r0, Q1 r0 → Q2 r0) : v_6_chooseBranch a0 Q1 u → pv_6_chooseBranch a0 Q2 u := (bd_wp (rd_wp fun _ => (wp_v_7_left (fun _ _ => (wp_v_0_functionOf (fun _ _ => (br_wp (wp_v_6_chooseBranch_37  hQ) (rd_wp fun _ => (wp_v_7_isConstant (fun _ _ => (br_wp (bd_wp (rd_wp fun _ => (bd_wp (rd_wp fun _ => (wp_v_7_right (fun _ _ => (wp_v_10_bindRow (fun _ => (bd_wp (rd_wp fun _ => (rd_wp fun _ => (br_wp (wp_v_6_chooseBranch_102  hQ) (wp_v_6_chooseBranch_102  hQ))))))))))))) (wp_v_6_chooseBranch_37  hQ))))))))))))
def pv_6_rewritten_405 (Q : Int → iST → Prop) (u : iST) : Prop :=
  rd (u.1 32) (fun v2 => 
  br (v2 ≠ 0) (
    Q (-1) u) (
    rd (u.1 24) (fun v3 => 
    Q v3 u)))
theorem cj_v_6_rewritten_405 {Q1 Q2 Q3 : Int → iST → Prop}  {u : iST} (hQ : ∀ r0 r1, Q1 r0 r1 → Q2 r0 r1 → Q3 r0 r1) : v_6_rewritten_405 Q1 u → pv_6_rewritten_405 Q2 u → v_6_rewritten_405 Q3 u := (rd_cj fun _ => (br_cj (hQ _ _) (rd_cj fun _ => (hQ _ _))))
theorem mn_v_6_rewritten_405 {Q1 Q2 : Int → iST → Prop}  {u : iST} (hQ : ∀ r0 r1, Q1 r0 r1 → Q2 r0 r1) : pv_6_rewritten_405 Q1 u → pv_6_rewritten_405 Q2 u := (rd_mn fun _ => (br_mn (hQ _ _) (rd_mn fun _ => (hQ _ _))))
theorem wp_v_6_rewritten_405 {Q1 Q2 : Int → iST → Prop}  {u : iST} (hQ : ∀ r0 r1, Q1 r0 r1 → Q2 r0 r1) : v_6_rewritten_405 Q1 u → pv_6_rewritten_405 Q2 u := (rd_wp fun _ => (br_wp (hQ _ _) (rd_wp fun _ => (hQ _ _))))
def pv_6_rewritten_20b (R20 : Int → iST → Prop) (Q : Int → iST → Prop) (x4 : Int) (u : iST) : Prop :=
  br (1000000 ≤ x4) (
    pv_6_rewritten_405 Q u) (
    rd (u.1 23) (fun v4 => 
    br (v4 ≤ 0) (
      pv_6_rewritten_405 Q u) (
      rd (u.1 32) (fun v5 => 
      br (v5 ≠ 0) (
        pv_6_rewritten_405 Q u) (
        rd (u.1 23) (fun v6 => 
        ovp (v6 - 1) (
        bdp (v6 - 1) 60 (
        bdp 3 17 (rd (u.2.1 51 (17 * (v6 - 1) + 3)) (fun v10 => 
        br (v10 = 0) (
          pv_6_start (v6 - 1) (fun u => 
          ovp (x4 + 1) (
          R20 (x4 + 1) u)) u) (
        br (v10 = 1) (
          rd (u.1 24) (fun v14 => 
          pv_6_finish v14 (fun u => 
          ovp (x4 + 1) (
          R20 (x4 + 1) u)) u)) (
        br (v10 = 2) (
          pv_6_goOnWithTest (v6 - 1) (fun u => 
          ovp (x4 + 1) (
          R20 (x4 + 1) u)) u) (
        br (v10 = 3) (
          pv_6_goOnWithThen (v6 - 1) (fun u => 
          ovp (x4 + 1) (
          R20 (x4 + 1) u)) u) (
        br (v10 = 4) (
          bdp 5 17 (rd (u.2.1 51 (17 * (v6 - 1) + 5)) (fun v24 => 
          bdp 7 17 (rd (u.2.1 51 (17 * (v6 - 1) + 7)) (fun v25 => 
          rd (u.1 24) (fun v26 => 
          bdp 1 17 (rd (u.2.1 51 (17 * (v6 - 1) + 1)) (fun v27 => 
          pv_6_choice v24 v25 v26 v27 (fun v28 u => 
          pv_6_finish v28 (fun u => 
          ovp (x4 + 1) (
          R20 (x4 + 1) u)) u) u)))))))) (
        br (v10 = 5) (
          pv_6_goOnWithNegation (v6 - 1) (fun u => 
          ovp (x4 + 1) (
          R20 (x4 + 1) u)) u) (
        br (v10 = 6) (
          pv_6_gather (v6 - 1) (fun u => 
          ovp (x4 + 1) (
          R20 (x4 + 1) u)) u) (
        br (v10 = 7) (
          pv_6_compute (v6 - 1) (fun u => 
          ovp (x4 + 1) (
          R20 (x4 + 1) u)) u) (
        br (v10 = 8) (
          bdp 5 17 (rd (u.2.1 51 (17 * (v6 - 1) + 5)) (fun v41 => 
          pv_7_item v41 1 (fun v42 u => 
          bdp 5 17 (rd (u.2.1 51 (17 * (v6 - 1) + 5)) (fun v43 => 
          pv_7_item v43 2 (fun v44 u => 
          pv_6_reduceEqual (v6 - 1) v42 v44 (fun u => 
          ovp (x4 + 1) (
          R20 (x4 + 1) u)) u) u))) u))) (
        br (v10 = 9) (
          bdp 5 17 (rd (u.2.1 51 (17 * (v6 - 1) + 5)) (fun v48 => 
          pv_7_item v48 1 (fun v49 u => 
          bdp 5 17 (rd (u.2.1 51 (17 * (v6 - 1) + 5)) (fun v50 => 
          pv_7_item v50 2 (fun v51 u => 
          pv_6_reduceLess (v6 - 1) v49 v51 (fun u => 
          ovp (x4 + 1) (
          R20 (x4 + 1) u)) u) u))) u))) (
        br (v10 = 10) (
          bdp 5 17 (rd (u.2.1 51 (17 * (v6 - 1) + 5)) (fun v55 => 
          pv_7_left v55 (fun v56 u => 
          bdp 5 17 (rd (u.2.1 51 (17 * (v6 - 1) + 5)) (fun v57 => 
          pv_7_item v57 1 (fun v58 u => 
          pv_6_reduceOther (v6 - 1) v56 v58 (fun u => 
          ovp (x4 + 1) (
          R20 (x4 + 1) u)) u) u))) u))) (
        br (v10 = 11) (
          pv_6_lookUp (v6 - 1) (fun u => 
          ovp (x4 + 1) (
          R20 (x4 + 1) u)) u) (
        br (v10 = 12) (
          pv_6_seek (v6 - 1) (fun u => 
          ovp (x4 + 1) (
          R20 (x4 + 1) u)) u) (
        br (v10 = 13) (
          pv_6_compare (v6 - 1) (fun u => 
          ovp (x4 + 1) (
          R20 (x4 + 1) u)) u) (
        br (v10 = 14) (
          pv_6_apply (v6 - 1) (fun u => 
          ovp (x4 + 1) (
          R20 (x4 + 1) u)) u) (
        br (v10 = 15) (
          pv_6_judge (v6 - 1) (fun u => 
          ovp (x4 + 1) (
          R20 (x4 + 1) u)) u) (
        br (v10 = 16) (
          pv_6_unfold (v6 - 1) (fun u => 
          ovp (x4 + 1) (
          R20 (x4 + 1) u)) u) (
        br (v10 = 17) (
          pv_6_chooseBranch (v6 - 1) (fun u => 
          ovp (x4 + 1) (
          R20 (x4 + 1) u)) u) (
        rd (u.1 24) (fun v83 => 
        pv_6_finish v83 (fun u => 
        ovp (x4 + 1) (
        R20 (x4 + 1) u)) u)))))))))))))))))))))))))))))
theorem cj_v_6_rewritten_20b {Q1 Q2 Q3 : Int → iST → Prop} {R201 R202 R203 : Int → iST → Prop} {x4 : Int} {u : iST} (hR20 : ∀ r0 r1, R201 r0 r1 → R202 r0 r1 → R203 r0 r1) (hQ : ∀ r0 r1, Q1 r0 r1 → Q2 r0 r1 → Q3 r0 r1) : v_6_rewritten_20b R201 Q1 x4 u → pv_6_rewritten_20b R202 Q2 x4 u → v_6_rewritten_20b R203 Q3 x4 u := (br_cj (cj_v_6_rewritten_405  hQ) (rd_cj fun _ => (br_cj (cj_v_6_rewritten_405  hQ) (rd_cj fun _ => (br_cj (cj_v_6_rewritten_405  hQ) (rd_cj fun _ => (ov_cj (bd_cj (bd_cj (rd_cj fun _ => (br_cj (cj_v_6_start (fun _ => (ov_cj (hR20 _ _)))) (br_cj (rd_cj fun _ => (cj_v_6_finish (fun _ => (ov_cj (hR20 _ _))))) (br_cj (cj_v_6_goOnWithTest (fun _ => (ov_cj (hR20 _ _)))) (br_cj (cj_v_6_goOnWithThen (fun _ => (ov_cj (hR20 _ _)))) (br_cj (bd_cj (rd_cj fun _ => (bd_cj (rd_cj fun _ => (rd_cj fun _ => (bd_cj (rd_cj fun _ => (cj_v_6_choice (fun _ _ => (cj_v_6_finish (fun _ => (ov_cj (hR20 _ _))))))))))))) (br_cj (cj_v_6_goOnWithNegation (fun _ => (ov_cj (hR20 _ _)))) (br_cj (cj_v_6_gather (fun _ => (ov_cj (hR20 _ _)))) (br_cj (cj_v_6_compute (fun _ => (ov_cj (hR20 _ _)))) (br_cj (bd_cj (rd_cj fun _ => (cj_v_7_item (fun _ _ => (bd_cj (rd_cj fun _ => (cj_v_7_item (fun _ _ => (cj_v_6_reduceEqual (fun _ => (ov_cj (hR20 _ _)))))))))))) (br_cj (bd_cj (rd_cj fun _ => (cj_v_7_item (fun _ _ => (bd_cj (rd_cj fun _ => (cj_v_7_item (fun _ _ => (cj_v_6_reduceLess (fun _ => (ov_cj (hR20 _ _)))))))))))) (br_cj (bd_cj (rd_cj fun _ => (cj_v_7_left (fun _ _ => (bd_cj (rd_cj fun _ => (cj_v_7_item (fun _ _ => (cj_v_6_reduceOther (fun _ => (ov_cj (hR20 _ _)))))))))))) (br_cj (cj_v_6_lookUp (fun _ => (ov_cj (hR20 _ _)))) (br_cj (cj_v_6_seek (fun _ => (ov_cj (hR20 _ _)))) (br_cj (cj_v_6_compare (fun _ => (ov_cj (hR20 _ _)))) (br_cj (cj_v_6_apply (fun _ => (ov_cj (hR20 _ _)))) (br_cj (cj_v_6_judge (fun _ => (ov_cj (hR20 _ _)))) (br_cj (cj_v_6_unfold (fun _ => (ov_cj (hR20 _ _)))) (br_cj (cj_v_6_chooseBranch (fun _ => (ov_cj (hR20 _ _)))) (rd_cj fun _ => (cj_v_6_finish (fun _ => (ov_cj (hR20 _ _)))))))))))))))))))))))))))))))))
theorem mn_v_6_rewritten_20b {Q1 Q2 : Int → iST → Prop} {R201 R202 : Int → iST → Prop} {x4 : Int} {u : iST} (hR20 : ∀ r0 r1, R201 r0 r1 → R202 r0 r1) (hQ : ∀ r0 r1, Q1 r0 r1 → Q2 r0 r1) : pv_6_rewritten_20b R201 Q1 x4 u → pv_6_rewritten_20b R202 Q2 x4 u := (br_mn (mn_v_6_rewritten_405  hQ) (rd_mn fun _ => (br_mn (mn_v_6_rewritten_405  hQ) (rd_mn fun _ => (br_mn (mn_v_6_rewritten_405  hQ) (rd_mn fun _ => (ov_mn (bd_mn (bd_mn (rd_mn fun _ => (br_mn (mn_v_6_start (fun _ => (ov_mn (hR20 _ _)))) (br_mn (rd_mn fun _ => (mn_v_6_finish (fun _ => (ov_mn (hR20 _ _))))) (br_mn (mn_v_6_goOnWithTest (fun _ => (ov_mn (hR20 _ _)))) (br_mn (mn_v_6_goOnWithThen (fun _ => (ov_mn (hR20 _ _)))) (br_mn (bd_mn (rd_mn fun _ => (bd_mn (rd_mn fun _ => (rd_mn fun _ => (bd_mn (rd_mn fun _ => (mn_v_6_choice (fun _ _ => (mn_v_6_finish (fun _ => (ov_mn (hR20 _ _))))))))))))) (br_mn (mn_v_6_goOnWithNegation (fun _ => (ov_mn (hR20 _ _)))) (br_mn (mn_v_6_gather (fun _ => (ov_mn (hR20 _ _)))) (br_mn (mn_v_6_compute (fun _ => (ov_mn (hR20 _ _)))) (br_mn (bd_mn (rd_mn fun _ => (mn_v_7_item (fun _ _ => (bd_mn (rd_mn fun _ => (mn_v_7_item (fun _ _ => (mn_v_6_reduceEqual (fun _ => (ov_mn (hR20 _ _)))))))))))) (br_mn (bd_mn (rd_mn fun _ => (mn_v_7_item (fun _ _ => (bd_mn (rd_mn fun _ => (mn_v_7_item (fun _ _ => (mn_v_6_reduceLess (fun _ => (ov_mn (hR20 _ _)))))))))))) (br_mn (bd_mn (rd_mn fun _ => (mn_v_7_left (fun _ _ => (bd_mn (rd_mn fun _ => (mn_v_7_item (fun _ _ => (mn_v_6_reduceOther (fun _ => (ov_mn (hR20 _ _)))))))))))) (br_mn (mn_v_6_lookUp (fun _ => (ov_mn (hR20 _ _)))) (br_mn (mn_v_6_seek (fun _ => (ov_mn (hR20 _ _)))) (br_mn (mn_v_6_compare (fun _ => (ov_mn (hR20 _ _)))) (br_mn (mn_v_6_apply (fun _ => (ov_mn (hR20 _ _)))) (br_mn (mn_v_6_judge (fun _ => (ov_mn (hR20 _ _)))) (br_mn (mn_v_6_unfold (fun _ => (ov_mn (hR20 _ _)))) (br_mn (mn_v_6_chooseBranch (fun _ => (ov_mn (hR20 _ _)))) (rd_mn fun _ => (mn_v_6_finish (fun _ => (ov_mn (hR20 _ _)))))))))))))))))))))))))))))))))
theorem wp_v_6_rewritten_20b {Q1 Q2 : Int → iST → Prop} {R201 R202 : Int → iST → Prop} {x4 : Int} {u : iST} (hR20 : ∀ r0 r1, R201 r0 r1 → R202 r0 r1) (hQ : ∀ r0 r1, Q1 r0 r1 → Q2 r0 r1) : v_6_rewritten_20b R201 Q1 x4 u → pv_6_rewritten_20b R202 Q2 x4 u := (br_wp (wp_v_6_rewritten_405  hQ) (rd_wp fun _ => (br_wp (wp_v_6_rewritten_405  hQ) (rd_wp fun _ => (br_wp (wp_v_6_rewritten_405  hQ) (rd_wp fun _ => (ov_wp (bd_wp (bd_wp (rd_wp fun _ => (br_wp (wp_v_6_start (fun _ => (ov_wp (hR20 _ _)))) (br_wp (rd_wp fun _ => (wp_v_6_finish (fun _ => (ov_wp (hR20 _ _))))) (br_wp (wp_v_6_goOnWithTest (fun _ => (ov_wp (hR20 _ _)))) (br_wp (wp_v_6_goOnWithThen (fun _ => (ov_wp (hR20 _ _)))) (br_wp (bd_wp (rd_wp fun _ => (bd_wp (rd_wp fun _ => (rd_wp fun _ => (bd_wp (rd_wp fun _ => (wp_v_6_choice (fun _ _ => (wp_v_6_finish (fun _ => (ov_wp (hR20 _ _))))))))))))) (br_wp (wp_v_6_goOnWithNegation (fun _ => (ov_wp (hR20 _ _)))) (br_wp (wp_v_6_gather (fun _ => (ov_wp (hR20 _ _)))) (br_wp (wp_v_6_compute (fun _ => (ov_wp (hR20 _ _)))) (br_wp (bd_wp (rd_wp fun _ => (wp_v_7_item (fun _ _ => (bd_wp (rd_wp fun _ => (wp_v_7_item (fun _ _ => (wp_v_6_reduceEqual (fun _ => (ov_wp (hR20 _ _)))))))))))) (br_wp (bd_wp (rd_wp fun _ => (wp_v_7_item (fun _ _ => (bd_wp (rd_wp fun _ => (wp_v_7_item (fun _ _ => (wp_v_6_reduceLess (fun _ => (ov_wp (hR20 _ _)))))))))))) (br_wp (bd_wp (rd_wp fun _ => (wp_v_7_left (fun _ _ => (bd_wp (rd_wp fun _ => (wp_v_7_item (fun _ _ => (wp_v_6_reduceOther (fun _ => (ov_wp (hR20 _ _)))))))))))) (br_wp (wp_v_6_lookUp (fun _ => (ov_wp (hR20 _ _)))) (br_wp (wp_v_6_seek (fun _ => (ov_wp (hR20 _ _)))) (br_wp (wp_v_6_compare (fun _ => (ov_wp (hR20 _ _)))) (br_wp (wp_v_6_apply (fun _ => (ov_wp (hR20 _ _)))) (br_wp (wp_v_6_judge (fun _ => (ov_wp (hR20 _ _)))) (br_wp (wp_v_6_unfold (fun _ => (ov_wp (hR20 _ _)))) (br_wp (wp_v_6_chooseBranch (fun _ => (ov_wp (hR20 _ _)))) (rd_wp fun _ => (wp_v_6_finish (fun _ => (ov_wp (hR20 _ _)))))))))))))))))))))))))))))))))
def pv_6_rewritten_20 (Q : Int → iST → Prop) (x4 : Int) (u : iST) : Prop := ∃ R20 : Int → iST → Prop, (∀ (x4 : Int) (u : iST), R20 x4 u → pv_6_rewritten_20b R20 Q x4 u) ∧ R20 x4 u
theorem cj_v_6_rewritten_20 {Q1 Q2 Q3 : Int → iST → Prop}  {x4 : Int} {u : iST} (hQ : ∀ r0 r1, Q1 r0 r1 → Q2 r0 r1 → Q3 r0 r1) : v_6_rewritten_20 Q1 x4 u → pv_6_rewritten_20 Q2 x4 u → v_6_rewritten_20 Q3 x4 u := by
  intro a b R3 c3
  obtain ⟨R2, c2, b2⟩ := b
  exact a (fun r0 r1 => R2 r0 r1 → R3 r0 r1) (fun r0 r1 a b => c3 r0 r1 (cj_v_6_rewritten_20b (fun r0 r1 a b => a b) hQ a (c2 r0 r1 b))) b2
theorem pv_6_rewritten_20_i  {Q : Int → iST → Prop} {x4 : Int} {u : iST} (I : Int → iST → Prop) (s : ∀ (x4 : Int) (u : iST), I x4 u → pv_6_rewritten_20b I Q x4 u) (h : I x4 u) : pv_6_rewritten_20 Q x4 u := ⟨I, s, h⟩
theorem mn_v_6_rewritten_20 {Q1 Q2 : Int → iST → Prop}  {x4 : Int} {u : iST} (hQ : ∀ r0 r1, Q1 r0 r1 → Q2 r0 r1) : pv_6_rewritten_20 Q1 x4 u → pv_6_rewritten_20 Q2 x4 u := fun ⟨R, s, h⟩ => ⟨R, fun r0 r1 a => mn_v_6_rewritten_20b (fun r0 r1 a => a) hQ (s r0 r1 a), h⟩
theorem un_v_6_rewritten_20  {Q : Int → iST → Prop} {x4 : Int} {u : iST} : pv_6_rewritten_20 Q x4 u → pv_6_rewritten_20b (fun x4 u => pv_6_rewritten_20 Q x4 u) Q x4 u := fun ⟨R, s, h⟩ => mn_v_6_rewritten_20b (fun r0 r1 a => ⟨R, s, a⟩) (fun _ _ h => h) (s _ _ h)
theorem fo_v_6_rewritten_20  {Q : Int → iST → Prop} {x4 : Int} {u : iST} : pv_6_rewritten_20b (fun x4 u => pv_6_rewritten_20 Q x4 u) Q x4 u → pv_6_rewritten_20 Q x4 u := fun h => ⟨fun x4 u => pv_6_rewritten_20b (fun x4 u => pv_6_rewritten_20 Q x4 u) Q x4 u, fun r0 r1 a => mn_v_6_rewritten_20b (fun r0 r1 a => un_v_6_rewritten_20 a) (fun _ _ h => h) a, h⟩
theorem wp_v_6_rewritten_20 {Q1 Q2 : Int → iST → Prop}  {x4 : Int} {u : iST} (hQ : ∀ r0 r1, Q1 r0 r1 → Q2 r0 r1) : v_6_rewritten_20 Q1 x4 u → pv_6_rewritten_20 Q2 x4 u := fun a => a (fun x4 u => pv_6_rewritten_20 Q2 x4 u) (fun x4 u b => fo_v_6_rewritten_20 (wp_v_6_rewritten_20b (fun r0 r1 a => a) hQ b))
def pv_6_rewritten (a0 : Int) (a1 : Int) (a2 : Int) (Q : Int → iST → Prop) (u : iST) : Prop :=
  sw (iI u 23 0) (fun u => 
  sw (iI u 24 (-1)) (fun u => 
  pv_6_ask a0 a1 a2 (fun u => 
  pv_6_rewritten_20 Q 0 u) u))
theorem cj_v_6_rewritten {Q1 Q2 Q3 : Int → iST → Prop}  {a0 : Int} {a1 : Int} {a2 : Int} {u : iST} (hQ : ∀ r0 r1, Q1 r0 r1 → Q2 r0 r1 → Q3 r0 r1) : v_6_rewritten a0 a1 a2 Q1 u → pv_6_rewritten a0 a1 a2 Q2 u → v_6_rewritten a0 a1 a2 Q3 u := (sw_cj fun _ => (sw_cj fun _ => (cj_v_6_ask (fun _ => (cj_v_6_rewritten_20  hQ)))))
theorem mn_v_6_rewritten {Q1 Q2 : Int → iST → Prop}  {a0 : Int} {a1 : Int} {a2 : Int} {u : iST} (hQ : ∀ r0 r1, Q1 r0 r1 → Q2 r0 r1) : pv_6_rewritten a0 a1 a2 Q1 u → pv_6_rewritten a0 a1 a2 Q2 u := (sw_mn fun _ => (sw_mn fun _ => (mn_v_6_ask (fun _ => (mn_v_6_rewritten_20  hQ)))))
theorem wp_v_6_rewritten {Q1 Q2 : Int → iST → Prop}  {a0 : Int} {a1 : Int} {a2 : Int} {u : iST} (hQ : ∀ r0 r1, Q1 r0 r1 → Q2 r0 r1) : v_6_rewritten a0 a1 a2 Q1 u → pv_6_rewritten a0 a1 a2 Q2 u := (sw_wp fun _ => (sw_wp fun _ => (wp_v_6_ask (fun _ => (wp_v_6_rewritten_20  hQ)))))
def pv_4_fillSplit_76 (Q : iST → Prop) (x1 : Int) (x2 : Int) (u : iST) : Prop :=
  rd (u.2.1 48 x2) (fun v3 => 
  sw (iA u 48 x1 v3) (fun u => 
  Q u))
theorem cj_v_4_fillSplit_76 {Q1 Q2 Q3 : iST → Prop}  {x1 : Int} {x2 : Int} {u : iST} (hQ : ∀ r0, Q1 r0 → Q2 r0 → Q3 r0) : v_4_fillSplit_76 Q1 x1 x2 u → pv_4_fillSplit_76 Q2 x1 x2 u → v_4_fillSplit_76 Q3 x1 x2 u := (rd_cj fun _ => (sw_cj fun _ => (hQ _)))
theorem mn_v_4_fillSplit_76 {Q1 Q2 : iST → Prop}  {x1 : Int} {x2 : Int} {u : iST} (hQ : ∀ r0, Q1 r0 → Q2 r0) : pv_4_fillSplit_76 Q1 x1 x2 u → pv_4_fillSplit_76 Q2 x1 x2 u := (rd_mn fun _ => (sw_mn fun _ => (hQ _)))
theorem wp_v_4_fillSplit_76 {Q1 Q2 : iST → Prop}  {x1 : Int} {x2 : Int} {u : iST} (hQ : ∀ r0, Q1 r0 → Q2 r0) : v_4_fillSplit_76 Q1 x1 x2 u → pv_4_fillSplit_76 Q2 x1 x2 u := (rd_wp fun _ => (sw_wp fun _ => (hQ _)))
def pv_4_fillSplit_7b (R7 : Int → Int → Int → Int → Int → Int → iST → Prop) (Q : iST → Prop) (x1 : Int) (x2 : Int) (x3 : Int) (x4 : Int) (x5 : Int) (x6 : Int) (u : iST) : Prop :=
  rd (u.2.1 46 x2) (fun v2 => 
  br (v2 ≤ x6) (
    pv_4_fillSplit_76 Q x1 x2 u) (
    rd (u.1 32) (fun v4 => 
    br (v4 ≠ 0) (
      pv_4_fillSplit_76 Q x1 x2 u) (
      br (x6 ≠ x3) (
        bdp x6 30 (rd (u.2.1 49 (30 * x2 + x6)) (fun v5 => 
        pv_10_join x1 v5 (fun u => 
        ovp (x6 + 1) (
        R7 x1 x2 x3 x4 x5 (x6 + 1) u)) u))) (
        pv_10_join x1 x4 (fun u => 
        pv_10_join x1 x5 (fun u => 
        ovp (x6 + 1) (
        R7 x1 x2 x3 x4 x5 (x6 + 1) u)) u) u)))))
theorem cj_v_4_fillSplit_7b {Q1 Q2 Q3 : iST → Prop} {R71 R72 R73 : Int → Int → Int → Int → Int → Int → iST → Prop} {x1 : Int} {x2 : Int} {x3 : Int} {x4 : Int} {x5 : Int} {x6 : Int} {u : iST} (hR7 : ∀ r0 r1 r2 r3 r4 r5 r6, R71 r0 r1 r2 r3 r4 r5 r6 → R72 r0 r1 r2 r3 r4 r5 r6 → R73 r0 r1 r2 r3 r4 r5 r6) (hQ : ∀ r0, Q1 r0 → Q2 r0 → Q3 r0) : v_4_fillSplit_7b R71 Q1 x1 x2 x3 x4 x5 x6 u → pv_4_fillSplit_7b R72 Q2 x1 x2 x3 x4 x5 x6 u → v_4_fillSplit_7b R73 Q3 x1 x2 x3 x4 x5 x6 u := (rd_cj fun _ => (br_cj (cj_v_4_fillSplit_76  hQ) (rd_cj fun _ => (br_cj (cj_v_4_fillSplit_76  hQ) (br_cj (bd_cj (rd_cj fun _ => (cj_v_10_join (fun _ => (ov_cj (hR7 _ _ _ _ _ _ _)))))) (cj_v_10_join (fun _ => (cj_v_10_join (fun _ => (ov_cj (hR7 _ _ _ _ _ _ _)))))))))))
theorem mn_v_4_fillSplit_7b {Q1 Q2 : iST → Prop} {R71 R72 : Int → Int → Int → Int → Int → Int → iST → Prop} {x1 : Int} {x2 : Int} {x3 : Int} {x4 : Int} {x5 : Int} {x6 : Int} {u : iST} (hR7 : ∀ r0 r1 r2 r3 r4 r5 r6, R71 r0 r1 r2 r3 r4 r5 r6 → R72 r0 r1 r2 r3 r4 r5 r6) (hQ : ∀ r0, Q1 r0 → Q2 r0) : pv_4_fillSplit_7b R71 Q1 x1 x2 x3 x4 x5 x6 u → pv_4_fillSplit_7b R72 Q2 x1 x2 x3 x4 x5 x6 u := (rd_mn fun _ => (br_mn (mn_v_4_fillSplit_76  hQ) (rd_mn fun _ => (br_mn (mn_v_4_fillSplit_76  hQ) (br_mn (bd_mn (rd_mn fun _ => (mn_v_10_join (fun _ => (ov_mn (hR7 _ _ _ _ _ _ _)))))) (mn_v_10_join (fun _ => (mn_v_10_join (fun _ => (ov_mn (hR7 _ _ _ _ _ _ _)))))))))))
theorem wp_v_4_fillSplit_7b {Q1 Q2 : iST → Prop} {R71 R72 : Int → Int → Int → Int → Int → Int → iST → Prop} {x1 : Int} {x2 : Int} {x3 : Int} {x4 : Int} {x5 : Int} {x6 : Int} {u : iST} (hR7 : ∀ r0 r1 r2 r3 r4 r5 r6, R71 r0 r1 r2 r3 r4 r5 r6 → R72 r0 r1 r2 r3 r4 r5 r6) (hQ : ∀ r0, Q1 r0 → Q2 r0) : v_4_fillSplit_7b R71 Q1 x1 x2 x3 x4 x5 x6 u → pv_4_fillSplit_7b R72 Q2 x1 x2 x3 x4 x5 x6 u := (rd_wp fun _ => (br_wp (wp_v_4_fillSplit_76  hQ) (rd_wp fun _ => (br_wp (wp_v_4_fillSplit_76  hQ) (br_wp (bd_wp (rd_wp fun _ => (wp_v_10_join (fun _ => (ov_wp (hR7 _ _ _ _ _ _ _)))))) (wp_v_10_join (fun _ => (wp_v_10_join (fun _ => (ov_wp (hR7 _ _ _ _ _ _ _)))))))))))
def pv_4_fillSplit_7 (Q : iST → Prop) (x1 : Int) (x2 : Int) (x3 : Int) (x4 : Int) (x5 : Int) (x6 : Int) (u : iST) : Prop := ∃ R7 : Int → Int → Int → Int → Int → Int → iST → Prop, (∀ (x1 : Int) (x2 : Int) (x3 : Int) (x4 : Int) (x5 : Int) (x6 : Int) (u : iST), R7 x1 x2 x3 x4 x5 x6 u → pv_4_fillSplit_7b R7 Q x1 x2 x3 x4 x5 x6 u) ∧ R7 x1 x2 x3 x4 x5 x6 u
theorem cj_v_4_fillSplit_7 {Q1 Q2 Q3 : iST → Prop}  {x1 : Int} {x2 : Int} {x3 : Int} {x4 : Int} {x5 : Int} {x6 : Int} {u : iST} (hQ : ∀ r0, Q1 r0 → Q2 r0 → Q3 r0) : v_4_fillSplit_7 Q1 x1 x2 x3 x4 x5 x6 u → pv_4_fillSplit_7 Q2 x1 x2 x3 x4 x5 x6 u → v_4_fillSplit_7 Q3 x1 x2 x3 x4 x5 x6 u := by
  intro a b R3 c3
  obtain ⟨R2, c2, b2⟩ := b
  exact a (fun r0 r1 r2 r3 r4 r5 r6 => R2 r0 r1 r2 r3 r4 r5 r6 → R3 r0 r1 r2 r3 r4 r5 r6) (fun r0 r1 r2 r3 r4 r5 r6 a b => c3 r0 r1 r2 r3 r4 r5 r6 (cj_v_4_fillSplit_7b (fun r0 r1 r2 r3 r4 r5 r6 a b => a b) hQ a (c2 r0 r1 r2 r3 r4 r5 r6 b))) b2
theorem pv_4_fillSplit_7_i  {Q : iST → Prop} {x1 : Int} {x2 : Int} {x3 : Int} {x4 : Int} {x5 : Int} {x6 : Int} {u : iST} (I : Int → Int → Int → Int → Int → Int → iST → Prop) (s : ∀ (x1 : Int) (x2 : Int) (x3 : Int) (x4 : Int) (x5 : Int) (x6 : Int) (u : iST), I x1 x2 x3 x4 x5 x6 u → pv_4_fillSplit_7b I Q x1 x2 x3 x4 x5 x6 u) (h : I x1 x2 x3 x4 x5 x6 u) : pv_4_fillSplit_7 Q x1 x2 x3 x4 x5 x6 u := ⟨I, s, h⟩
theorem mn_v_4_fillSplit_7 {Q1 Q2 : iST → Prop}  {x1 : Int} {x2 : Int} {x3 : Int} {x4 : Int} {x5 : Int} {x6 : Int} {u : iST} (hQ : ∀ r0, Q1 r0 → Q2 r0) : pv_4_fillSplit_7 Q1 x1 x2 x3 x4 x5 x6 u → pv_4_fillSplit_7 Q2 x1 x2 x3 x4 x5 x6 u := fun ⟨R, s, h⟩ => ⟨R, fun r0 r1 r2 r3 r4 r5 r6 a => mn_v_4_fillSplit_7b (fun r0 r1 r2 r3 r4 r5 r6 a => a) hQ (s r0 r1 r2 r3 r4 r5 r6 a), h⟩
theorem un_v_4_fillSplit_7  {Q : iST → Prop} {x1 : Int} {x2 : Int} {x3 : Int} {x4 : Int} {x5 : Int} {x6 : Int} {u : iST} : pv_4_fillSplit_7 Q x1 x2 x3 x4 x5 x6 u → pv_4_fillSplit_7b (fun x1 x2 x3 x4 x5 x6 u => pv_4_fillSplit_7 Q x1 x2 x3 x4 x5 x6 u) Q x1 x2 x3 x4 x5 x6 u := fun ⟨R, s, h⟩ => mn_v_4_fillSplit_7b (fun r0 r1 r2 r3 r4 r5 r6 a => ⟨R, s, a⟩) (fun _ h => h) (s _ _ _ _ _ _ _ h)
theorem fo_v_4_fillSplit_7  {Q : iST → Prop} {x1 : Int} {x2 : Int} {x3 : Int} {x4 : Int} {x5 : Int} {x6 : Int} {u : iST} : pv_4_fillSplit_7b (fun x1 x2 x3 x4 x5 x6 u => pv_4_fillSplit_7 Q x1 x2 x3 x4 x5 x6 u) Q x1 x2 x3 x4 x5 x6 u → pv_4_fillSplit_7 Q x1 x2 x3 x4 x5 x6 u := fun h => ⟨fun x1 x2 x3 x4 x5 x6 u => pv_4_fillSplit_7b (fun x1 x2 x3 x4 x5 x6 u => pv_4_fillSplit_7 Q x1 x2 x3 x4 x5 x6 u) Q x1 x2 x3 x4 x5 x6 u, fun r0 r1 r2 r3 r4 r5 r6 a => mn_v_4_fillSplit_7b (fun r0 r1 r2 r3 r4 r5 r6 a => un_v_4_fillSplit_7 a) (fun _ h => h) a, h⟩
theorem wp_v_4_fillSplit_7 {Q1 Q2 : iST → Prop}  {x1 : Int} {x2 : Int} {x3 : Int} {x4 : Int} {x5 : Int} {x6 : Int} {u : iST} (hQ : ∀ r0, Q1 r0 → Q2 r0) : v_4_fillSplit_7 Q1 x1 x2 x3 x4 x5 x6 u → pv_4_fillSplit_7 Q2 x1 x2 x3 x4 x5 x6 u := fun a => a (fun x1 x2 x3 x4 x5 x6 u => pv_4_fillSplit_7 Q2 x1 x2 x3 x4 x5 x6 u) (fun x1 x2 x3 x4 x5 x6 u b => fo_v_4_fillSplit_7 (wp_v_4_fillSplit_7b (fun r0 r1 r2 r3 r4 r5 r6 a => a) hQ b))
def pv_4_fillSplit (a0 : Int) (a1 : Int) (a2 : Int) (a3 : Int) (a4 : Int) (Q : iST → Prop) (u : iST) : Prop :=
  pv_1_clear a0 (fun u => 
  pv_4_fillSplit_7 Q a0 a1 a2 a3 a4 0 u) u
theorem cj_v_4_fillSplit {Q1 Q2 Q3 : iST → Prop}  {a0 : Int} {a1 : Int} {a2 : Int} {a3 : Int} {a4 : Int} {u : iST} (hQ : ∀ r0, Q1 r0 → Q2 r0 → Q3 r0) : v_4_fillSplit a0 a1 a2 a3 a4 Q1 u → pv_4_fillSplit a0 a1 a2 a3 a4 Q2 u → v_4_fillSplit a0 a1 a2 a3 a4 Q3 u := (cj_v_1_clear (fun _ => (cj_v_4_fillSplit_7  hQ)))
theorem mn_v_4_fillSplit {Q1 Q2 : iST → Prop}  {a0 : Int} {a1 : Int} {a2 : Int} {a3 : Int} {a4 : Int} {u : iST} (hQ : ∀ r0, Q1 r0 → Q2 r0) : pv_4_fillSplit a0 a1 a2 a3 a4 Q1 u → pv_4_fillSplit a0 a1 a2 a3 a4 Q2 u := (mn_v_1_clear (fun _ => (mn_v_4_fillSplit_7  hQ)))
theorem wp_v_4_fillSplit {Q1 Q2 : iST → Prop}  {a0 : Int} {a1 : Int} {a2 : Int} {a3 : Int} {a4 : Int} {u : iST} (hQ : ∀ r0, Q1 r0 → Q2 r0) : v_4_fillSplit a0 a1 a2 a3 a4 Q1 u → pv_4_fillSplit a0 a1 a2 a3 a4 Q2 u := (wp_v_1_clear (fun _ => (wp_v_4_fillSplit_7  hQ)))
def pv_4_split_157 (Q : iST → Prop) (x1 : Int) (y1 : Int) (y2 : Int) (y3 : Int) (y4 : Int) (y5 : Int) (u : iST) : Prop :=
  pv_4_fillSplit y1 y2 y3 y4 y5 (fun u => 
  pv_1_copy x1 150 (fun u => 
  rd (u.1 14) (fun v13 => 
  ovp (v13 + 1) (
  sw (iI u 14 (v13 + 1)) (fun u => 
  Q u)))) u) u
theorem cj_v_4_split_157 {Q1 Q2 Q3 : iST → Prop}  {x1 : Int} {y1 : Int} {y2 : Int} {y3 : Int} {y4 : Int} {y5 : Int} {u : iST} (hQ : ∀ r0, Q1 r0 → Q2 r0 → Q3 r0) : v_4_split_157 Q1 x1 y1 y2 y3 y4 y5 u → pv_4_split_157 Q2 x1 y1 y2 y3 y4 y5 u → v_4_split_157 Q3 x1 y1 y2 y3 y4 y5 u := (cj_v_4_fillSplit (fun _ => (cj_v_1_copy (fun _ => (rd_cj fun _ => (ov_cj (sw_cj fun _ => (hQ _))))))))
theorem mn_v_4_split_157 {Q1 Q2 : iST → Prop}  {x1 : Int} {y1 : Int} {y2 : Int} {y3 : Int} {y4 : Int} {y5 : Int} {u : iST} (hQ : ∀ r0, Q1 r0 → Q2 r0) : pv_4_split_157 Q1 x1 y1 y2 y3 y4 y5 u → pv_4_split_157 Q2 x1 y1 y2 y3 y4 y5 u := (mn_v_4_fillSplit (fun _ => (mn_v_1_copy (fun _ => (rd_mn fun _ => (ov_mn (sw_mn fun _ => (hQ _))))))))
theorem wp_v_4_split_157 {Q1 Q2 : iST → Prop}  {x1 : Int} {y1 : Int} {y2 : Int} {y3 : Int} {y4 : Int} {y5 : Int} {u : iST} (hQ : ∀ r0, Q1 r0 → Q2 r0) : v_4_split_157 Q1 x1 y1 y2 y3 y4 y5 u → pv_4_split_157 Q2 x1 y1 y2 y3 y4 y5 u := (wp_v_4_fillSplit (fun _ => (wp_v_1_copy (fun _ => (rd_wp fun _ => (ov_wp (sw_wp fun _ => (hQ _))))))))
def pv_4_split_126 (Q : iST → Prop) (x1 : Int) (x2 : Int) (x4 : Int) (x6 : Int) (x8 : Int) (y1 : Int) (y2 : Int) (y3 : Int) (y4 : Int) (y5 : Int) (u : iST) : Prop :=
  pv_4_fillSplit y1 y2 y3 y4 y5 (fun u => 
  br (x4 = 0) (
    pv_4_split_157 Q x1 150 x1 x2 x6 x8 u) (
    pv_10_negated x8 (fun v15 u => 
    pv_4_split_157 Q x1 150 x1 x2 x6 v15 u) u)) u
theorem cj_v_4_split_126 {Q1 Q2 Q3 : iST → Prop}  {x1 : Int} {x2 : Int} {x4 : Int} {x6 : Int} {x8 : Int} {y1 : Int} {y2 : Int} {y3 : Int} {y4 : Int} {y5 : Int} {u : iST} (hQ : ∀ r0, Q1 r0 → Q2 r0 → Q3 r0) : v_4_split_126 Q1 x1 x2 x4 x6 x8 y1 y2 y3 y4 y5 u → pv_4_split_126 Q2 x1 x2 x4 x6 x8 y1 y2 y3 y4 y5 u → v_4_split_126 Q3 x1 x2 x4 x6 x8 y1 y2 y3 y4 y5 u := (cj_v_4_fillSplit (fun _ => (br_cj (cj_v_4_split_157  hQ) (cj_v_10_negated (fun _ _ => (cj_v_4_split_157  hQ))))))
theorem mn_v_4_split_126 {Q1 Q2 : iST → Prop}  {x1 : Int} {x2 : Int} {x4 : Int} {x6 : Int} {x8 : Int} {y1 : Int} {y2 : Int} {y3 : Int} {y4 : Int} {y5 : Int} {u : iST} (hQ : ∀ r0, Q1 r0 → Q2 r0) : pv_4_split_126 Q1 x1 x2 x4 x6 x8 y1 y2 y3 y4 y5 u → pv_4_split_126 Q2 x1 x2 x4 x6 x8 y1 y2 y3 y4 y5 u := (mn_v_4_fillSplit (fun _ => (br_mn (mn_v_4_split_157  hQ) (mn_v_10_negated (fun _ _ => (mn_v_4_split_157  hQ))))))
theorem wp_v_4_split_126 {Q1 Q2 : iST → Prop}  {x1 : Int} {x2 : Int} {x4 : Int} {x6 : Int} {x8 : Int} {y1 : Int} {y2 : Int} {y3 : Int} {y4 : Int} {y5 : Int} {u : iST} (hQ : ∀ r0, Q1 r0 → Q2 r0) : v_4_split_126 Q1 x1 x2 x4 x6 x8 y1 y2 y3 y4 y5 u → pv_4_split_126 Q2 x1 x2 x4 x6 x8 y1 y2 y3 y4 y5 u := (wp_v_4_fillSplit (fun _ => (br_wp (wp_v_4_split_157  hQ) (wp_v_10_negated (fun _ _ => (wp_v_4_split_157  hQ))))))
def pv_4_split_30 (Q : iST → Prop) (x1 : Int) (x2 : Int) (x4 : Int) (y0 : Int) (u : iST) : Prop :=
  pv_7_item y0 1 (fun v2 u => 
  pv_7_item y0 2 (fun v3 u => 
  pv_7_item y0 3 (fun v4 u => 
  rd (u.1 14) (fun v5 => 
  br (v5 < 10) (
    rd (u.1 14) (fun v6 => 
    bdp v6 10 (
    pv_10_negated v2 (fun v9 u => 
    br (x4 = 0) (
      pv_4_split_126 Q x1 x2 x4 v2 v4 (120 + v6) x1 x2 v9 v3 u) (
      pv_10_negated v3 (fun v16 u => 
      pv_4_split_126 Q x1 x2 x4 v2 v4 (120 + v6) x1 x2 v9 v16 u) u)) u))) (
    pv_7_blame 4 (fun u => 
    Q u) u))) u) u) u
theorem cj_v_4_split_30 {Q1 Q2 Q3 : iST → Prop}  {x1 : Int} {x2 : Int} {x4 : Int} {y0 : Int} {u : iST} (hQ : ∀ r0, Q1 r0 → Q2 r0 → Q3 r0) : v_4_split_30 Q1 x1 x2 x4 y0 u → pv_4_split_30 Q2 x1 x2 x4 y0 u → v_4_split_30 Q3 x1 x2 x4 y0 u := (cj_v_7_item (fun _ _ => (cj_v_7_item (fun _ _ => (cj_v_7_item (fun _ _ => (rd_cj fun _ => (br_cj (rd_cj fun _ => (bd_cj (cj_v_10_negated (fun _ _ => (br_cj (cj_v_4_split_126  hQ) (cj_v_10_negated (fun _ _ => (cj_v_4_split_126  hQ)))))))) (cj_v_7_blame (fun _ => (hQ _)))))))))))
theorem mn_v_4_split_30 {Q1 Q2 : iST → Prop}  {x1 : Int} {x2 : Int} {x4 : Int} {y0 : Int} {u : iST} (hQ : ∀ r0, Q1 r0 → Q2 r0) : pv_4_split_30 Q1 x1 x2 x4 y0 u → pv_4_split_30 Q2 x1 x2 x4 y0 u := (mn_v_7_item (fun _ _ => (mn_v_7_item (fun _ _ => (mn_v_7_item (fun _ _ => (rd_mn fun _ => (br_mn (rd_mn fun _ => (bd_mn (mn_v_10_negated (fun _ _ => (br_mn (mn_v_4_split_126  hQ) (mn_v_10_negated (fun _ _ => (mn_v_4_split_126  hQ)))))))) (mn_v_7_blame (fun _ => (hQ _)))))))))))
theorem wp_v_4_split_30 {Q1 Q2 : iST → Prop}  {x1 : Int} {x2 : Int} {x4 : Int} {y0 : Int} {u : iST} (hQ : ∀ r0, Q1 r0 → Q2 r0) : v_4_split_30 Q1 x1 x2 x4 y0 u → pv_4_split_30 Q2 x1 x2 x4 y0 u := (wp_v_7_item (fun _ _ => (wp_v_7_item (fun _ _ => (wp_v_7_item (fun _ _ => (rd_wp fun _ => (br_wp (rd_wp fun _ => (bd_wp (wp_v_10_negated (fun _ _ => (br_wp (wp_v_4_split_126  hQ) (wp_v_10_negated (fun _ _ => (wp_v_4_split_126  hQ)))))))) (wp_v_7_blame (fun _ => (hQ _)))))))))))
def pv_4_split (a0 : Int) (a1 : Int) (a2 : Int) (Q : iST → Prop) (u : iST) : Prop :=
  pv_7_isCallOf a2 16 (fun v1 u => 
  br (v1 = 0) (
    pv_4_split_30 Q a0 a1 v1 a2 u) (
    pv_7_item a2 1 (fun v18 u => 
    pv_4_split_30 Q a0 a1 v1 v18 u) u)) u
theorem cj_v_4_split {Q1 Q2 Q3 : iST → Prop}  {a0 : Int} {a1 : Int} {a2 : Int} {u : iST} (hQ : ∀ r0, Q1 r0 → Q2 r0 → Q3 r0) : v_4_split a0 a1 a2 Q1 u → pv_4_split a0 a1 a2 Q2 u → v_4_split a0 a1 a2 Q3 u := (cj_v_7_isCallOf (fun _ _ => (br_cj (cj_v_4_split_30  hQ) (cj_v_7_item (fun _ _ => (cj_v_4_split_30  hQ))))))
theorem mn_v_4_split {Q1 Q2 : iST → Prop}  {a0 : Int} {a1 : Int} {a2 : Int} {u : iST} (hQ : ∀ r0, Q1 r0 → Q2 r0) : pv_4_split a0 a1 a2 Q1 u → pv_4_split a0 a1 a2 Q2 u := (mn_v_7_isCallOf (fun _ _ => (br_mn (mn_v_4_split_30  hQ) (mn_v_7_item (fun _ _ => (mn_v_4_split_30  hQ))))))
theorem wp_v_4_split {Q1 Q2 : iST → Prop}  {a0 : Int} {a1 : Int} {a2 : Int} {u : iST} (hQ : ∀ r0, Q1 r0 → Q2 r0) : v_4_split a0 a1 a2 Q1 u → pv_4_split a0 a1 a2 Q2 u := (wp_v_7_isCallOf (fun _ _ => (br_wp (wp_v_4_split_30  hQ) (wp_v_7_item (fun _ _ => (wp_v_4_split_30  hQ))))))
def pv_4_stands_63 (Q : Int → iST → Prop) (x1 : Int) (x2 : Int) (x3 : Int) (u : iST) : Prop :=
  pv_7_sizeOf x3 (fun v5 u => 
  pv_1_insert x1 x2 x3 v5 (fun v6 u => 
  ztp 1 (Q 1 u)) u) u
theorem cj_v_4_stands_63 {Q1 Q2 Q3 : Int → iST → Prop}  {x1 : Int} {x2 : Int} {x3 : Int} {u : iST} (hQ : ∀ r0 r1, Q1 r0 r1 → Q2 r0 r1 → Q3 r0 r1) : v_4_stands_63 Q1 x1 x2 x3 u → pv_4_stands_63 Q2 x1 x2 x3 u → v_4_stands_63 Q3 x1 x2 x3 u := (cj_v_7_sizeOf (fun _ _ => (cj_v_1_insert (fun _ _ => (zt_cj (hQ _ _))))))
theorem mn_v_4_stands_63 {Q1 Q2 : Int → iST → Prop}  {x1 : Int} {x2 : Int} {x3 : Int} {u : iST} (hQ : ∀ r0 r1, Q1 r0 r1 → Q2 r0 r1) : pv_4_stands_63 Q1 x1 x2 x3 u → pv_4_stands_63 Q2 x1 x2 x3 u := (mn_v_7_sizeOf (fun _ _ => (mn_v_1_insert (fun _ _ => (zt_mn (hQ _ _))))))
theorem wp_v_4_stands_63 {Q1 Q2 : Int → iST → Prop}  {x1 : Int} {x2 : Int} {x3 : Int} {u : iST} (hQ : ∀ r0 r1, Q1 r0 r1 → Q2 r0 r1) : v_4_stands_63 Q1 x1 x2 x3 u → pv_4_stands_63 Q2 x1 x2 x3 u := (wp_v_7_sizeOf (fun _ _ => (wp_v_1_insert (fun _ _ => (zt_wp (hQ _ _))))))
def pv_4_stands_43 (Q : Int → iST → Prop) (x1 : Int) (x2 : Int) (x3 : Int) (x4 : Int) (u : iST) : Prop :=
  br (x4 = (-1)) (
    pv_4_stands_63 Q x1 x2 x3 u) (
    pv_7_sizeOf x3 (fun v7 u => 
    pv_1_remove x1 x4 v7 (fun u => 
    pv_4_stands_63 Q x1 x2 x3 u) u) u)
theorem cj_v_4_stands_43 {Q1 Q2 Q3 : Int → iST → Prop}  {x1 : Int} {x2 : Int} {x3 : Int} {x4 : Int} {u : iST} (hQ : ∀ r0 r1, Q1 r0 r1 → Q2 r0 r1 → Q3 r0 r1) : v_4_stands_43 Q1 x1 x2 x3 x4 u → pv_4_stands_43 Q2 x1 x2 x3 x4 u → v_4_stands_43 Q3 x1 x2 x3 x4 u := (br_cj (cj_v_4_stands_63  hQ) (cj_v_7_sizeOf (fun _ _ => (cj_v_1_remove (fun _ => (cj_v_4_stands_63  hQ))))))
theorem mn_v_4_stands_43 {Q1 Q2 : Int → iST → Prop}  {x1 : Int} {x2 : Int} {x3 : Int} {x4 : Int} {u : iST} (hQ : ∀ r0 r1, Q1 r0 r1 → Q2 r0 r1) : pv_4_stands_43 Q1 x1 x2 x3 x4 u → pv_4_stands_43 Q2 x1 x2 x3 x4 u := (br_mn (mn_v_4_stands_63  hQ) (mn_v_7_sizeOf (fun _ _ => (mn_v_1_remove (fun _ => (mn_v_4_stands_63  hQ))))))
theorem wp_v_4_stands_43 {Q1 Q2 : Int → iST → Prop}  {x1 : Int} {x2 : Int} {x3 : Int} {x4 : Int} {u : iST} (hQ : ∀ r0 r1, Q1 r0 r1 → Q2 r0 r1) : v_4_stands_43 Q1 x1 x2 x3 x4 u → pv_4_stands_43 Q2 x1 x2 x3 x4 u := (br_wp (wp_v_4_stands_63  hQ) (wp_v_7_sizeOf (fun _ _ => (wp_v_1_remove (fun _ => (wp_v_4_stands_63  hQ))))))
def pv_4_stands (a0 : Int) (a1 : Int) (a2 : Int) (Q : Int → iST → Prop) (u : iST) : Prop :=
  bdp a1 30 (rd (u.2.1 49 (30 * a0 + a1)) (fun v1 => 
  pv_7_sizeOf v1 (fun v2 u => 
  pv_1_remove a0 a1 v2 (fun u => 
  pv_1_placeOf a0 a2 (fun v4 u => 
  br (a2 = 0) (
    ztp 0 (Q 0 u)) (
    br (v4 = (-1)) (
      pv_4_stands_43 Q a0 a1 a2 v4 u) (
      br (a1 ≤ v4) (
        pv_4_stands_43 Q a0 a1 a2 v4 u) (
        ztp 0 (Q 0 u))))) u) u) u))
theorem cj_v_4_stands {Q1 Q2 Q3 : Int → iST → Prop}  {a0 : Int} {a1 : Int} {a2 : Int} {u : iST} (hQ : ∀ r0 r1, Q1 r0 r1 → Q2 r0 r1 → Q3 r0 r1) : v_4_stands a0 a1 a2 Q1 u → pv_4_stands a0 a1 a2 Q2 u → v_4_stands a0 a1 a2 Q3 u := (bd_cj (rd_cj fun _ => (cj_v_7_sizeOf (fun _ _ => (cj_v_1_remove (fun _ => (cj_v_1_placeOf (fun _ _ => (br_cj (zt_cj (hQ _ _)) (br_cj (cj_v_4_stands_43  hQ) (br_cj (cj_v_4_stands_43  hQ) (zt_cj (hQ _ _)))))))))))))
theorem mn_v_4_stands {Q1 Q2 : Int → iST → Prop}  {a0 : Int} {a1 : Int} {a2 : Int} {u : iST} (hQ : ∀ r0 r1, Q1 r0 r1 → Q2 r0 r1) : pv_4_stands a0 a1 a2 Q1 u → pv_4_stands a0 a1 a2 Q2 u := (bd_mn (rd_mn fun _ => (mn_v_7_sizeOf (fun _ _ => (mn_v_1_remove (fun _ => (mn_v_1_placeOf (fun _ _ => (br_mn (zt_mn (hQ _ _)) (br_mn (mn_v_4_stands_43  hQ) (br_mn (mn_v_4_stands_43  hQ) (zt_mn (hQ _ _)))))))))))))
theorem wp_v_4_stands {Q1 Q2 : Int → iST → Prop}  {a0 : Int} {a1 : Int} {a2 : Int} {u : iST} (hQ : ∀ r0 r1, Q1 r0 r1 → Q2 r0 r1) : v_4_stands a0 a1 a2 Q1 u → pv_4_stands a0 a1 a2 Q2 u := (bd_wp (rd_wp fun _ => (wp_v_7_sizeOf (fun _ _ => (wp_v_1_remove (fun _ => (wp_v_1_placeOf (fun _ _ => (br_wp (zt_wp (hQ _ _)) (br_wp (wp_v_4_stands_43  hQ) (br_wp (wp_v_4_stands_43  hQ) (zt_wp (hQ _ _)))))))))))))
def pv_4_makeRound_250 (Q : iST → Prop) (x1 : Int) (x2 : Int) (u : iST) : Prop :=
  br (x2 ≠ 0) (
    pv_1_isTooBig x1 (fun v3 u => 
    br (v3 = 0) (
      Q u) (
      pv_7_blame 4 (fun u => 
      Q u) u)) u) (
    pv_4_leave x1 (fun u => 
    Q u) u)
theorem cj_v_4_makeRound_250 {Q1 Q2 Q3 : iST → Prop}  {x1 : Int} {x2 : Int} {u : iST} (hQ : ∀ r0, Q1 r0 → Q2 r0 → Q3 r0) : v_4_makeRound_250 Q1 x1 x2 u → pv_4_makeRound_250 Q2 x1 x2 u → v_4_makeRound_250 Q3 x1 x2 u := (br_cj (cj_v_1_isTooBig (fun _ _ => (br_cj (hQ _) (cj_v_7_blame (fun _ => (hQ _)))))) (cj_v_4_leave (fun _ => (hQ _))))
theorem mn_v_4_makeRound_250 {Q1 Q2 : iST → Prop}  {x1 : Int} {x2 : Int} {u : iST} (hQ : ∀ r0, Q1 r0 → Q2 r0) : pv_4_makeRound_250 Q1 x1 x2 u → pv_4_makeRound_250 Q2 x1 x2 u := (br_mn (mn_v_1_isTooBig (fun _ _ => (br_mn (hQ _) (mn_v_7_blame (fun _ => (hQ _)))))) (mn_v_4_leave (fun _ => (hQ _))))
theorem wp_v_4_makeRound_250 {Q1 Q2 : iST → Prop}  {x1 : Int} {x2 : Int} {u : iST} (hQ : ∀ r0, Q1 r0 → Q2 r0) : v_4_makeRound_250 Q1 x1 x2 u → pv_4_makeRound_250 Q2 x1 x2 u := (br_wp (wp_v_1_isTooBig (fun _ _ => (br_wp (hQ _) (wp_v_7_blame (fun _ => (hQ _)))))) (wp_v_4_leave (fun _ => (hQ _))))
def pv_4_makeRound_177 (Q : iST → Prop) (x1 : Int) (x3 : Int) (x7 : Int) (u : iST) : Prop :=
  pv_4_split x1 x3 x7 (fun u => 
  Q u) u
theorem cj_v_4_makeRound_177 {Q1 Q2 Q3 : iST → Prop}  {x1 : Int} {x3 : Int} {x7 : Int} {u : iST} (hQ : ∀ r0, Q1 r0 → Q2 r0 → Q3 r0) : v_4_makeRound_177 Q1 x1 x3 x7 u → pv_4_makeRound_177 Q2 x1 x3 x7 u → v_4_makeRound_177 Q3 x1 x3 x7 u := (cj_v_4_split (fun _ => (hQ _)))
theorem mn_v_4_makeRound_177 {Q1 Q2 : iST → Prop}  {x1 : Int} {x3 : Int} {x7 : Int} {u : iST} (hQ : ∀ r0, Q1 r0 → Q2 r0) : pv_4_makeRound_177 Q1 x1 x3 x7 u → pv_4_makeRound_177 Q2 x1 x3 x7 u := (mn_v_4_split (fun _ => (hQ _)))
theorem wp_v_4_makeRound_177 {Q1 Q2 : iST → Prop}  {x1 : Int} {x3 : Int} {x7 : Int} {u : iST} (hQ : ∀ r0, Q1 r0 → Q2 r0) : v_4_makeRound_177 Q1 x1 x3 x7 u → pv_4_makeRound_177 Q2 x1 x3 x7 u := (wp_v_4_split (fun _ => (hQ _)))
def pv_4_makeRound_237 (R17 : Int → Int → Int → Int → iST → Prop) (Q : iST → Prop) (x1 : Int) (x2 : Int) (x4 : Int) (y0 : Int) (u : iST) : Prop :=
  ovp (y0 + 1) (
  ovp (x4 + 1) (
  R17 x1 x2 (y0 + 1) (x4 + 1) u))
theorem cj_v_4_makeRound_237 {Q1 Q2 Q3 : iST → Prop} {R171 R172 R173 : Int → Int → Int → Int → iST → Prop} {x1 : Int} {x2 : Int} {x4 : Int} {y0 : Int} {u : iST} (hR17 : ∀ r0 r1 r2 r3 r4, R171 r0 r1 r2 r3 r4 → R172 r0 r1 r2 r3 r4 → R173 r0 r1 r2 r3 r4) (hQ : ∀ r0, Q1 r0 → Q2 r0 → Q3 r0) : v_4_makeRound_237 R171 Q1 x1 x2 x4 y0 u → pv_4_makeRound_237 R172 Q2 x1 x2 x4 y0 u → v_4_makeRound_237 R173 Q3 x1 x2 x4 y0 u := (ov_cj (ov_cj (hR17 _ _ _ _ _)))
theorem mn_v_4_makeRound_237 {Q1 Q2 : iST → Prop} {R171 R172 : Int → Int → Int → Int → iST → Prop} {x1 : Int} {x2 : Int} {x4 : Int} {y0 : Int} {u : iST} (hR17 : ∀ r0 r1 r2 r3 r4, R171 r0 r1 r2 r3 r4 → R172 r0 r1 r2 r3 r4) (hQ : ∀ r0, Q1 r0 → Q2 r0) : pv_4_makeRound_237 R171 Q1 x1 x2 x4 y0 u → pv_4_makeRound_237 R172 Q2 x1 x2 x4 y0 u := (ov_mn (ov_mn (hR17 _ _ _ _ _)))
theorem wp_v_4_makeRound_237 {Q1 Q2 : iST → Prop} {R171 R172 : Int → Int → Int → Int → iST → Prop} {x1 : Int} {x2 : Int} {x4 : Int} {y0 : Int} {u : iST} (hR17 : ∀ r0 r1 r2 r3 r4, R171 r0 r1 r2 r3 r4 → R172 r0 r1 r2 r3 r4) (hQ : ∀ r0, Q1 r0 → Q2 r0) : v_4_makeRound_237 R171 Q1 x1 x2 x4 y0 u → pv_4_makeRound_237 R172 Q2 x1 x2 x4 y0 u := (ov_wp (ov_wp (hR17 _ _ _ _ _)))
def pv_4_makeRound_219 (R17 : Int → Int → Int → Int → iST → Prop) (Q : iST → Prop) (x1 : Int) (x3 : Int) (x4 : Int) (x7 : Int) (x8 : Int) (y0 : Int) (u : iST) : Prop :=
  br (x8 ≠ 0) (
    pv_4_makeRound_237 R17 Q x1 y0 x4 x3 u) (
    pv_4_stands x1 x3 x7 (fun v15 u => 
    br (v15 = 0) (
      ovp (x3 + 0) (
      ovp (x4 + 1) (
      R17 x1 y0 (x3 + 0) (x4 + 1) u))) (
      pv_4_makeRound_237 R17 Q x1 y0 x4 x3 u)) u)
theorem cj_v_4_makeRound_219 {Q1 Q2 Q3 : iST → Prop} {R171 R172 R173 : Int → Int → Int → Int → iST → Prop} {x1 : Int} {x3 : Int} {x4 : Int} {x7 : Int} {x8 : Int} {y0 : Int} {u : iST} (hR17 : ∀ r0 r1 r2 r3 r4, R171 r0 r1 r2 r3 r4 → R172 r0 r1 r2 r3 r4 → R173 r0 r1 r2 r3 r4) (hQ : ∀ r0, Q1 r0 → Q2 r0 → Q3 r0) : v_4_makeRound_219 R171 Q1 x1 x3 x4 x7 x8 y0 u → pv_4_makeRound_219 R172 Q2 x1 x3 x4 x7 x8 y0 u → v_4_makeRound_219 R173 Q3 x1 x3 x4 x7 x8 y0 u := (br_cj (cj_v_4_makeRound_237 hR17 hQ) (cj_v_4_stands (fun _ _ => (br_cj (ov_cj (ov_cj (hR17 _ _ _ _ _))) (cj_v_4_makeRound_237 hR17 hQ)))))
theorem mn_v_4_makeRound_219 {Q1 Q2 : iST → Prop} {R171 R172 : Int → Int → Int → Int → iST → Prop} {x1 : Int} {x3 : Int} {x4 : Int} {x7 : Int} {x8 : Int} {y0 : Int} {u : iST} (hR17 : ∀ r0 r1 r2 r3 r4, R171 r0 r1 r2 r3 r4 → R172 r0 r1 r2 r3 r4) (hQ : ∀ r0, Q1 r0 → Q2 r0) : pv_4_makeRound_219 R171 Q1 x1 x3 x4 x7 x8 y0 u → pv_4_makeRound_219 R172 Q2 x1 x3 x4 x7 x8 y0 u := (br_mn (mn_v_4_makeRound_237 hR17 hQ) (mn_v_4_stands (fun _ _ => (br_mn (ov_mn (ov_mn (hR17 _ _ _ _ _))) (mn_v_4_makeRound_237 hR17 hQ)))))
theorem wp_v_4_makeRound_219 {Q1 Q2 : iST → Prop} {R171 R172 : Int → Int → Int → Int → iST → Prop} {x1 : Int} {x3 : Int} {x4 : Int} {x7 : Int} {x8 : Int} {y0 : Int} {u : iST} (hR17 : ∀ r0 r1 r2 r3 r4, R171 r0 r1 r2 r3 r4 → R172 r0 r1 r2 r3 r4) (hQ : ∀ r0, Q1 r0 → Q2 r0) : v_4_makeRound_219 R171 Q1 x1 x3 x4 x7 x8 y0 u → pv_4_makeRound_219 R172 Q2 x1 x3 x4 x7 x8 y0 u := (br_wp (wp_v_4_makeRound_237 hR17 hQ) (wp_v_4_stands (fun _ _ => (br_wp (ov_wp (ov_wp (hR17 _ _ _ _ _))) (wp_v_4_makeRound_237 hR17 hQ)))))
def pv_4_makeRound_214 (R17 : Int → Int → Int → Int → iST → Prop) (Q : iST → Prop) (x1 : Int) (x3 : Int) (x4 : Int) (x7 : Int) (x8 : Int) (u : iST) : Prop :=
  pv_4_makeRound_219 R17 Q x1 x3 x4 x7 x8 1 u
theorem cj_v_4_makeRound_214 {Q1 Q2 Q3 : iST → Prop} {R171 R172 R173 : Int → Int → Int → Int → iST → Prop} {x1 : Int} {x3 : Int} {x4 : Int} {x7 : Int} {x8 : Int} {u : iST} (hR17 : ∀ r0 r1 r2 r3 r4, R171 r0 r1 r2 r3 r4 → R172 r0 r1 r2 r3 r4 → R173 r0 r1 r2 r3 r4) (hQ : ∀ r0, Q1 r0 → Q2 r0 → Q3 r0) : v_4_makeRound_214 R171 Q1 x1 x3 x4 x7 x8 u → pv_4_makeRound_214 R172 Q2 x1 x3 x4 x7 x8 u → v_4_makeRound_214 R173 Q3 x1 x3 x4 x7 x8 u := (cj_v_4_makeRound_219 hR17 hQ)
theorem mn_v_4_makeRound_214 {Q1 Q2 : iST → Prop} {R171 R172 : Int → Int → Int → Int → iST → Prop} {x1 : Int} {x3 : Int} {x4 : Int} {x7 : Int} {x8 : Int} {u : iST} (hR17 : ∀ r0 r1 r2 r3 r4, R171 r0 r1 r2 r3 r4 → R172 r0 r1 r2 r3 r4) (hQ : ∀ r0, Q1 r0 → Q2 r0) : pv_4_makeRound_214 R171 Q1 x1 x3 x4 x7 x8 u → pv_4_makeRound_214 R172 Q2 x1 x3 x4 x7 x8 u := (mn_v_4_makeRound_219 hR17 hQ)
theorem wp_v_4_makeRound_214 {Q1 Q2 : iST → Prop} {R171 R172 : Int → Int → Int → Int → iST → Prop} {x1 : Int} {x3 : Int} {x4 : Int} {x7 : Int} {x8 : Int} {u : iST} (hR17 : ∀ r0 r1 r2 r3 r4, R171 r0 r1 r2 r3 r4 → R172 r0 r1 r2 r3 r4) (hQ : ∀ r0, Q1 r0 → Q2 r0) : v_4_makeRound_214 R171 Q1 x1 x3 x4 x7 x8 u → pv_4_makeRound_214 R172 Q2 x1 x3 x4 x7 x8 u := (wp_v_4_makeRound_219 hR17 hQ)
def pv_4_makeRound_203 (R17 : Int → Int → Int → Int → iST → Prop) (Q : iST → Prop) (x1 : Int) (x2 : Int) (x3 : Int) (x4 : Int) (x7 : Int) (y0 : Int) (u : iST) : Prop :=
  br (x2 ≠ 0) (
    pv_4_makeRound_214 R17 Q x1 x3 x4 x7 y0 u) (
    br (y0 ≠ 0) (
      pv_4_makeRound_219 R17 Q x1 x3 x4 x7 y0 0 u) (
      pv_4_makeRound_214 R17 Q x1 x3 x4 x7 y0 u))
theorem cj_v_4_makeRound_203 {Q1 Q2 Q3 : iST → Prop} {R171 R172 R173 : Int → Int → Int → Int → iST → Prop} {x1 : Int} {x2 : Int} {x3 : Int} {x4 : Int} {x7 : Int} {y0 : Int} {u : iST} (hR17 : ∀ r0 r1 r2 r3 r4, R171 r0 r1 r2 r3 r4 → R172 r0 r1 r2 r3 r4 → R173 r0 r1 r2 r3 r4) (hQ : ∀ r0, Q1 r0 → Q2 r0 → Q3 r0) : v_4_makeRound_203 R171 Q1 x1 x2 x3 x4 x7 y0 u → pv_4_makeRound_203 R172 Q2 x1 x2 x3 x4 x7 y0 u → v_4_makeRound_203 R173 Q3 x1 x2 x3 x4 x7 y0 u := (br_cj (cj_v_4_makeRound_214 hR17 hQ) (br_cj (cj_v_4_makeRound_219 hR17 hQ) (cj_v_4_makeRound_214 hR17 hQ)))
theorem mn_v_4_makeRound_203 {Q1 Q2 : iST → Prop} {R171 R172 : Int → Int → Int → Int → iST → Prop} {x1 : Int} {x2 : Int} {x3 : Int} {x4 : Int} {x7 : Int} {y0 : Int} {u : iST} (hR17 : ∀ r0 r1 r2 r3 r4, R171 r0 r1 r2 r3 r4 → R172 r0 r1 r2 r3 r4) (hQ : ∀ r0, Q1 r0 → Q2 r0) : pv_4_makeRound_203 R171 Q1 x1 x2 x3 x4 x7 y0 u → pv_4_makeRound_203 R172 Q2 x1 x2 x3 x4 x7 y0 u := (br_mn (mn_v_4_makeRound_214 hR17 hQ) (br_mn (mn_v_4_makeRound_219 hR17 hQ) (mn_v_4_makeRound_214 hR17 hQ)))
theorem wp_v_4_makeRound_203 {Q1 Q2 : iST → Prop} {R171 R172 : Int → Int → Int → Int → iST → Prop} {x1 : Int} {x2 : Int} {x3 : Int} {x4 : Int} {x7 : Int} {y0 : Int} {u : iST} (hR17 : ∀ r0 r1 r2 r3 r4, R171 r0 r1 r2 r3 r4 → R172 r0 r1 r2 r3 r4) (hQ : ∀ r0, Q1 r0 → Q2 r0) : v_4_makeRound_203 R171 Q1 x1 x2 x3 x4 x7 y0 u → pv_4_makeRound_203 R172 Q2 x1 x2 x3 x4 x7 y0 u := (br_wp (wp_v_4_makeRound_214 hR17 hQ) (br_wp (wp_v_4_makeRound_219 hR17 hQ) (wp_v_4_makeRound_214 hR17 hQ)))
def pv_4_makeRound_202 (R17 : Int → Int → Int → Int → iST → Prop) (Q : iST → Prop) (x1 : Int) (x2 : Int) (x3 : Int) (x4 : Int) (x7 : Int) (u : iST) : Prop :=
  pv_4_makeRound_203 R17 Q x1 x2 x3 x4 x7 0 u
theorem cj_v_4_makeRound_202 {Q1 Q2 Q3 : iST → Prop} {R171 R172 R173 : Int → Int → Int → Int → iST → Prop} {x1 : Int} {x2 : Int} {x3 : Int} {x4 : Int} {x7 : Int} {u : iST} (hR17 : ∀ r0 r1 r2 r3 r4, R171 r0 r1 r2 r3 r4 → R172 r0 r1 r2 r3 r4 → R173 r0 r1 r2 r3 r4) (hQ : ∀ r0, Q1 r0 → Q2 r0 → Q3 r0) : v_4_makeRound_202 R171 Q1 x1 x2 x3 x4 x7 u → pv_4_makeRound_202 R172 Q2 x1 x2 x3 x4 x7 u → v_4_makeRound_202 R173 Q3 x1 x2 x3 x4 x7 u := (cj_v_4_makeRound_203 hR17 hQ)
theorem mn_v_4_makeRound_202 {Q1 Q2 : iST → Prop} {R171 R172 : Int → Int → Int → Int → iST → Prop} {x1 : Int} {x2 : Int} {x3 : Int} {x4 : Int} {x7 : Int} {u : iST} (hR17 : ∀ r0 r1 r2 r3 r4, R171 r0 r1 r2 r3 r4 → R172 r0 r1 r2 r3 r4) (hQ : ∀ r0, Q1 r0 → Q2 r0) : pv_4_makeRound_202 R171 Q1 x1 x2 x3 x4 x7 u → pv_4_makeRound_202 R172 Q2 x1 x2 x3 x4 x7 u := (mn_v_4_makeRound_203 hR17 hQ)
theorem wp_v_4_makeRound_202 {Q1 Q2 : iST → Prop} {R171 R172 : Int → Int → Int → Int → iST → Prop} {x1 : Int} {x2 : Int} {x3 : Int} {x4 : Int} {x7 : Int} {u : iST} (hR17 : ∀ r0 r1 r2 r3 r4, R171 r0 r1 r2 r3 r4 → R172 r0 r1 r2 r3 r4) (hQ : ∀ r0, Q1 r0 → Q2 r0) : v_4_makeRound_202 R171 Q1 x1 x2 x3 x4 x7 u → pv_4_makeRound_202 R172 Q2 x1 x2 x3 x4 x7 u := (wp_v_4_makeRound_203 hR17 hQ)
def pv_4_makeRound_186 (R17 : Int → Int → Int → Int → iST → Prop) (Q : iST → Prop) (x1 : Int) (x2 : Int) (x3 : Int) (x4 : Int) (x5 : Int) (x7 : Int) (u : iST) : Prop :=
  br (x7 ≠ x5) (
    pv_4_makeRound_202 R17 Q x1 x2 x3 x4 x7 u) (
    br (x7 = 0) (
      pv_4_makeRound_202 R17 Q x1 x2 x3 x4 x7 u) (
      pv_4_makeRound_203 R17 Q x1 x2 x3 x4 x7 1 u))
theorem cj_v_4_makeRound_186 {Q1 Q2 Q3 : iST → Prop} {R171 R172 R173 : Int → Int → Int → Int → iST → Prop} {x1 : Int} {x2 : Int} {x3 : Int} {x4 : Int} {x5 : Int} {x7 : Int} {u : iST} (hR17 : ∀ r0 r1 r2 r3 r4, R171 r0 r1 r2 r3 r4 → R172 r0 r1 r2 r3 r4 → R173 r0 r1 r2 r3 r4) (hQ : ∀ r0, Q1 r0 → Q2 r0 → Q3 r0) : v_4_makeRound_186 R171 Q1 x1 x2 x3 x4 x5 x7 u → pv_4_makeRound_186 R172 Q2 x1 x2 x3 x4 x5 x7 u → v_4_makeRound_186 R173 Q3 x1 x2 x3 x4 x5 x7 u := (br_cj (cj_v_4_makeRound_202 hR17 hQ) (br_cj (cj_v_4_makeRound_202 hR17 hQ) (cj_v_4_makeRound_203 hR17 hQ)))
theorem mn_v_4_makeRound_186 {Q1 Q2 : iST → Prop} {R171 R172 : Int → Int → Int → Int → iST → Prop} {x1 : Int} {x2 : Int} {x3 : Int} {x4 : Int} {x5 : Int} {x7 : Int} {u : iST} (hR17 : ∀ r0 r1 r2 r3 r4, R171 r0 r1 r2 r3 r4 → R172 r0 r1 r2 r3 r4) (hQ : ∀ r0, Q1 r0 → Q2 r0) : pv_4_makeRound_186 R171 Q1 x1 x2 x3 x4 x5 x7 u → pv_4_makeRound_186 R172 Q2 x1 x2 x3 x4 x5 x7 u := (br_mn (mn_v_4_makeRound_202 hR17 hQ) (br_mn (mn_v_4_makeRound_202 hR17 hQ) (mn_v_4_makeRound_203 hR17 hQ)))
theorem wp_v_4_makeRound_186 {Q1 Q2 : iST → Prop} {R171 R172 : Int → Int → Int → Int → iST → Prop} {x1 : Int} {x2 : Int} {x3 : Int} {x4 : Int} {x5 : Int} {x7 : Int} {u : iST} (hR17 : ∀ r0 r1 r2 r3 r4, R171 r0 r1 r2 r3 r4 → R172 r0 r1 r2 r3 r4) (hQ : ∀ r0, Q1 r0 → Q2 r0) : v_4_makeRound_186 R171 Q1 x1 x2 x3 x4 x5 x7 u → pv_4_makeRound_186 R172 Q2 x1 x2 x3 x4 x5 x7 u := (br_wp (wp_v_4_makeRound_202 hR17 hQ) (br_wp (wp_v_4_makeRound_202 hR17 hQ) (wp_v_4_makeRound_203 hR17 hQ)))
def pv_4_makeRound_97 (R17 : Int → Int → Int → Int → iST → Prop) (Q : iST → Prop) (x1 : Int) (x2 : Int) (x3 : Int) (x4 : Int) (x5 : Int) (x7 : Int) (u : iST) : Prop :=
  br (x7 ≠ (-1)) (
    br (x7 ≠ 1) (
      pv_7_isCallOf x7 3 (fun v10 u => 
      br (v10 ≠ 0) (
        pv_4_makeRound_177 Q x1 x3 x7 u) (
        pv_7_isCallOf x7 16 (fun v12 u => 
        br (v12 = 0) (
          pv_4_makeRound_186 R17 Q x1 x2 x3 x4 x5 x7 u) (
          pv_7_item x7 1 (fun v18 u => 
          pv_7_isCallOf v18 3 (fun v19 u => 
          br (v19 = 0) (
            pv_4_makeRound_186 R17 Q x1 x2 x3 x4 x5 x7 u) (
            pv_4_makeRound_177 Q x1 x3 x7 u)) u) u)) u)) u) (
      rd (u.1 14) (fun v20 => 
      ovp (v20 - 1) (
      sw (iI u 14 (v20 - 1)) (fun u => 
      Q u))))) (
    pv_7_blame 4 (fun u => 
    Q u) u)
theorem cj_v_4_makeRound_97 {Q1 Q2 Q3 : iST → Prop} {R171 R172 R173 : Int → Int → Int → Int → iST → Prop} {x1 : Int} {x2 : Int} {x3 : Int} {x4 : Int} {x5 : Int} {x7 : Int} {u : iST} (hR17 : ∀ r0 r1 r2 r3 r4, R171 r0 r1 r2 r3 r4 → R172 r0 r1 r2 r3 r4 → R173 r0 r1 r2 r3 r4) (hQ : ∀ r0, Q1 r0 → Q2 r0 → Q3 r0) : v_4_makeRound_97 R171 Q1 x1 x2 x3 x4 x5 x7 u → pv_4_makeRound_97 R172 Q2 x1 x2 x3 x4 x5 x7 u → v_4_makeRound_97 R173 Q3 x1 x2 x3 x4 x5 x7 u := (br_cj (br_cj (cj_v_7_isCallOf (fun _ _ => (br_cj (cj_v_4_makeRound_177  hQ) (cj_v_7_isCallOf (fun _ _ => (br_cj (cj_v_4_makeRound_186 hR17 hQ) (cj_v_7_item (fun _ _ => (cj_v_7_isCallOf (fun _ _ => (br_cj (cj_v_4_makeRound_186 hR17 hQ) (cj_v_4_makeRound_177  hQ)))))))))))) (rd_cj fun _ => (ov_cj (sw_cj fun _ => (hQ _))))) (cj_v_7_blame (fun _ => (hQ _))))
theorem mn_v_4_makeRound_97 {Q1 Q2 : iST → Prop} {R171 R172 : Int → Int → Int → Int → iST → Prop} {x1 : Int} {x2 : Int} {x3 : Int} {x4 : Int} {x5 : Int} {x7 : Int} {u : iST} (hR17 : ∀ r0 r1 r2 r3 r4, R171 r0 r1 r2 r3 r4 → R172 r0 r1 r2 r3 r4) (hQ : ∀ r0, Q1 r0 → Q2 r0) : pv_4_makeRound_97 R171 Q1 x1 x2 x3 x4 x5 x7 u → pv_4_makeRound_97 R172 Q2 x1 x2 x3 x4 x5 x7 u := (br_mn (br_mn (mn_v_7_isCallOf (fun _ _ => (br_mn (mn_v_4_makeRound_177  hQ) (mn_v_7_isCallOf (fun _ _ => (br_mn (mn_v_4_makeRound_186 hR17 hQ) (mn_v_7_item (fun _ _ => (mn_v_7_isCallOf (fun _ _ => (br_mn (mn_v_4_makeRound_186 hR17 hQ) (mn_v_4_makeRound_177  hQ)))))))))))) (rd_mn fun _ => (ov_mn (sw_mn fun _ => (hQ _))))) (mn_v_7_blame (fun _ => (hQ _))))
theorem wp_v_4_makeRound_97 {Q1 Q2 : iST → Prop} {R171 R172 : Int → Int → Int → Int → iST → Prop} {x1 : Int} {x2 : Int} {x3 : Int} {x4 : Int} {x5 : Int} {x7 : Int} {u : iST} (hR17 : ∀ r0 r1 r2 r3 r4, R171 r0 r1 r2 r3 r4 → R172 r0 r1 r2 r3 r4) (hQ : ∀ r0, Q1 r0 → Q2 r0) : v_4_makeRound_97 R171 Q1 x1 x2 x3 x4 x5 x7 u → pv_4_makeRound_97 R172 Q2 x1 x2 x3 x4 x5 x7 u := (br_wp (br_wp (wp_v_7_isCallOf (fun _ _ => (br_wp (wp_v_4_makeRound_177  hQ) (wp_v_7_isCallOf (fun _ _ => (br_wp (wp_v_4_makeRound_186 hR17 hQ) (wp_v_7_item (fun _ _ => (wp_v_7_isCallOf (fun _ _ => (br_wp (wp_v_4_makeRound_186 hR17 hQ) (wp_v_4_makeRound_177  hQ)))))))))))) (rd_wp fun _ => (ov_wp (sw_wp fun _ => (hQ _))))) (wp_v_7_blame (fun _ => (hQ _))))
def pv_4_makeRound_95 (R17 : Int → Int → Int → Int → iST → Prop) (Q : iST → Prop) (x1 : Int) (x2 : Int) (x3 : Int) (x4 : Int) (x5 : Int) (y0 : Int) (u : iST) : Prop :=
  pv_4_makeRound_97 R17 Q x1 x2 x3 x4 x5 y0 u
theorem cj_v_4_makeRound_95 {Q1 Q2 Q3 : iST → Prop} {R171 R172 R173 : Int → Int → Int → Int → iST → Prop} {x1 : Int} {x2 : Int} {x3 : Int} {x4 : Int} {x5 : Int} {y0 : Int} {u : iST} (hR17 : ∀ r0 r1 r2 r3 r4, R171 r0 r1 r2 r3 r4 → R172 r0 r1 r2 r3 r4 → R173 r0 r1 r2 r3 r4) (hQ : ∀ r0, Q1 r0 → Q2 r0 → Q3 r0) : v_4_makeRound_95 R171 Q1 x1 x2 x3 x4 x5 y0 u → pv_4_makeRound_95 R172 Q2 x1 x2 x3 x4 x5 y0 u → v_4_makeRound_95 R173 Q3 x1 x2 x3 x4 x5 y0 u := (cj_v_4_makeRound_97 hR17 hQ)
theorem mn_v_4_makeRound_95 {Q1 Q2 : iST → Prop} {R171 R172 : Int → Int → Int → Int → iST → Prop} {x1 : Int} {x2 : Int} {x3 : Int} {x4 : Int} {x5 : Int} {y0 : Int} {u : iST} (hR17 : ∀ r0 r1 r2 r3 r4, R171 r0 r1 r2 r3 r4 → R172 r0 r1 r2 r3 r4) (hQ : ∀ r0, Q1 r0 → Q2 r0) : pv_4_makeRound_95 R171 Q1 x1 x2 x3 x4 x5 y0 u → pv_4_makeRound_95 R172 Q2 x1 x2 x3 x4 x5 y0 u := (mn_v_4_makeRound_97 hR17 hQ)
theorem wp_v_4_makeRound_95 {Q1 Q2 : iST → Prop} {R171 R172 : Int → Int → Int → Int → iST → Prop} {x1 : Int} {x2 : Int} {x3 : Int} {x4 : Int} {x5 : Int} {y0 : Int} {u : iST} (hR17 : ∀ r0 r1 r2 r3 r4, R171 r0 r1 r2 r3 r4 → R172 r0 r1 r2 r3 r4) (hQ : ∀ r0, Q1 r0 → Q2 r0) : v_4_makeRound_95 R171 Q1 x1 x2 x3 x4 x5 y0 u → pv_4_makeRound_95 R172 Q2 x1 x2 x3 x4 x5 y0 u := (wp_v_4_makeRound_97 hR17 hQ)
def pv_4_makeRound_17b (R17 : Int → Int → Int → Int → iST → Prop) (Q : iST → Prop) (x1 : Int) (x2 : Int) (x3 : Int) (x4 : Int) (u : iST) : Prop :=
  br (1000000 ≤ x4) (
    pv_4_makeRound_250 Q x1 x2 u) (
    rd (u.2.1 46 x1) (fun v6 => 
    br (v6 ≤ x3) (
      pv_4_makeRound_250 Q x1 x2 u) (
      bdp x3 30 (rd (u.2.1 49 (30 * x1 + x3)) (fun v7 => 
      pv_4_rowOfOthers x1 x3 (fun v8 u => 
      rd (u.1 32) (fun v9 => 
      br (v9 ≠ 0) (
        pv_4_makeRound_97 R17 Q x1 x2 x3 x4 v7 (-1) u) (
        rz (u.1 16) (fun v23 => 
        br (v23 = 0) (
          pv_6_rewritten v7 1 v8 (fun v24 u => 
          pv_4_makeRound_95 R17 Q x1 x2 x3 x4 v7 v24 u) u) (
          pv_6_recalled v7 1 v8 (fun v25 u => 
          pv_4_makeRound_95 R17 Q x1 x2 x3 x4 v7 v25 u) u))))) u)))))
theorem cj_v_4_makeRound_17b {Q1 Q2 Q3 : iST → Prop} {R171 R172 R173 : Int → Int → Int → Int → iST → Prop} {x1 : Int} {x2 : Int} {x3 : Int} {x4 : Int} {u : iST} (hR17 : ∀ r0 r1 r2 r3 r4, R171 r0 r1 r2 r3 r4 → R172 r0 r1 r2 r3 r4 → R173 r0 r1 r2 r3 r4) (hQ : ∀ r0, Q1 r0 → Q2 r0 → Q3 r0) : v_4_makeRound_17b R171 Q1 x1 x2 x3 x4 u → pv_4_makeRound_17b R172 Q2 x1 x2 x3 x4 u → v_4_makeRound_17b R173 Q3 x1 x2 x3 x4 u := (br_cj (cj_v_4_makeRound_250  hQ) (rd_cj fun _ => (br_cj (cj_v_4_makeRound_250  hQ) (bd_cj (rd_cj fun _ => (cj_v_4_rowOfOthers (fun _ _ => (rd_cj fun _ => (br_cj (cj_v_4_makeRound_97 hR17 hQ) (rz_cj fun _ => (br_cj (cj_v_6_rewritten (fun _ _ => (cj_v_4_makeRound_95 hR17 hQ))) (cj_v_6_recalled (fun _ _ => (cj_v_4_makeRound_95 hR17 hQ))))))))))))))
theorem mn_v_4_makeRound_17b {Q1 Q2 : iST → Prop} {R171 R172 : Int → Int → Int → Int → iST → Prop} {x1 : Int} {x2 : Int} {x3 : Int} {x4 : Int} {u : iST} (hR17 : ∀ r0 r1 r2 r3 r4, R171 r0 r1 r2 r3 r4 → R172 r0 r1 r2 r3 r4) (hQ : ∀ r0, Q1 r0 → Q2 r0) : pv_4_makeRound_17b R171 Q1 x1 x2 x3 x4 u → pv_4_makeRound_17b R172 Q2 x1 x2 x3 x4 u := (br_mn (mn_v_4_makeRound_250  hQ) (rd_mn fun _ => (br_mn (mn_v_4_makeRound_250  hQ) (bd_mn (rd_mn fun _ => (mn_v_4_rowOfOthers (fun _ _ => (rd_mn fun _ => (br_mn (mn_v_4_makeRound_97 hR17 hQ) (rz_mn fun _ => (br_mn (mn_v_6_rewritten (fun _ _ => (mn_v_4_makeRound_95 hR17 hQ))) (mn_v_6_recalled (fun _ _ => (mn_v_4_makeRound_95 hR17 hQ))))))))))))))
theorem wp_v_4_makeRound_17b {Q1 Q2 : iST → Prop} {R171 R172 : Int → Int → Int → Int → iST → Prop} {x1 : Int} {x2 : Int} {x3 : Int} {x4 : Int} {u : iST} (hR17 : ∀ r0 r1 r2 r3 r4, R171 r0 r1 r2 r3 r4 → R172 r0 r1 r2 r3 r4) (hQ : ∀ r0, Q1 r0 → Q2 r0) : v_4_makeRound_17b R171 Q1 x1 x2 x3 x4 u → pv_4_makeRound_17b R172 Q2 x1 x2 x3 x4 u := (br_wp (wp_v_4_makeRound_250  hQ) (rd_wp fun _ => (br_wp (wp_v_4_makeRound_250  hQ) (bd_wp (rd_wp fun _ => (wp_v_4_rowOfOthers (fun _ _ => (rd_wp fun _ => (br_wp (wp_v_4_makeRound_97 hR17 hQ) (rz_wp fun _ => (br_wp (wp_v_6_rewritten (fun _ _ => (wp_v_4_makeRound_95 hR17 hQ))) (wp_v_6_recalled (fun _ _ => (wp_v_4_makeRound_95 hR17 hQ))))))))))))))
def pv_4_makeRound_17 (Q : iST → Prop) (x1 : Int) (x2 : Int) (x3 : Int) (x4 : Int) (u : iST) : Prop := ∃ R17 : Int → Int → Int → Int → iST → Prop, (∀ (x1 : Int) (x2 : Int) (x3 : Int) (x4 : Int) (u : iST), R17 x1 x2 x3 x4 u → pv_4_makeRound_17b R17 Q x1 x2 x3 x4 u) ∧ R17 x1 x2 x3 x4 u
theorem cj_v_4_makeRound_17 {Q1 Q2 Q3 : iST → Prop}  {x1 : Int} {x2 : Int} {x3 : Int} {x4 : Int} {u : iST} (hQ : ∀ r0, Q1 r0 → Q2 r0 → Q3 r0) : v_4_makeRound_17 Q1 x1 x2 x3 x4 u → pv_4_makeRound_17 Q2 x1 x2 x3 x4 u → v_4_makeRound_17 Q3 x1 x2 x3 x4 u := by
  intro a b R3 c3
  obtain ⟨R2, c2, b2⟩ := b
  exact a (fun r0 r1 r2 r3 r4 => R2 r0 r1 r2 r3 r4 → R3 r0 r1 r2 r3 r4) (fun r0 r1 r2 r3 r4 a b => c3 r0 r1 r2 r3 r4 (cj_v_4_makeRound_17b (fun r0 r1 r2 r3 r4 a b => a b) hQ a (c2 r0 r1 r2 r3 r4 b))) b2
theorem pv_4_makeRound_17_i  {Q : iST → Prop} {x1 : Int} {x2 : Int} {x3 : Int} {x4 : Int} {u : iST} (I : Int → Int → Int → Int → iST → Prop) (s : ∀ (x1 : Int) (x2 : Int) (x3 : Int) (x4 : Int) (u : iST), I x1 x2 x3 x4 u → pv_4_makeRound_17b I Q x1 x2 x3 x4 u) (h : I x1 x2 x3 x4 u) : pv_4_makeRound_17 Q x1 x2 x3 x4 u := ⟨I, s, h⟩
theorem mn_v_4_makeRound_17 {Q1 Q2 : iST → Prop}  {x1 : Int} {x2 : Int} {x3 : Int} {x4 : Int} {u : iST} (hQ : ∀ r0, Q1 r0 → Q2 r0) : pv_4_makeRound_17 Q1 x1 x2 x3 x4 u → pv_4_makeRound_17 Q2 x1 x2 x3 x4 u := fun ⟨R, s, h⟩ => ⟨R, fun r0 r1 r2 r3 r4 a => mn_v_4_makeRound_17b (fun r0 r1 r2 r3 r4 a => a) hQ (s r0 r1 r2 r3 r4 a), h⟩
theorem un_v_4_makeRound_17  {Q : iST → Prop} {x1 : Int} {x2 : Int} {x3 : Int} {x4 : Int} {u : iST} : pv_4_makeRound_17 Q x1 x2 x3 x4 u → pv_4_makeRound_17b (fun x1 x2 x3 x4 u => pv_4_makeRound_17 Q x1 x2 x3 x4 u) Q x1 x2 x3 x4 u := fun ⟨R, s, h⟩ => mn_v_4_makeRound_17b (fun r0 r1 r2 r3 r4 a => ⟨R, s, a⟩) (fun _ h => h) (s _ _ _ _ _ h)
theorem fo_v_4_makeRound_17  {Q : iST → Prop} {x1 : Int} {x2 : Int} {x3 : Int} {x4 : Int} {u : iST} : pv_4_makeRound_17b (fun x1 x2 x3 x4 u => pv_4_makeRound_17 Q x1 x2 x3 x4 u) Q x1 x2 x3 x4 u → pv_4_makeRound_17 Q x1 x2 x3 x4 u := fun h => ⟨fun x1 x2 x3 x4 u => pv_4_makeRound_17b (fun x1 x2 x3 x4 u => pv_4_makeRound_17 Q x1 x2 x3 x4 u) Q x1 x2 x3 x4 u, fun r0 r1 r2 r3 r4 a => mn_v_4_makeRound_17b (fun r0 r1 r2 r3 r4 a => un_v_4_makeRound_17 a) (fun _ h => h) a, h⟩
theorem wp_v_4_makeRound_17 {Q1 Q2 : iST → Prop}  {x1 : Int} {x2 : Int} {x3 : Int} {x4 : Int} {u : iST} (hQ : ∀ r0, Q1 r0 → Q2 r0) : v_4_makeRound_17 Q1 x1 x2 x3 x4 u → pv_4_makeRound_17 Q2 x1 x2 x3 x4 u := fun a => a (fun x1 x2 x3 x4 u => pv_4_makeRound_17 Q2 x1 x2 x3 x4 u) (fun x1 x2 x3 x4 u b => fo_v_4_makeRound_17 (wp_v_4_makeRound_17b (fun r0 r1 r2 r3 r4 a => a) hQ b))
def pv_4_makeRound (a0 : Int) (Q : iST → Prop) (u : iST) : Prop :=
  rd (u.2.1 48 a0) (fun v1 => 
  ovp (v1 + 1) (
  sw (iA u 48 a0 (v1 + 1)) (fun u => 
  pv_4_makeRound_17 Q a0 0 0 0 u)))
theorem cj_v_4_makeRound {Q1 Q2 Q3 : iST → Prop}  {a0 : Int} {u : iST} (hQ : ∀ r0, Q1 r0 → Q2 r0 → Q3 r0) : v_4_makeRound a0 Q1 u → pv_4_makeRound a0 Q2 u → v_4_makeRound a0 Q3 u := (rd_cj fun _ => (ov_cj (sw_cj fun _ => (cj_v_4_makeRound_17  hQ))))
theorem mn_v_4_makeRound {Q1 Q2 : iST → Prop}  {a0 : Int} {u : iST} (hQ : ∀ r0, Q1 r0 → Q2 r0) : pv_4_makeRound a0 Q1 u → pv_4_makeRound a0 Q2 u := (rd_mn fun _ => (ov_mn (sw_mn fun _ => (mn_v_4_makeRound_17  hQ))))
theorem wp_v_4_makeRound {Q1 Q2 : iST → Prop}  {a0 : Int} {u : iST} (hQ : ∀ r0, Q1 r0 → Q2 r0) : v_4_makeRound a0 Q1 u → pv_4_makeRound a0 Q2 u := (rd_wp fun _ => (ov_wp (sw_wp fun _ => (wp_v_4_makeRound_17  hQ))))
def pv_4_prove_61b (R12 : Int → iST → Prop) (R61 : Int → Int → iST → Prop) (Q : iST → Prop) (x2 : Int) (x3 : Int) (u : iST) : Prop :=
  br (1000000 ≤ x3) (
    ovp (x2 + 1) (
    R12 (x2 + 1) u)) (
    rd (u.1 14) (fun v10 => 
    br (v10 ≤ 0) (
      ovp (x2 + 1) (
      R12 (x2 + 1) u)) (
      rd (u.1 15) (fun v12 => 
      br (20 ≤ v12) (
        ovp (x2 + 1) (
        R12 (x2 + 1) u)) (
        rd (u.1 32) (fun v14 => 
        br (v14 ≠ 0) (
          ovp (x2 + 1) (
          R12 (x2 + 1) u)) (
          rd (u.1 14) (fun v16 => 
          ovp (v16 - 1) (
          bdp (v16 - 1) 10 (
          pv_4_isPlain (120 + (v16 - 1)) (fun v20 u => 
          br (v20 = 0) (
            rd (u.2.1 48 (120 + (v16 - 1))) (fun v21 => 
            br (v21 < 6) (
              pv_4_makeRound (120 + (v16 - 1)) (fun u => 
              ovp (x3 + 1) (
              R61 x2 (x3 + 1) u)) u) (
              pv_4_leave (120 + (v16 - 1)) (fun u => 
              ovp (x3 + 1) (
              R61 x2 (x3 + 1) u)) u))) (
            rd (u.1 14) (fun v26 => 
            ovp (v26 - 1) (
            sw (iI u 14 (v26 - 1)) (fun u => 
            ovp (x3 + 1) (
            R61 x2 (x3 + 1) u)))))) u))))))))))
theorem cj_v_4_prove_61b {Q1 Q2 Q3 : iST → Prop} {R121 R122 R123 : Int → iST → Prop} {R611 R612 R613 : Int → Int → iST → Prop} {x2 : Int} {x3 : Int} {u : iST} (hR12 : ∀ r0 r1, R121 r0 r1 → R122 r0 r1 → R123 r0 r1) (hR61 : ∀ r0 r1 r2, R611 r0 r1 r2 → R612 r0 r1 r2 → R613 r0 r1 r2) (hQ : ∀ r0, Q1 r0 → Q2 r0 → Q3 r0) : v_4_prove_61b R121 R611 Q1 x2 x3 u → pv_4_prove_61b R122 R612 Q2 x2 x3 u → v_4_prove_61b R123 R613 Q3 x2 x3 u := (br_cj (ov_cj (hR12 _ _)) (rd_cj fun _ => (br_cj (ov_cj (hR12 _ _)) (rd_cj fun _ => (br_cj (ov_cj (hR12 _ _)) (rd_cj fun _ => (br_cj (ov_cj (hR12 _ _)) (rd_cj fun _ => (ov_cj (bd_cj (cj_v_4_isPlain (fun _ _ => (br_cj (rd_cj fun _ => (br_cj (cj_v_4_makeRound (fun _ => (ov_cj (hR61 _ _ _)))) (cj_v_4_leave (fun _ => (ov_cj (hR61 _ _ _)))))) (rd_cj fun _ => (ov_cj (sw_cj fun _ => (ov_cj (hR61 _ _ _))))))))))))))))))
theorem mn_v_4_prove_61b {Q1 Q2 : iST → Prop} {R121 R122 : Int → iST → Prop} {R611 R612 : Int → Int → iST → Prop} {x2 : Int} {x3 : Int} {u : iST} (hR12 : ∀ r0 r1, R121 r0 r1 → R122 r0 r1) (hR61 : ∀ r0 r1 r2, R611 r0 r1 r2 → R612 r0 r1 r2) (hQ : ∀ r0, Q1 r0 → Q2 r0) : pv_4_prove_61b R121 R611 Q1 x2 x3 u → pv_4_prove_61b R122 R612 Q2 x2 x3 u := (br_mn (ov_mn (hR12 _ _)) (rd_mn fun _ => (br_mn (ov_mn (hR12 _ _)) (rd_mn fun _ => (br_mn (ov_mn (hR12 _ _)) (rd_mn fun _ => (br_mn (ov_mn (hR12 _ _)) (rd_mn fun _ => (ov_mn (bd_mn (mn_v_4_isPlain (fun _ _ => (br_mn (rd_mn fun _ => (br_mn (mn_v_4_makeRound (fun _ => (ov_mn (hR61 _ _ _)))) (mn_v_4_leave (fun _ => (ov_mn (hR61 _ _ _)))))) (rd_mn fun _ => (ov_mn (sw_mn fun _ => (ov_mn (hR61 _ _ _))))))))))))))))))
theorem wp_v_4_prove_61b {Q1 Q2 : iST → Prop} {R121 R122 : Int → iST → Prop} {R611 R612 : Int → Int → iST → Prop} {x2 : Int} {x3 : Int} {u : iST} (hR12 : ∀ r0 r1, R121 r0 r1 → R122 r0 r1) (hR61 : ∀ r0 r1 r2, R611 r0 r1 r2 → R612 r0 r1 r2) (hQ : ∀ r0, Q1 r0 → Q2 r0) : v_4_prove_61b R121 R611 Q1 x2 x3 u → pv_4_prove_61b R122 R612 Q2 x2 x3 u := (br_wp (ov_wp (hR12 _ _)) (rd_wp fun _ => (br_wp (ov_wp (hR12 _ _)) (rd_wp fun _ => (br_wp (ov_wp (hR12 _ _)) (rd_wp fun _ => (br_wp (ov_wp (hR12 _ _)) (rd_wp fun _ => (ov_wp (bd_wp (wp_v_4_isPlain (fun _ _ => (br_wp (rd_wp fun _ => (br_wp (wp_v_4_makeRound (fun _ => (ov_wp (hR61 _ _ _)))) (wp_v_4_leave (fun _ => (ov_wp (hR61 _ _ _)))))) (rd_wp fun _ => (ov_wp (sw_wp fun _ => (ov_wp (hR61 _ _ _))))))))))))))))))
def pv_4_prove_61 (R12 : Int → iST → Prop) (Q : iST → Prop) (x2 : Int) (x3 : Int) (u : iST) : Prop := ∃ R61 : Int → Int → iST → Prop, (∀ (x2 : Int) (x3 : Int) (u : iST), R61 x2 x3 u → pv_4_prove_61b R12 R61 Q x2 x3 u) ∧ R61 x2 x3 u
theorem cj_v_4_prove_61 {Q1 Q2 Q3 : iST → Prop} {R121 R122 R123 : Int → iST → Prop} {x2 : Int} {x3 : Int} {u : iST} (hR12 : ∀ r0 r1, R121 r0 r1 → R122 r0 r1 → R123 r0 r1) (hQ : ∀ r0, Q1 r0 → Q2 r0 → Q3 r0) : v_4_prove_61 R121 Q1 x2 x3 u → pv_4_prove_61 R122 Q2 x2 x3 u → v_4_prove_61 R123 Q3 x2 x3 u := by
  intro a b R3 c3
  obtain ⟨R2, c2, b2⟩ := b
  exact a (fun r0 r1 r2 => R2 r0 r1 r2 → R3 r0 r1 r2) (fun r0 r1 r2 a b => c3 r0 r1 r2 (cj_v_4_prove_61b hR12 (fun r0 r1 r2 a b => a b) hQ a (c2 r0 r1 r2 b))) b2
theorem pv_4_prove_61_i {R12 : Int → iST → Prop} {Q : iST → Prop} {x2 : Int} {x3 : Int} {u : iST} (I : Int → Int → iST → Prop) (s : ∀ (x2 : Int) (x3 : Int) (u : iST), I x2 x3 u → pv_4_prove_61b R12 I Q x2 x3 u) (h : I x2 x3 u) : pv_4_prove_61 R12 Q x2 x3 u := ⟨I, s, h⟩
theorem mn_v_4_prove_61 {Q1 Q2 : iST → Prop} {R121 R122 : Int → iST → Prop} {x2 : Int} {x3 : Int} {u : iST} (hR12 : ∀ r0 r1, R121 r0 r1 → R122 r0 r1) (hQ : ∀ r0, Q1 r0 → Q2 r0) : pv_4_prove_61 R121 Q1 x2 x3 u → pv_4_prove_61 R122 Q2 x2 x3 u := fun ⟨R, s, h⟩ => ⟨R, fun r0 r1 r2 a => mn_v_4_prove_61b hR12 (fun r0 r1 r2 a => a) hQ (s r0 r1 r2 a), h⟩
theorem un_v_4_prove_61 {R12 : Int → iST → Prop} {Q : iST → Prop} {x2 : Int} {x3 : Int} {u : iST} : pv_4_prove_61 R12 Q x2 x3 u → pv_4_prove_61b R12 (fun x2 x3 u => pv_4_prove_61 R12 Q x2 x3 u) Q x2 x3 u := fun ⟨R, s, h⟩ => mn_v_4_prove_61b (fun _ _ h => h) (fun r0 r1 r2 a => ⟨R, s, a⟩) (fun _ h => h) (s _ _ _ h)
theorem fo_v_4_prove_61 {R12 : Int → iST → Prop} {Q : iST → Prop} {x2 : Int} {x3 : Int} {u : iST} : pv_4_prove_61b R12 (fun x2 x3 u => pv_4_prove_61 R12 Q x2 x3 u) Q x2 x3 u → pv_4_prove_61 R12 Q x2 x3 u := fun h => ⟨fun x2 x3 u => pv_4_prove_61b R12 (fun x2 x3 u => pv_4_prove_61 R12 Q x2 x3 u) Q x2 x3 u, fun r0 r1 r2 a => mn_v_4_prove_61b (fun _ _ h => h) (fun r0 r1 r2 a => un_v_4_prove_61 a) (fun _ h => h) a, h⟩
theorem wp_v_4_prove_61 {Q1 Q2 : iST → Prop} {R121 R122 : Int → iST → Prop} {x2 : Int} {x3 : Int} {u : iST} (hR12 : ∀ r0 r1, R121 r0 r1 → R122 r0 r1) (hQ : ∀ r0, Q1 r0 → Q2 r0) : v_4_prove_61 R121 Q1 x2 x3 u → pv_4_prove_61 R122 Q2 x2 x3 u := fun a => a (fun x2 x3 u => pv_4_prove_61 R122 Q2 x2 x3 u) (fun x2 x3 u b => fo_v_4_prove_61 (wp_v_4_prove_61b hR12 (fun r0 r1 r2 a => a) hQ b))
def pv_4_prove_12b (R12 : Int → iST → Prop) (Q : iST → Prop) (x2 : Int) (u : iST) : Prop :=
  rd (u.1 13) (fun v1 => 
  br (v1 ≤ x2) (
    Q u) (
    rd (u.1 15) (fun v2 => 
    br (20 ≤ v2) (
      Q u) (
      rd (u.1 32) (fun v3 => 
      br (v3 ≠ 0) (
        Q u) (
        bdp 0 10 (
        bdp x2 120 (
        pv_1_copy (120 + 0) x2 (fun u => 
        sw (iI u 14 1) (fun u => 
        pv_4_prove_61 R12 Q x2 0 u)) u))))))))
theorem cj_v_4_prove_12b {Q1 Q2 Q3 : iST → Prop} {R121 R122 R123 : Int → iST → Prop} {x2 : Int} {u : iST} (hR12 : ∀ r0 r1, R121 r0 r1 → R122 r0 r1 → R123 r0 r1) (hQ : ∀ r0, Q1 r0 → Q2 r0 → Q3 r0) : v_4_prove_12b R121 Q1 x2 u → pv_4_prove_12b R122 Q2 x2 u → v_4_prove_12b R123 Q3 x2 u := (rd_cj fun _ => (br_cj (hQ _) (rd_cj fun _ => (br_cj (hQ _) (rd_cj fun _ => (br_cj (hQ _) (bd_cj (bd_cj (cj_v_1_copy (fun _ => (sw_cj fun _ => (cj_v_4_prove_61 hR12 hQ))))))))))))
theorem mn_v_4_prove_12b {Q1 Q2 : iST → Prop} {R121 R122 : Int → iST → Prop} {x2 : Int} {u : iST} (hR12 : ∀ r0 r1, R121 r0 r1 → R122 r0 r1) (hQ : ∀ r0, Q1 r0 → Q2 r0) : pv_4_prove_12b R121 Q1 x2 u → pv_4_prove_12b R122 Q2 x2 u := (rd_mn fun _ => (br_mn (hQ _) (rd_mn fun _ => (br_mn (hQ _) (rd_mn fun _ => (br_mn (hQ _) (bd_mn (bd_mn (mn_v_1_copy (fun _ => (sw_mn fun _ => (mn_v_4_prove_61 hR12 hQ))))))))))))
theorem wp_v_4_prove_12b {Q1 Q2 : iST → Prop} {R121 R122 : Int → iST → Prop} {x2 : Int} {u : iST} (hR12 : ∀ r0 r1, R121 r0 r1 → R122 r0 r1) (hQ : ∀ r0, Q1 r0 → Q2 r0) : v_4_prove_12b R121 Q1 x2 u → pv_4_prove_12b R122 Q2 x2 u := (rd_wp fun _ => (br_wp (hQ _) (rd_wp fun _ => (br_wp (hQ _) (rd_wp fun _ => (br_wp (hQ _) (bd_wp (bd_wp (wp_v_1_copy (fun _ => (sw_wp fun _ => (wp_v_4_prove_61 hR12 hQ))))))))))))
def pv_4_prove_12 (Q : iST → Prop) (x2 : Int) (u : iST) : Prop := ∃ R12 : Int → iST → Prop, (∀ (x2 : Int) (u : iST), R12 x2 u → pv_4_prove_12b R12 Q x2 u) ∧ R12 x2 u
theorem cj_v_4_prove_12 {Q1 Q2 Q3 : iST → Prop}  {x2 : Int} {u : iST} (hQ : ∀ r0, Q1 r0 → Q2 r0 → Q3 r0) : v_4_prove_12 Q1 x2 u → pv_4_prove_12 Q2 x2 u → v_4_prove_12 Q3 x2 u := by
  intro a b R3 c3
  obtain ⟨R2, c2, b2⟩ := b
  exact a (fun r0 r1 => R2 r0 r1 → R3 r0 r1) (fun r0 r1 a b => c3 r0 r1 (cj_v_4_prove_12b (fun r0 r1 a b => a b) hQ a (c2 r0 r1 b))) b2
theorem pv_4_prove_12_i  {Q : iST → Prop} {x2 : Int} {u : iST} (I : Int → iST → Prop) (s : ∀ (x2 : Int) (u : iST), I x2 u → pv_4_prove_12b I Q x2 u) (h : I x2 u) : pv_4_prove_12 Q x2 u := ⟨I, s, h⟩
theorem mn_v_4_prove_12 {Q1 Q2 : iST → Prop}  {x2 : Int} {u : iST} (hQ : ∀ r0, Q1 r0 → Q2 r0) : pv_4_prove_12 Q1 x2 u → pv_4_prove_12 Q2 x2 u := fun ⟨R, s, h⟩ => ⟨R, fun r0 r1 a => mn_v_4_prove_12b (fun r0 r1 a => a) hQ (s r0 r1 a), h⟩
theorem un_v_4_prove_12  {Q : iST → Prop} {x2 : Int} {u : iST} : pv_4_prove_12 Q x2 u → pv_4_prove_12b (fun x2 u => pv_4_prove_12 Q x2 u) Q x2 u := fun ⟨R, s, h⟩ => mn_v_4_prove_12b (fun r0 r1 a => ⟨R, s, a⟩) (fun _ h => h) (s _ _ h)
theorem fo_v_4_prove_12  {Q : iST → Prop} {x2 : Int} {u : iST} : pv_4_prove_12b (fun x2 u => pv_4_prove_12 Q x2 u) Q x2 u → pv_4_prove_12 Q x2 u := fun h => ⟨fun x2 u => pv_4_prove_12b (fun x2 u => pv_4_prove_12 Q x2 u) Q x2 u, fun r0 r1 a => mn_v_4_prove_12b (fun r0 r1 a => un_v_4_prove_12 a) (fun _ h => h) a, h⟩
theorem wp_v_4_prove_12 {Q1 Q2 : iST → Prop}  {x2 : Int} {u : iST} (hQ : ∀ r0, Q1 r0 → Q2 r0) : v_4_prove_12 Q1 x2 u → pv_4_prove_12 Q2 x2 u := fun a => a (fun x2 u => pv_4_prove_12 Q2 x2 u) (fun x2 u b => fo_v_4_prove_12 (wp_v_4_prove_12b (fun r0 r1 a => a) hQ b))
def pv_4_prove (a0 : Int) (Q : iST → Prop) (u : iST) : Prop :=
  ztp a0 (sw (iI u 16 a0) (fun u => 
  sw (iI u 15 0) (fun u => 
  pv_4_prove_12 Q 0 u)))
theorem cj_v_4_prove {Q1 Q2 Q3 : iST → Prop}  {a0 : Int} {u : iST} (hQ : ∀ r0, Q1 r0 → Q2 r0 → Q3 r0) : v_4_prove a0 Q1 u → pv_4_prove a0 Q2 u → v_4_prove a0 Q3 u := (zt_cj (sw_cj fun _ => (sw_cj fun _ => (cj_v_4_prove_12  hQ))))
theorem mn_v_4_prove {Q1 Q2 : iST → Prop}  {a0 : Int} {u : iST} (hQ : ∀ r0, Q1 r0 → Q2 r0) : pv_4_prove a0 Q1 u → pv_4_prove a0 Q2 u := (zt_mn (sw_mn fun _ => (sw_mn fun _ => (mn_v_4_prove_12  hQ))))
theorem wp_v_4_prove {Q1 Q2 : iST → Prop}  {a0 : Int} {u : iST} (hQ : ∀ r0, Q1 r0 → Q2 r0) : v_4_prove a0 Q1 u → pv_4_prove a0 Q2 u := (zt_wp (sw_wp fun _ => (sw_wp fun _ => (wp_v_4_prove_12  hQ))))
def pv_4_listOf_9b (R9 : Int → Int → Int → iST → Prop) (Q : Int → iST → Prop) (x1 : Int) (x2 : Int) (x3 : Int) (u : iST) : Prop :=
  br (x3 < 0) (
    Q x2 u) (
    bdp x3 30 (rd (u.2.1 49 (30 * x1 + x3)) (fun v3 => 
    pv_11_pairCell v3 x2 (fun v4 u => 
    pv_7_made v4 (fun v5 u => 
    ovp (x3 + (-1)) (
    R9 x1 v5 (x3 + (-1)) u)) u) u)))
theorem cj_v_4_listOf_9b {Q1 Q2 Q3 : Int → iST → Prop} {R91 R92 R93 : Int → Int → Int → iST → Prop} {x1 : Int} {x2 : Int} {x3 : Int} {u : iST} (hR9 : ∀ r0 r1 r2 r3, R91 r0 r1 r2 r3 → R92 r0 r1 r2 r3 → R93 r0 r1 r2 r3) (hQ : ∀ r0 r1, Q1 r0 r1 → Q2 r0 r1 → Q3 r0 r1) : v_4_listOf_9b R91 Q1 x1 x2 x3 u → pv_4_listOf_9b R92 Q2 x1 x2 x3 u → v_4_listOf_9b R93 Q3 x1 x2 x3 u := (br_cj (hQ _ _) (bd_cj (rd_cj fun _ => (cj_v_11_pairCell (fun _ _ => (cj_v_7_made (fun _ _ => (ov_cj (hR9 _ _ _ _)))))))))
theorem mn_v_4_listOf_9b {Q1 Q2 : Int → iST → Prop} {R91 R92 : Int → Int → Int → iST → Prop} {x1 : Int} {x2 : Int} {x3 : Int} {u : iST} (hR9 : ∀ r0 r1 r2 r3, R91 r0 r1 r2 r3 → R92 r0 r1 r2 r3) (hQ : ∀ r0 r1, Q1 r0 r1 → Q2 r0 r1) : pv_4_listOf_9b R91 Q1 x1 x2 x3 u → pv_4_listOf_9b R92 Q2 x1 x2 x3 u := (br_mn (hQ _ _) (bd_mn (rd_mn fun _ => (mn_v_11_pairCell (fun _ _ => (mn_v_7_made (fun _ _ => (ov_mn (hR9 _ _ _ _)))))))))
theorem wp_v_4_listOf_9b {Q1 Q2 : Int → iST → Prop} {R91 R92 : Int → Int → Int → iST → Prop} {x1 : Int} {x2 : Int} {x3 : Int} {u : iST} (hR9 : ∀ r0 r1 r2 r3, R91 r0 r1 r2 r3 → R92 r0 r1 r2 r3) (hQ : ∀ r0 r1, Q1 r0 r1 → Q2 r0 r1) : v_4_listOf_9b R91 Q1 x1 x2 x3 u → pv_4_listOf_9b R92 Q2 x1 x2 x3 u := (br_wp (hQ _ _) (bd_wp (rd_wp fun _ => (wp_v_11_pairCell (fun _ _ => (wp_v_7_made (fun _ _ => (ov_wp (hR9 _ _ _ _)))))))))
def pv_4_listOf_9 (Q : Int → iST → Prop) (x1 : Int) (x2 : Int) (x3 : Int) (u : iST) : Prop := ∃ R9 : Int → Int → Int → iST → Prop, (∀ (x1 : Int) (x2 : Int) (x3 : Int) (u : iST), R9 x1 x2 x3 u → pv_4_listOf_9b R9 Q x1 x2 x3 u) ∧ R9 x1 x2 x3 u
theorem cj_v_4_listOf_9 {Q1 Q2 Q3 : Int → iST → Prop}  {x1 : Int} {x2 : Int} {x3 : Int} {u : iST} (hQ : ∀ r0 r1, Q1 r0 r1 → Q2 r0 r1 → Q3 r0 r1) : v_4_listOf_9 Q1 x1 x2 x3 u → pv_4_listOf_9 Q2 x1 x2 x3 u → v_4_listOf_9 Q3 x1 x2 x3 u := by
  intro a b R3 c3
  obtain ⟨R2, c2, b2⟩ := b
  exact a (fun r0 r1 r2 r3 => R2 r0 r1 r2 r3 → R3 r0 r1 r2 r3) (fun r0 r1 r2 r3 a b => c3 r0 r1 r2 r3 (cj_v_4_listOf_9b (fun r0 r1 r2 r3 a b => a b) hQ a (c2 r0 r1 r2 r3 b))) b2
theorem pv_4_listOf_9_i  {Q : Int → iST → Prop} {x1 : Int} {x2 : Int} {x3 : Int} {u : iST} (I : Int → Int → Int → iST → Prop) (s : ∀ (x1 : Int) (x2 : Int) (x3 : Int) (u : iST), I x1 x2 x3 u → pv_4_listOf_9b I Q x1 x2 x3 u) (h : I x1 x2 x3 u) : pv_4_listOf_9 Q x1 x2 x3 u := ⟨I, s, h⟩
theorem mn_v_4_listOf_9 {Q1 Q2 : Int → iST → Prop}  {x1 : Int} {x2 : Int} {x3 : Int} {u : iST} (hQ : ∀ r0 r1, Q1 r0 r1 → Q2 r0 r1) : pv_4_listOf_9 Q1 x1 x2 x3 u → pv_4_listOf_9 Q2 x1 x2 x3 u := fun ⟨R, s, h⟩ => ⟨R, fun r0 r1 r2 r3 a => mn_v_4_listOf_9b (fun r0 r1 r2 r3 a => a) hQ (s r0 r1 r2 r3 a), h⟩
theorem un_v_4_listOf_9  {Q : Int → iST → Prop} {x1 : Int} {x2 : Int} {x3 : Int} {u : iST} : pv_4_listOf_9 Q x1 x2 x3 u → pv_4_listOf_9b (fun x1 x2 x3 u => pv_4_listOf_9 Q x1 x2 x3 u) Q x1 x2 x3 u := fun ⟨R, s, h⟩ => mn_v_4_listOf_9b (fun r0 r1 r2 r3 a => ⟨R, s, a⟩) (fun _ _ h => h) (s _ _ _ _ h)
theorem fo_v_4_listOf_9  {Q : Int → iST → Prop} {x1 : Int} {x2 : Int} {x3 : Int} {u : iST} : pv_4_listOf_9b (fun x1 x2 x3 u => pv_4_listOf_9 Q x1 x2 x3 u) Q x1 x2 x3 u → pv_4_listOf_9 Q x1 x2 x3 u := fun h => ⟨fun x1 x2 x3 u => pv_4_listOf_9b (fun x1 x2 x3 u => pv_4_listOf_9 Q x1 x2 x3 u) Q x1 x2 x3 u, fun r0 r1 r2 r3 a => mn_v_4_listOf_9b (fun r0 r1 r2 r3 a => un_v_4_listOf_9 a) (fun _ _ h => h) a, h⟩
theorem wp_v_4_listOf_9 {Q1 Q2 : Int → iST → Prop}  {x1 : Int} {x2 : Int} {x3 : Int} {u : iST} (hQ : ∀ r0 r1, Q1 r0 r1 → Q2 r0 r1) : v_4_listOf_9 Q1 x1 x2 x3 u → pv_4_listOf_9 Q2 x1 x2 x3 u := fun a => a (fun x1 x2 x3 u => pv_4_listOf_9 Q2 x1 x2 x3 u) (fun x1 x2 x3 u b => fo_v_4_listOf_9 (wp_v_4_listOf_9b (fun r0 r1 r2 r3 a => a) hQ b))
def pv_4_listOf (a0 : Int) (Q : Int → iST → Prop) (u : iST) : Prop :=
  rd (u.2.1 46 a0) (fun v1 => 
  ovp (v1 - 1) (
  pv_4_listOf_9 Q a0 0 (v1 - 1) u))
theorem cj_v_4_listOf {Q1 Q2 Q3 : Int → iST → Prop}  {a0 : Int} {u : iST} (hQ : ∀ r0 r1, Q1 r0 r1 → Q2 r0 r1 → Q3 r0 r1) : v_4_listOf a0 Q1 u → pv_4_listOf a0 Q2 u → v_4_listOf a0 Q3 u := (rd_cj fun _ => (ov_cj (cj_v_4_listOf_9  hQ)))
theorem mn_v_4_listOf {Q1 Q2 : Int → iST → Prop}  {a0 : Int} {u : iST} (hQ : ∀ r0 r1, Q1 r0 r1 → Q2 r0 r1) : pv_4_listOf a0 Q1 u → pv_4_listOf a0 Q2 u := (rd_mn fun _ => (ov_mn (mn_v_4_listOf_9  hQ)))
theorem wp_v_4_listOf {Q1 Q2 : Int → iST → Prop}  {a0 : Int} {u : iST} (hQ : ∀ r0 r1, Q1 r0 r1 → Q2 r0 r1) : v_4_listOf a0 Q1 u → pv_4_listOf a0 Q2 u := (rd_wp fun _ => (ov_wp (wp_v_4_listOf_9  hQ)))
def pv_4_listOfLeft_9b (R9 : Int → Int → iST → Prop) (Q : Int → iST → Prop) (x1 : Int) (x2 : Int) (u : iST) : Prop :=
  br (x2 < 0) (
    Q x1 u) (
    bdp x2 20 (
    pv_4_listOf (130 + x2) (fun v5 u => 
    pv_11_pairCell v5 x1 (fun v6 u => 
    pv_7_made v6 (fun v7 u => 
    ovp (x2 + (-1)) (
    R9 v7 (x2 + (-1)) u)) u) u) u))
theorem cj_v_4_listOfLeft_9b {Q1 Q2 Q3 : Int → iST → Prop} {R91 R92 R93 : Int → Int → iST → Prop} {x1 : Int} {x2 : Int} {u : iST} (hR9 : ∀ r0 r1 r2, R91 r0 r1 r2 → R92 r0 r1 r2 → R93 r0 r1 r2) (hQ : ∀ r0 r1, Q1 r0 r1 → Q2 r0 r1 → Q3 r0 r1) : v_4_listOfLeft_9b R91 Q1 x1 x2 u → pv_4_listOfLeft_9b R92 Q2 x1 x2 u → v_4_listOfLeft_9b R93 Q3 x1 x2 u := (br_cj (hQ _ _) (bd_cj (cj_v_4_listOf (fun _ _ => (cj_v_11_pairCell (fun _ _ => (cj_v_7_made (fun _ _ => (ov_cj (hR9 _ _ _))))))))))
theorem mn_v_4_listOfLeft_9b {Q1 Q2 : Int → iST → Prop} {R91 R92 : Int → Int → iST → Prop} {x1 : Int} {x2 : Int} {u : iST} (hR9 : ∀ r0 r1 r2, R91 r0 r1 r2 → R92 r0 r1 r2) (hQ : ∀ r0 r1, Q1 r0 r1 → Q2 r0 r1) : pv_4_listOfLeft_9b R91 Q1 x1 x2 u → pv_4_listOfLeft_9b R92 Q2 x1 x2 u := (br_mn (hQ _ _) (bd_mn (mn_v_4_listOf (fun _ _ => (mn_v_11_pairCell (fun _ _ => (mn_v_7_made (fun _ _ => (ov_mn (hR9 _ _ _))))))))))
theorem wp_v_4_listOfLeft_9b {Q1 Q2 : Int → iST → Prop} {R91 R92 : Int → Int → iST → Prop} {x1 : Int} {x2 : Int} {u : iST} (hR9 : ∀ r0 r1 r2, R91 r0 r1 r2 → R92 r0 r1 r2) (hQ : ∀ r0 r1, Q1 r0 r1 → Q2 r0 r1) : v_4_listOfLeft_9b R91 Q1 x1 x2 u → pv_4_listOfLeft_9b R92 Q2 x1 x2 u := (br_wp (hQ _ _) (bd_wp (wp_v_4_listOf (fun _ _ => (wp_v_11_pairCell (fun _ _ => (wp_v_7_made (fun _ _ => (ov_wp (hR9 _ _ _))))))))))
def pv_4_listOfLeft_9 (Q : Int → iST → Prop) (x1 : Int) (x2 : Int) (u : iST) : Prop := ∃ R9 : Int → Int → iST → Prop, (∀ (x1 : Int) (x2 : Int) (u : iST), R9 x1 x2 u → pv_4_listOfLeft_9b R9 Q x1 x2 u) ∧ R9 x1 x2 u
theorem cj_v_4_listOfLeft_9 {Q1 Q2 Q3 : Int → iST → Prop}  {x1 : Int} {x2 : Int} {u : iST} (hQ : ∀ r0 r1, Q1 r0 r1 → Q2 r0 r1 → Q3 r0 r1) : v_4_listOfLeft_9 Q1 x1 x2 u → pv_4_listOfLeft_9 Q2 x1 x2 u → v_4_listOfLeft_9 Q3 x1 x2 u := by
  intro a b R3 c3
  obtain ⟨R2, c2, b2⟩ := b
  exact a (fun r0 r1 r2 => R2 r0 r1 r2 → R3 r0 r1 r2) (fun r0 r1 r2 a b => c3 r0 r1 r2 (cj_v_4_listOfLeft_9b (fun r0 r1 r2 a b => a b) hQ a (c2 r0 r1 r2 b))) b2
theorem pv_4_listOfLeft_9_i  {Q : Int → iST → Prop} {x1 : Int} {x2 : Int} {u : iST} (I : Int → Int → iST → Prop) (s : ∀ (x1 : Int) (x2 : Int) (u : iST), I x1 x2 u → pv_4_listOfLeft_9b I Q x1 x2 u) (h : I x1 x2 u) : pv_4_listOfLeft_9 Q x1 x2 u := ⟨I, s, h⟩
theorem mn_v_4_listOfLeft_9 {Q1 Q2 : Int → iST → Prop}  {x1 : Int} {x2 : Int} {u : iST} (hQ : ∀ r0 r1, Q1 r0 r1 → Q2 r0 r1) : pv_4_listOfLeft_9 Q1 x1 x2 u → pv_4_listOfLeft_9 Q2 x1 x2 u := fun ⟨R, s, h⟩ => ⟨R, fun r0 r1 r2 a => mn_v_4_listOfLeft_9b (fun r0 r1 r2 a => a) hQ (s r0 r1 r2 a), h⟩
theorem un_v_4_listOfLeft_9  {Q : Int → iST → Prop} {x1 : Int} {x2 : Int} {u : iST} : pv_4_listOfLeft_9 Q x1 x2 u → pv_4_listOfLeft_9b (fun x1 x2 u => pv_4_listOfLeft_9 Q x1 x2 u) Q x1 x2 u := fun ⟨R, s, h⟩ => mn_v_4_listOfLeft_9b (fun r0 r1 r2 a => ⟨R, s, a⟩) (fun _ _ h => h) (s _ _ _ h)
theorem fo_v_4_listOfLeft_9  {Q : Int → iST → Prop} {x1 : Int} {x2 : Int} {u : iST} : pv_4_listOfLeft_9b (fun x1 x2 u => pv_4_listOfLeft_9 Q x1 x2 u) Q x1 x2 u → pv_4_listOfLeft_9 Q x1 x2 u := fun h => ⟨fun x1 x2 u => pv_4_listOfLeft_9b (fun x1 x2 u => pv_4_listOfLeft_9 Q x1 x2 u) Q x1 x2 u, fun r0 r1 r2 a => mn_v_4_listOfLeft_9b (fun r0 r1 r2 a => un_v_4_listOfLeft_9 a) (fun _ _ h => h) a, h⟩
theorem wp_v_4_listOfLeft_9 {Q1 Q2 : Int → iST → Prop}  {x1 : Int} {x2 : Int} {u : iST} (hQ : ∀ r0 r1, Q1 r0 r1 → Q2 r0 r1) : v_4_listOfLeft_9 Q1 x1 x2 u → pv_4_listOfLeft_9 Q2 x1 x2 u := fun a => a (fun x1 x2 u => pv_4_listOfLeft_9 Q2 x1 x2 u) (fun x1 x2 u b => fo_v_4_listOfLeft_9 (wp_v_4_listOfLeft_9b (fun r0 r1 r2 a => a) hQ b))
def pv_4_listOfLeft (Q : Int → iST → Prop) (u : iST) : Prop :=
  rd (u.1 15) (fun v1 => 
  ovp (v1 - 1) (
  pv_4_listOfLeft_9 Q 0 (v1 - 1) u))
theorem cj_v_4_listOfLeft {Q1 Q2 Q3 : Int → iST → Prop}  {u : iST} (hQ : ∀ r0 r1, Q1 r0 r1 → Q2 r0 r1 → Q3 r0 r1) : v_4_listOfLeft Q1 u → pv_4_listOfLeft Q2 u → v_4_listOfLeft Q3 u := (rd_cj fun _ => (ov_cj (cj_v_4_listOfLeft_9  hQ)))
theorem mn_v_4_listOfLeft {Q1 Q2 : Int → iST → Prop}  {u : iST} (hQ : ∀ r0 r1, Q1 r0 r1 → Q2 r0 r1) : pv_4_listOfLeft Q1 u → pv_4_listOfLeft Q2 u := (rd_mn fun _ => (ov_mn (mn_v_4_listOfLeft_9  hQ)))
theorem wp_v_4_listOfLeft {Q1 Q2 : Int → iST → Prop}  {u : iST} (hQ : ∀ r0 r1, Q1 r0 r1 → Q2 r0 r1) : v_4_listOfLeft Q1 u → pv_4_listOfLeft Q2 u := (rd_wp fun _ => (ov_wp (wp_v_4_listOfLeft_9  hQ)))
def pv_6_isAllRecalled (Q : Int → iST → Prop) (u : iST) : Prop :=
  rd (u.1 28) (fun v1 => 
  rd (u.1 26) (fun v2 => 
  br (v1 ≠ v2) (
    ztp 0 (Q 0 u)) (
    ztp 1 (Q 1 u))))
theorem cj_v_6_isAllRecalled {Q1 Q2 Q3 : Int → iST → Prop}  {u : iST} (hQ : ∀ r0 r1, Q1 r0 r1 → Q2 r0 r1 → Q3 r0 r1) : v_6_isAllRecalled Q1 u → pv_6_isAllRecalled Q2 u → v_6_isAllRecalled Q3 u := (rd_cj fun _ => (rd_cj fun _ => (br_cj (zt_cj (hQ _ _)) (zt_cj (hQ _ _)))))
theorem mn_v_6_isAllRecalled {Q1 Q2 : Int → iST → Prop}  {u : iST} (hQ : ∀ r0 r1, Q1 r0 r1 → Q2 r0 r1) : pv_6_isAllRecalled Q1 u → pv_6_isAllRecalled Q2 u := (rd_mn fun _ => (rd_mn fun _ => (br_mn (zt_mn (hQ _ _)) (zt_mn (hQ _ _)))))
theorem wp_v_6_isAllRecalled {Q1 Q2 : Int → iST → Prop}  {u : iST} (hQ : ∀ r0 r1, Q1 r0 r1 → Q2 r0 r1) : v_6_isAllRecalled Q1 u → pv_6_isAllRecalled Q2 u := (rd_wp fun _ => (rd_wp fun _ => (br_wp (zt_wp (hQ _ _)) (zt_wp (hQ _ _)))))
def pv_4_isAllProved (Q : Int → iST → Prop) (u : iST) : Prop :=
  rd (u.1 32) (fun v1 => 
  br (v1 ≠ 0) (
    ztp 0 (Q 0 u)) (
    rd (u.1 15) (fun v2 => 
    br (v2 ≠ 0) (
      ztp 0 (Q 0 u)) (
      rz (u.1 16) (fun v3 => 
      br (v3 = 0) (
        ztp 1 (Q 1 u)) (
        pv_6_isAllRecalled (fun v4 u => 
        br (v4 = 0) (
          ztp 0 (Q 0 u)) (
          ztp 1 (Q 1 u))) u))))))
theorem cj_v_4_isAllProved {Q1 Q2 Q3 : Int → iST → Prop}  {u : iST} (hQ : ∀ r0 r1, Q1 r0 r1 → Q2 r0 r1 → Q3 r0 r1) : v_4_isAllProved Q1 u → pv_4_isAllProved Q2 u → v_4_isAllProved Q3 u := (rd_cj fun _ => (br_cj (zt_cj (hQ _ _)) (rd_cj fun _ => (br_cj (zt_cj (hQ _ _)) (rz_cj fun _ => (br_cj (zt_cj (hQ _ _)) (cj_v_6_isAllRecalled (fun _ _ => (br_cj (zt_cj (hQ _ _)) (zt_cj (hQ _ _)))))))))))
theorem mn_v_4_isAllProved {Q1 Q2 : Int → iST → Prop}  {u : iST} (hQ : ∀ r0 r1, Q1 r0 r1 → Q2 r0 r1) : pv_4_isAllProved Q1 u → pv_4_isAllProved Q2 u := (rd_mn fun _ => (br_mn (zt_mn (hQ _ _)) (rd_mn fun _ => (br_mn (zt_mn (hQ _ _)) (rz_mn fun _ => (br_mn (zt_mn (hQ _ _)) (mn_v_6_isAllRecalled (fun _ _ => (br_mn (zt_mn (hQ _ _)) (zt_mn (hQ _ _)))))))))))
theorem wp_v_4_isAllProved {Q1 Q2 : Int → iST → Prop}  {u : iST} (hQ : ∀ r0 r1, Q1 r0 r1 → Q2 r0 r1) : v_4_isAllProved Q1 u → pv_4_isAllProved Q2 u := (rd_wp fun _ => (br_wp (zt_wp (hQ _ _)) (rd_wp fun _ => (br_wp (zt_wp (hQ _ _)) (rz_wp fun _ => (br_wp (zt_wp (hQ _ _)) (wp_v_6_isAllRecalled (fun _ _ => (br_wp (zt_wp (hQ _ _)) (zt_wp (hQ _ _)))))))))))
def pv_5_lineEnd_3b (R3 : Int → Int → iST → Prop) (Q : Int → iST → Prop) (x3 : Int) (x4 : Int) (u : iST) : Prop :=
  br (x3 ≤ x4) (
    Q x4 u) (
    bdp x4 3000 (rh (u.2.1 44 x4) (fun v1 => 
    br (v1 = 10) (
      Q x4 u) (
      ovp (x4 + 1) (
      R3 x3 (x4 + 1) u)))))
theorem cj_v_5_lineEnd_3b {Q1 Q2 Q3 : Int → iST → Prop} {R31 R32 R33 : Int → Int → iST → Prop} {x3 : Int} {x4 : Int} {u : iST} (hR3 : ∀ r0 r1 r2, R31 r0 r1 r2 → R32 r0 r1 r2 → R33 r0 r1 r2) (hQ : ∀ r0 r1, Q1 r0 r1 → Q2 r0 r1 → Q3 r0 r1) : v_5_lineEnd_3b R31 Q1 x3 x4 u → pv_5_lineEnd_3b R32 Q2 x3 x4 u → v_5_lineEnd_3b R33 Q3 x3 x4 u := (br_cj (hQ _ _) (bd_cj (rh_cj fun _ => (br_cj (hQ _ _) (ov_cj (hR3 _ _ _))))))
theorem mn_v_5_lineEnd_3b {Q1 Q2 : Int → iST → Prop} {R31 R32 : Int → Int → iST → Prop} {x3 : Int} {x4 : Int} {u : iST} (hR3 : ∀ r0 r1 r2, R31 r0 r1 r2 → R32 r0 r1 r2) (hQ : ∀ r0 r1, Q1 r0 r1 → Q2 r0 r1) : pv_5_lineEnd_3b R31 Q1 x3 x4 u → pv_5_lineEnd_3b R32 Q2 x3 x4 u := (br_mn (hQ _ _) (bd_mn (rh_mn fun _ => (br_mn (hQ _ _) (ov_mn (hR3 _ _ _))))))
theorem wp_v_5_lineEnd_3b {Q1 Q2 : Int → iST → Prop} {R31 R32 : Int → Int → iST → Prop} {x3 : Int} {x4 : Int} {u : iST} (hR3 : ∀ r0 r1 r2, R31 r0 r1 r2 → R32 r0 r1 r2) (hQ : ∀ r0 r1, Q1 r0 r1 → Q2 r0 r1) : v_5_lineEnd_3b R31 Q1 x3 x4 u → pv_5_lineEnd_3b R32 Q2 x3 x4 u := (br_wp (hQ _ _) (bd_wp (rh_wp fun _ => (br_wp (hQ _ _) (ov_wp (hR3 _ _ _))))))
def pv_5_lineEnd_3 (Q : Int → iST → Prop) (x3 : Int) (x4 : Int) (u : iST) : Prop := ∃ R3 : Int → Int → iST → Prop, (∀ (x3 : Int) (x4 : Int) (u : iST), R3 x3 x4 u → pv_5_lineEnd_3b R3 Q x3 x4 u) ∧ R3 x3 x4 u
theorem cj_v_5_lineEnd_3 {Q1 Q2 Q3 : Int → iST → Prop}  {x3 : Int} {x4 : Int} {u : iST} (hQ : ∀ r0 r1, Q1 r0 r1 → Q2 r0 r1 → Q3 r0 r1) : v_5_lineEnd_3 Q1 x3 x4 u → pv_5_lineEnd_3 Q2 x3 x4 u → v_5_lineEnd_3 Q3 x3 x4 u := by
  intro a b R3 c3
  obtain ⟨R2, c2, b2⟩ := b
  exact a (fun r0 r1 r2 => R2 r0 r1 r2 → R3 r0 r1 r2) (fun r0 r1 r2 a b => c3 r0 r1 r2 (cj_v_5_lineEnd_3b (fun r0 r1 r2 a b => a b) hQ a (c2 r0 r1 r2 b))) b2
theorem pv_5_lineEnd_3_i  {Q : Int → iST → Prop} {x3 : Int} {x4 : Int} {u : iST} (I : Int → Int → iST → Prop) (s : ∀ (x3 : Int) (x4 : Int) (u : iST), I x3 x4 u → pv_5_lineEnd_3b I Q x3 x4 u) (h : I x3 x4 u) : pv_5_lineEnd_3 Q x3 x4 u := ⟨I, s, h⟩
theorem mn_v_5_lineEnd_3 {Q1 Q2 : Int → iST → Prop}  {x3 : Int} {x4 : Int} {u : iST} (hQ : ∀ r0 r1, Q1 r0 r1 → Q2 r0 r1) : pv_5_lineEnd_3 Q1 x3 x4 u → pv_5_lineEnd_3 Q2 x3 x4 u := fun ⟨R, s, h⟩ => ⟨R, fun r0 r1 r2 a => mn_v_5_lineEnd_3b (fun r0 r1 r2 a => a) hQ (s r0 r1 r2 a), h⟩
theorem un_v_5_lineEnd_3  {Q : Int → iST → Prop} {x3 : Int} {x4 : Int} {u : iST} : pv_5_lineEnd_3 Q x3 x4 u → pv_5_lineEnd_3b (fun x3 x4 u => pv_5_lineEnd_3 Q x3 x4 u) Q x3 x4 u := fun ⟨R, s, h⟩ => mn_v_5_lineEnd_3b (fun r0 r1 r2 a => ⟨R, s, a⟩) (fun _ _ h => h) (s _ _ _ h)
theorem fo_v_5_lineEnd_3  {Q : Int → iST → Prop} {x3 : Int} {x4 : Int} {u : iST} : pv_5_lineEnd_3b (fun x3 x4 u => pv_5_lineEnd_3 Q x3 x4 u) Q x3 x4 u → pv_5_lineEnd_3 Q x3 x4 u := fun h => ⟨fun x3 x4 u => pv_5_lineEnd_3b (fun x3 x4 u => pv_5_lineEnd_3 Q x3 x4 u) Q x3 x4 u, fun r0 r1 r2 a => mn_v_5_lineEnd_3b (fun r0 r1 r2 a => un_v_5_lineEnd_3 a) (fun _ _ h => h) a, h⟩
theorem wp_v_5_lineEnd_3 {Q1 Q2 : Int → iST → Prop}  {x3 : Int} {x4 : Int} {u : iST} (hQ : ∀ r0 r1, Q1 r0 r1 → Q2 r0 r1) : v_5_lineEnd_3 Q1 x3 x4 u → pv_5_lineEnd_3 Q2 x3 x4 u := fun a => a (fun x3 x4 u => pv_5_lineEnd_3 Q2 x3 x4 u) (fun x3 x4 u b => fo_v_5_lineEnd_3 (wp_v_5_lineEnd_3b (fun r0 r1 r2 a => a) hQ b))
def pv_5_lineEnd (a1 : Int) (a2 : Int) (Q : Int → iST → Prop) (u : iST) : Prop :=
  pv_5_lineEnd_3 Q a2 a1 u
theorem cj_v_5_lineEnd {Q1 Q2 Q3 : Int → iST → Prop}  {a1 : Int} {a2 : Int} {u : iST} (hQ : ∀ r0 r1, Q1 r0 r1 → Q2 r0 r1 → Q3 r0 r1) : v_5_lineEnd a1 a2 Q1 u → pv_5_lineEnd a1 a2 Q2 u → v_5_lineEnd a1 a2 Q3 u := (cj_v_5_lineEnd_3  hQ)
theorem mn_v_5_lineEnd {Q1 Q2 : Int → iST → Prop}  {a1 : Int} {a2 : Int} {u : iST} (hQ : ∀ r0 r1, Q1 r0 r1 → Q2 r0 r1) : pv_5_lineEnd a1 a2 Q1 u → pv_5_lineEnd a1 a2 Q2 u := (mn_v_5_lineEnd_3  hQ)
theorem wp_v_5_lineEnd {Q1 Q2 : Int → iST → Prop}  {a1 : Int} {a2 : Int} {u : iST} (hQ : ∀ r0 r1, Q1 r0 r1 → Q2 r0 r1) : v_5_lineEnd a1 a2 Q1 u → pv_5_lineEnd a1 a2 Q2 u := (wp_v_5_lineEnd_3  hQ)
def pv_5_atomEnd_3b (R3 : Int → Int → iST → Prop) (Q : Int → iST → Prop) (x3 : Int) (x4 : Int) (u : iST) : Prop :=
  br (x3 ≤ x4) (
    Q x4 u) (
    bdp x4 3000 (rh (u.2.1 44 x4) (fun v1 => 
    ri v1 (fun v2 => 
    br (v2 ≤ 0) (
      Q x4 u) (
      ovp (x4 + 1) (
      R3 x3 (x4 + 1) u))))))
theorem cj_v_5_atomEnd_3b {Q1 Q2 Q3 : Int → iST → Prop} {R31 R32 R33 : Int → Int → iST → Prop} {x3 : Int} {x4 : Int} {u : iST} (hR3 : ∀ r0 r1 r2, R31 r0 r1 r2 → R32 r0 r1 r2 → R33 r0 r1 r2) (hQ : ∀ r0 r1, Q1 r0 r1 → Q2 r0 r1 → Q3 r0 r1) : v_5_atomEnd_3b R31 Q1 x3 x4 u → pv_5_atomEnd_3b R32 Q2 x3 x4 u → v_5_atomEnd_3b R33 Q3 x3 x4 u := (br_cj (hQ _ _) (bd_cj (rh_cj fun _ => (ri_cj fun _ => (br_cj (hQ _ _) (ov_cj (hR3 _ _ _)))))))
theorem mn_v_5_atomEnd_3b {Q1 Q2 : Int → iST → Prop} {R31 R32 : Int → Int → iST → Prop} {x3 : Int} {x4 : Int} {u : iST} (hR3 : ∀ r0 r1 r2, R31 r0 r1 r2 → R32 r0 r1 r2) (hQ : ∀ r0 r1, Q1 r0 r1 → Q2 r0 r1) : pv_5_atomEnd_3b R31 Q1 x3 x4 u → pv_5_atomEnd_3b R32 Q2 x3 x4 u := (br_mn (hQ _ _) (bd_mn (rh_mn fun _ => (ri_mn fun _ => (br_mn (hQ _ _) (ov_mn (hR3 _ _ _)))))))
theorem wp_v_5_atomEnd_3b {Q1 Q2 : Int → iST → Prop} {R31 R32 : Int → Int → iST → Prop} {x3 : Int} {x4 : Int} {u : iST} (hR3 : ∀ r0 r1 r2, R31 r0 r1 r2 → R32 r0 r1 r2) (hQ : ∀ r0 r1, Q1 r0 r1 → Q2 r0 r1) : v_5_atomEnd_3b R31 Q1 x3 x4 u → pv_5_atomEnd_3b R32 Q2 x3 x4 u := (br_wp (hQ _ _) (bd_wp (rh_wp fun _ => (ri_wp fun _ => (br_wp (hQ _ _) (ov_wp (hR3 _ _ _)))))))
def pv_5_atomEnd_3 (Q : Int → iST → Prop) (x3 : Int) (x4 : Int) (u : iST) : Prop := ∃ R3 : Int → Int → iST → Prop, (∀ (x3 : Int) (x4 : Int) (u : iST), R3 x3 x4 u → pv_5_atomEnd_3b R3 Q x3 x4 u) ∧ R3 x3 x4 u
theorem cj_v_5_atomEnd_3 {Q1 Q2 Q3 : Int → iST → Prop}  {x3 : Int} {x4 : Int} {u : iST} (hQ : ∀ r0 r1, Q1 r0 r1 → Q2 r0 r1 → Q3 r0 r1) : v_5_atomEnd_3 Q1 x3 x4 u → pv_5_atomEnd_3 Q2 x3 x4 u → v_5_atomEnd_3 Q3 x3 x4 u := by
  intro a b R3 c3
  obtain ⟨R2, c2, b2⟩ := b
  exact a (fun r0 r1 r2 => R2 r0 r1 r2 → R3 r0 r1 r2) (fun r0 r1 r2 a b => c3 r0 r1 r2 (cj_v_5_atomEnd_3b (fun r0 r1 r2 a b => a b) hQ a (c2 r0 r1 r2 b))) b2
theorem pv_5_atomEnd_3_i  {Q : Int → iST → Prop} {x3 : Int} {x4 : Int} {u : iST} (I : Int → Int → iST → Prop) (s : ∀ (x3 : Int) (x4 : Int) (u : iST), I x3 x4 u → pv_5_atomEnd_3b I Q x3 x4 u) (h : I x3 x4 u) : pv_5_atomEnd_3 Q x3 x4 u := ⟨I, s, h⟩
theorem mn_v_5_atomEnd_3 {Q1 Q2 : Int → iST → Prop}  {x3 : Int} {x4 : Int} {u : iST} (hQ : ∀ r0 r1, Q1 r0 r1 → Q2 r0 r1) : pv_5_atomEnd_3 Q1 x3 x4 u → pv_5_atomEnd_3 Q2 x3 x4 u := fun ⟨R, s, h⟩ => ⟨R, fun r0 r1 r2 a => mn_v_5_atomEnd_3b (fun r0 r1 r2 a => a) hQ (s r0 r1 r2 a), h⟩
theorem un_v_5_atomEnd_3  {Q : Int → iST → Prop} {x3 : Int} {x4 : Int} {u : iST} : pv_5_atomEnd_3 Q x3 x4 u → pv_5_atomEnd_3b (fun x3 x4 u => pv_5_atomEnd_3 Q x3 x4 u) Q x3 x4 u := fun ⟨R, s, h⟩ => mn_v_5_atomEnd_3b (fun r0 r1 r2 a => ⟨R, s, a⟩) (fun _ _ h => h) (s _ _ _ h)
theorem fo_v_5_atomEnd_3  {Q : Int → iST → Prop} {x3 : Int} {x4 : Int} {u : iST} : pv_5_atomEnd_3b (fun x3 x4 u => pv_5_atomEnd_3 Q x3 x4 u) Q x3 x4 u → pv_5_atomEnd_3 Q x3 x4 u := fun h => ⟨fun x3 x4 u => pv_5_atomEnd_3b (fun x3 x4 u => pv_5_atomEnd_3 Q x3 x4 u) Q x3 x4 u, fun r0 r1 r2 a => mn_v_5_atomEnd_3b (fun r0 r1 r2 a => un_v_5_atomEnd_3 a) (fun _ _ h => h) a, h⟩
theorem wp_v_5_atomEnd_3 {Q1 Q2 : Int → iST → Prop}  {x3 : Int} {x4 : Int} {u : iST} (hQ : ∀ r0 r1, Q1 r0 r1 → Q2 r0 r1) : v_5_atomEnd_3 Q1 x3 x4 u → pv_5_atomEnd_3 Q2 x3 x4 u := fun a => a (fun x3 x4 u => pv_5_atomEnd_3 Q2 x3 x4 u) (fun x3 x4 u b => fo_v_5_atomEnd_3 (wp_v_5_atomEnd_3b (fun r0 r1 r2 a => a) hQ b))
def pv_5_atomEnd (a1 : Int) (a2 : Int) (Q : Int → iST → Prop) (u : iST) : Prop :=
  pv_5_atomEnd_3 Q a2 a1 u
theorem cj_v_5_atomEnd {Q1 Q2 Q3 : Int → iST → Prop}  {a1 : Int} {a2 : Int} {u : iST} (hQ : ∀ r0 r1, Q1 r0 r1 → Q2 r0 r1 → Q3 r0 r1) : v_5_atomEnd a1 a2 Q1 u → pv_5_atomEnd a1 a2 Q2 u → v_5_atomEnd a1 a2 Q3 u := (cj_v_5_atomEnd_3  hQ)
theorem mn_v_5_atomEnd {Q1 Q2 : Int → iST → Prop}  {a1 : Int} {a2 : Int} {u : iST} (hQ : ∀ r0 r1, Q1 r0 r1 → Q2 r0 r1) : pv_5_atomEnd a1 a2 Q1 u → pv_5_atomEnd a1 a2 Q2 u := (mn_v_5_atomEnd_3  hQ)
theorem wp_v_5_atomEnd {Q1 Q2 : Int → iST → Prop}  {a1 : Int} {a2 : Int} {u : iST} (hQ : ∀ r0 r1, Q1 r0 r1 → Q2 r0 r1) : v_5_atomEnd a1 a2 Q1 u → pv_5_atomEnd a1 a2 Q2 u := (wp_v_5_atomEnd_3  hQ)
def pv_5_atomCell_115 (R15 : Int → Int → Int → Int → Int → Int → Int → iST → Prop) (Q : Int → iST → Prop) (x2 : Int) (x3 : Int) (x4 : Int) (x6 : Int) (x8 : Int) (x9 : Int) (x10 : Int) (x11 : Int) (u : iST) : Prop :=
  rl (wlmul x6 47) (fun v5 => 
  ri x11 (fun v6 => 
  rl (wladd v5 v6) (fun v8 => 
  ovp (x10 + 1) (
  R15 x2 x3 x4 v8 x8 x9 (x10 + 1) u))))
theorem cj_v_5_atomCell_115 {Q1 Q2 Q3 : Int → iST → Prop} {R151 R152 R153 : Int → Int → Int → Int → Int → Int → Int → iST → Prop} {x2 : Int} {x3 : Int} {x4 : Int} {x6 : Int} {x8 : Int} {x9 : Int} {x10 : Int} {x11 : Int} {u : iST} (hR15 : ∀ r0 r1 r2 r3 r4 r5 r6 r7, R151 r0 r1 r2 r3 r4 r5 r6 r7 → R152 r0 r1 r2 r3 r4 r5 r6 r7 → R153 r0 r1 r2 r3 r4 r5 r6 r7) (hQ : ∀ r0 r1, Q1 r0 r1 → Q2 r0 r1 → Q3 r0 r1) : v_5_atomCell_115 R151 Q1 x2 x3 x4 x6 x8 x9 x10 x11 u → pv_5_atomCell_115 R152 Q2 x2 x3 x4 x6 x8 x9 x10 x11 u → v_5_atomCell_115 R153 Q3 x2 x3 x4 x6 x8 x9 x10 x11 u := (rl_cj fun _ => (ri_cj fun _ => (rl_cj fun _ => (ov_cj (hR15 _ _ _ _ _ _ _ _)))))
theorem mn_v_5_atomCell_115 {Q1 Q2 : Int → iST → Prop} {R151 R152 : Int → Int → Int → Int → Int → Int → Int → iST → Prop} {x2 : Int} {x3 : Int} {x4 : Int} {x6 : Int} {x8 : Int} {x9 : Int} {x10 : Int} {x11 : Int} {u : iST} (hR15 : ∀ r0 r1 r2 r3 r4 r5 r6 r7, R151 r0 r1 r2 r3 r4 r5 r6 r7 → R152 r0 r1 r2 r3 r4 r5 r6 r7) (hQ : ∀ r0 r1, Q1 r0 r1 → Q2 r0 r1) : pv_5_atomCell_115 R151 Q1 x2 x3 x4 x6 x8 x9 x10 x11 u → pv_5_atomCell_115 R152 Q2 x2 x3 x4 x6 x8 x9 x10 x11 u := (rl_mn fun _ => (ri_mn fun _ => (rl_mn fun _ => (ov_mn (hR15 _ _ _ _ _ _ _ _)))))
theorem wp_v_5_atomCell_115 {Q1 Q2 : Int → iST → Prop} {R151 R152 : Int → Int → Int → Int → Int → Int → Int → iST → Prop} {x2 : Int} {x3 : Int} {x4 : Int} {x6 : Int} {x8 : Int} {x9 : Int} {x10 : Int} {x11 : Int} {u : iST} (hR15 : ∀ r0 r1 r2 r3 r4 r5 r6 r7, R151 r0 r1 r2 r3 r4 r5 r6 r7 → R152 r0 r1 r2 r3 r4 r5 r6 r7) (hQ : ∀ r0 r1, Q1 r0 r1 → Q2 r0 r1) : v_5_atomCell_115 R151 Q1 x2 x3 x4 x6 x8 x9 x10 x11 u → pv_5_atomCell_115 R152 Q2 x2 x3 x4 x6 x8 x9 x10 x11 u := (rl_wp fun _ => (ri_wp fun _ => (rl_wp fun _ => (ov_wp (hR15 _ _ _ _ _ _ _ _)))))
