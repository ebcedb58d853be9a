def pv_3_isWithin_2 (Q : Int → iST → Prop) (x1 : Int) (x2 : Int) (x3 : Int) (u : iST) : Prop := ∃ R2 : Int → Int → Int → iST → Prop, (∀ (x1 : Int) (x2 : Int) (x3 : Int) (u : iST), R2 x1 x2 x3 u → pv_3_isWithin_2b R2 Q x1 x2 x3 u) ∧ R2 x1 x2 x3 u
theorem cj_v_3_isWithin_2 {Q1 Q2 Q3 : Int → iST → Prop}  {x1 : Int} {x2 : Int} {x3 : Int} {u : iST} (hQ : ∀ r0 r1, Q1 r0 r1 → Q2 r0 r1 → Q3 r0 r1) : v_3_isWithin_2 Q1 x1 x2 x3 u → pv_3_isWithin_2 Q2 x1 x2 x3 u → v_3_isWithin_2 Q3 x1 x2 x3 u := by
  intro a b R3 c3
  obtain ⟨R2, c2, b2⟩ := b
  exact a (fun r0 r1 r2 r3 => R2 r0 r1 r2 r3 → R3 r0 r1 r2 r3) (fun r0 r1 r2 r3 a b => c3 r0 r1 r2 r3 (cj_v_3_isWithin_2b (fun r0 r1 r2 r3 a b => a b) hQ a (c2 r0 r1 r2 r3 b))) b2
theorem pv_3_isWithin_2_i  {Q : Int → iST → Prop} {x1 : Int} {x2 : Int} {x3 : Int} {u : iST} (I : Int → Int → Int → iST → Prop) (s : ∀ (x1 : Int) (x2 : Int) (x3 : Int) (u : iST), I x1 x2 x3 u → pv_3_isWithin_2b I Q x1 x2 x3 u) (h : I x1 x2 x3 u) : pv_3_isWithin_2 Q x1 x2 x3 u := ⟨I, s, h⟩
theorem mn_v_3_isWithin_2 {Q1 Q2 : Int → iST → Prop}  {x1 : Int} {x2 : Int} {x3 : Int} {u : iST} (hQ : ∀ r0 r1, Q1 r0 r1 → Q2 r0 r1) : pv_3_isWithin_2 Q1 x1 x2 x3 u → pv_3_isWithin_2 Q2 x1 x2 x3 u := fun ⟨R, s, h⟩ => ⟨R, fun r0 r1 r2 r3 a => mn_v_3_isWithin_2b (fun r0 r1 r2 r3 a => a) hQ (s r0 r1 r2 r3 a), h⟩
theorem un_v_3_isWithin_2  {Q : Int → iST → Prop} {x1 : Int} {x2 : Int} {x3 : Int} {u : iST} : pv_3_isWithin_2 Q x1 x2 x3 u → pv_3_isWithin_2b (fun x1 x2 x3 u => pv_3_isWithin_2 Q x1 x2 x3 u) Q x1 x2 x3 u := fun ⟨R, s, h⟩ => mn_v_3_isWithin_2b (fun r0 r1 r2 r3 a => ⟨R, s, a⟩) (fun _ _ h => h) (s _ _ _ _ h)
theorem fo_v_3_isWithin_2  {Q : Int → iST → Prop} {x1 : Int} {x2 : Int} {x3 : Int} {u : iST} : pv_3_isWithin_2b (fun x1 x2 x3 u => pv_3_isWithin_2 Q x1 x2 x3 u) Q x1 x2 x3 u → pv_3_isWithin_2 Q x1 x2 x3 u := fun h => ⟨fun x1 x2 x3 u => pv_3_isWithin_2b (fun x1 x2 x3 u => pv_3_isWithin_2 Q x1 x2 x3 u) Q x1 x2 x3 u, fun r0 r1 r2 r3 a => mn_v_3_isWithin_2b (fun r0 r1 r2 r3 a => un_v_3_isWithin_2 a) (fun _ _ h => h) a, h⟩
theorem wp_v_3_isWithin_2 {Q1 Q2 : Int → iST → Prop}  {x1 : Int} {x2 : Int} {x3 : Int} {u : iST} (hQ : ∀ r0 r1, Q1 r0 r1 → Q2 r0 r1) : v_3_isWithin_2 Q1 x1 x2 x3 u → pv_3_isWithin_2 Q2 x1 x2 x3 u := fun a => a (fun x1 x2 x3 u => pv_3_isWithin_2 Q2 x1 x2 x3 u) (fun x1 x2 x3 u b => fo_v_3_isWithin_2 (wp_v_3_isWithin_2b (fun r0 r1 r2 r3 a => a) hQ b))
def pv_3_isWithin (a0 : Int) (a1 : Int) (Q : Int → iST → Prop) (u : iST) : Prop :=
  pv_3_isWithin_2 Q a0 a1 0 u
theorem cj_v_3_isWithin {Q1 Q2 Q3 : Int → iST → Prop}  {a0 : Int} {a1 : Int} {u : iST} (hQ : ∀ r0 r1, Q1 r0 r1 → Q2 r0 r1 → Q3 r0 r1) : v_3_isWithin a0 a1 Q1 u → pv_3_isWithin a0 a1 Q2 u → v_3_isWithin a0 a1 Q3 u := (cj_v_3_isWithin_2  hQ)
theorem mn_v_3_isWithin {Q1 Q2 : Int → iST → Prop}  {a0 : Int} {a1 : Int} {u : iST} (hQ : ∀ r0 r1, Q1 r0 r1 → Q2 r0 r1) : pv_3_isWithin a0 a1 Q1 u → pv_3_isWithin a0 a1 Q2 u := (mn_v_3_isWithin_2  hQ)
theorem wp_v_3_isWithin {Q1 Q2 : Int → iST → Prop}  {a0 : Int} {a1 : Int} {u : iST} (hQ : ∀ r0 r1, Q1 r0 r1 → Q2 r0 r1) : v_3_isWithin a0 a1 Q1 u → pv_3_isWithin a0 a1 Q2 u := (wp_v_3_isWithin_2  hQ)
def pv_3_isInduced_211 (Q : Int → iST → Prop) (x1 : Int) (x4 : Int) (u : iST) : Prop :=
  pv_10_join x1 x4 (fun u => 
  ztp 1 (Q 1 u)) u
theorem cj_v_3_isInduced_211 {Q1 Q2 Q3 : Int → iST → Prop}  {x1 : Int} {x4 : Int} {u : iST} (hQ : ∀ r0 r1, Q1 r0 r1 → Q2 r0 r1 → Q3 r0 r1) : v_3_isInduced_211 Q1 x1 x4 u → pv_3_isInduced_211 Q2 x1 x4 u → v_3_isInduced_211 Q3 x1 x4 u := (cj_v_10_join (fun _ => (zt_cj (hQ _ _))))
theorem mn_v_3_isInduced_211 {Q1 Q2 : Int → iST → Prop}  {x1 : Int} {x4 : Int} {u : iST} (hQ : ∀ r0 r1, Q1 r0 r1 → Q2 r0 r1) : pv_3_isInduced_211 Q1 x1 x4 u → pv_3_isInduced_211 Q2 x1 x4 u := (mn_v_10_join (fun _ => (zt_mn (hQ _ _))))
theorem wp_v_3_isInduced_211 {Q1 Q2 : Int → iST → Prop}  {x1 : Int} {x4 : Int} {u : iST} (hQ : ∀ r0 r1, Q1 r0 r1 → Q2 r0 r1) : v_3_isInduced_211 Q1 x1 x4 u → pv_3_isInduced_211 Q2 x1 x4 u := (wp_v_10_join (fun _ => (zt_wp (hQ _ _))))
def pv_3_isInduced_195 (R67 : Int → Int → Int → Int → Int → Int → iST → Prop) (Q : Int → iST → Prop) (x1 : Int) (x4 : Int) (x5 : Int) (x6 : Int) (x8 : Int) (u : iST) : Prop :=
  pv_8_goToPath (-1) (fun v18 u => 
  ovp (x8 + 1) (
  R67 x1 x4 x5 x6 v18 (x8 + 1) u)) u
theorem cj_v_3_isInduced_195 {Q1 Q2 Q3 : Int → iST → Prop} {R671 R672 R673 : Int → Int → Int → Int → Int → Int → iST → Prop} {x1 : Int} {x4 : Int} {x5 : Int} {x6 : Int} {x8 : Int} {u : iST} (hR67 : ∀ r0 r1 r2 r3 r4 r5 r6, R671 r0 r1 r2 r3 r4 r5 r6 → R672 r0 r1 r2 r3 r4 r5 r6 → R673 r0 r1 r2 r3 r4 r5 r6) (hQ : ∀ r0 r1, Q1 r0 r1 → Q2 r0 r1 → Q3 r0 r1) : v_3_isInduced_195 R671 Q1 x1 x4 x5 x6 x8 u → pv_3_isInduced_195 R672 Q2 x1 x4 x5 x6 x8 u → v_3_isInduced_195 R673 Q3 x1 x4 x5 x6 x8 u := (cj_v_8_goToPath (fun _ _ => (ov_cj (hR67 _ _ _ _ _ _ _))))
theorem mn_v_3_isInduced_195 {Q1 Q2 : Int → iST → Prop} {R671 R672 : Int → Int → Int → Int → Int → Int → iST → Prop} {x1 : Int} {x4 : Int} {x5 : Int} {x6 : Int} {x8 : Int} {u : iST} (hR67 : ∀ r0 r1 r2 r3 r4 r5 r6, R671 r0 r1 r2 r3 r4 r5 r6 → R672 r0 r1 r2 r3 r4 r5 r6) (hQ : ∀ r0 r1, Q1 r0 r1 → Q2 r0 r1) : pv_3_isInduced_195 R671 Q1 x1 x4 x5 x6 x8 u → pv_3_isInduced_195 R672 Q2 x1 x4 x5 x6 x8 u := (mn_v_8_goToPath (fun _ _ => (ov_mn (hR67 _ _ _ _ _ _ _))))
theorem wp_v_3_isInduced_195 {Q1 Q2 : Int → iST → Prop} {R671 R672 : Int → Int → Int → Int → Int → Int → iST → Prop} {x1 : Int} {x4 : Int} {x5 : Int} {x6 : Int} {x8 : Int} {u : iST} (hR67 : ∀ r0 r1 r2 r3 r4 r5 r6, R671 r0 r1 r2 r3 r4 r5 r6 → R672 r0 r1 r2 r3 r4 r5 r6) (hQ : ∀ r0 r1, Q1 r0 r1 → Q2 r0 r1) : v_3_isInduced_195 R671 Q1 x1 x4 x5 x6 x8 u → pv_3_isInduced_195 R672 Q2 x1 x4 x5 x6 x8 u := (wp_v_8_goToPath (fun _ _ => (ov_wp (hR67 _ _ _ _ _ _ _))))
def pv_3_isInduced_67b (R67 : Int → Int → Int → Int → Int → Int → iST → Prop) (Q : Int → iST → Prop) (x1 : Int) (x4 : Int) (x5 : Int) (x6 : Int) (x7 : Int) (x8 : Int) (u : iST) : Prop :=
  rd (u.1 11) (fun v7 => 
  br (v7 ≤ x8) (
    pv_3_isInduced_211 Q x1 x4 u) (
    br (x7 = 0) (
      pv_3_isInduced_211 Q x1 x4 u) (
      rd (u.1 32) (fun v9 => 
      br (v9 ≠ 0) (
        pv_3_isInduced_211 Q x1 x4 u) (
        pv_1_clear 151 (fun u => 
        bdp x6 40 (rd (u.2.1 1 x6) (fun v11 => 
        pv_7_right x5 (fun v12 u => 
        pv_8_addRulers 151 v11 v12 (fun u => 
        pv_7_right x5 (fun v14 u => 
        pv_8_addInductionHypotheses 151 x4 x6 v14 (fun u => 
        pv_10_join 151 x4 (fun u => 
        rd (u.1 32) (fun v17 => 
        br (v17 ≠ 0) (
          pv_3_isInduced_195 R67 Q x1 x4 x5 x6 x8 u) (
          bdp x8 256 (rc (u.2.1 57 x8) (fun v20 => 
          pv_3_isWithin v20 151 (fun v21 u => 
          br (v21 ≠ 0) (
            pv_3_isInduced_195 R67 Q x1 x4 x5 x6 x8 u) (
            ztp 0 (Q 0 u))) u))))) u) u) u) u) u))) u)))))
theorem cj_v_3_isInduced_67b {Q1 Q2 Q3 : Int → iST → Prop} {R671 R672 R673 : Int → Int → Int → Int → Int → Int → iST → Prop} {x1 : Int} {x4 : Int} {x5 : Int} {x6 : Int} {x7 : Int} {x8 : Int} {u : iST} (hR67 : ∀ r0 r1 r2 r3 r4 r5 r6, R671 r0 r1 r2 r3 r4 r5 r6 → R672 r0 r1 r2 r3 r4 r5 r6 → R673 r0 r1 r2 r3 r4 r5 r6) (hQ : ∀ r0 r1, Q1 r0 r1 → Q2 r0 r1 → Q3 r0 r1) : v_3_isInduced_67b R671 Q1 x1 x4 x5 x6 x7 x8 u → pv_3_isInduced_67b R672 Q2 x1 x4 x5 x6 x7 x8 u → v_3_isInduced_67b R673 Q3 x1 x4 x5 x6 x7 x8 u := (rd_cj fun _ => (br_cj (cj_v_3_isInduced_211  hQ) (br_cj (cj_v_3_isInduced_211  hQ) (rd_cj fun _ => (br_cj (cj_v_3_isInduced_211  hQ) (cj_v_1_clear (fun _ => (bd_cj (rd_cj fun _ => (cj_v_7_right (fun _ _ => (cj_v_8_addRulers (fun _ => (cj_v_7_right (fun _ _ => (cj_v_8_addInductionHypotheses (fun _ => (cj_v_10_join (fun _ => (rd_cj fun _ => (br_cj (cj_v_3_isInduced_195 hR67 hQ) (bd_cj (rc_cj fun _ => (cj_v_3_isWithin (fun _ _ => (br_cj (cj_v_3_isInduced_195 hR67 hQ) (zt_cj (hQ _ _))))))))))))))))))))))))))))
theorem mn_v_3_isInduced_67b {Q1 Q2 : Int → iST → Prop} {R671 R672 : Int → Int → Int → Int → Int → Int → iST → Prop} {x1 : Int} {x4 : Int} {x5 : Int} {x6 : Int} {x7 : Int} {x8 : Int} {u : iST} (hR67 : ∀ r0 r1 r2 r3 r4 r5 r6, R671 r0 r1 r2 r3 r4 r5 r6 → R672 r0 r1 r2 r3 r4 r5 r6) (hQ : ∀ r0 r1, Q1 r0 r1 → Q2 r0 r1) : pv_3_isInduced_67b R671 Q1 x1 x4 x5 x6 x7 x8 u → pv_3_isInduced_67b R672 Q2 x1 x4 x5 x6 x7 x8 u := (rd_mn fun _ => (br_mn (mn_v_3_isInduced_211  hQ) (br_mn (mn_v_3_isInduced_211  hQ) (rd_mn fun _ => (br_mn (mn_v_3_isInduced_211  hQ) (mn_v_1_clear (fun _ => (bd_mn (rd_mn fun _ => (mn_v_7_right (fun _ _ => (mn_v_8_addRulers (fun _ => (mn_v_7_right (fun _ _ => (mn_v_8_addInductionHypotheses (fun _ => (mn_v_10_join (fun _ => (rd_mn fun _ => (br_mn (mn_v_3_isInduced_195 hR67 hQ) (bd_mn (rc_mn fun _ => (mn_v_3_isWithin (fun _ _ => (br_mn (mn_v_3_isInduced_195 hR67 hQ) (zt_mn (hQ _ _))))))))))))))))))))))))))))
theorem wp_v_3_isInduced_67b {Q1 Q2 : Int → iST → Prop} {R671 R672 : Int → Int → Int → Int → Int → Int → iST → Prop} {x1 : Int} {x4 : Int} {x5 : Int} {x6 : Int} {x7 : Int} {x8 : Int} {u : iST} (hR67 : ∀ r0 r1 r2 r3 r4 r5 r6, R671 r0 r1 r2 r3 r4 r5 r6 → R672 r0 r1 r2 r3 r4 r5 r6) (hQ : ∀ r0 r1, Q1 r0 r1 → Q2 r0 r1) : v_3_isInduced_67b R671 Q1 x1 x4 x5 x6 x7 x8 u → pv_3_isInduced_67b R672 Q2 x1 x4 x5 x6 x7 x8 u := (rd_wp fun _ => (br_wp (wp_v_3_isInduced_211  hQ) (br_wp (wp_v_3_isInduced_211  hQ) (rd_wp fun _ => (br_wp (wp_v_3_isInduced_211  hQ) (wp_v_1_clear (fun _ => (bd_wp (rd_wp fun _ => (wp_v_7_right (fun _ _ => (wp_v_8_addRulers (fun _ => (wp_v_7_right (fun _ _ => (wp_v_8_addInductionHypotheses (fun _ => (wp_v_10_join (fun _ => (rd_wp fun _ => (br_wp (wp_v_3_isInduced_195 hR67 hQ) (bd_wp (rc_wp fun _ => (wp_v_3_isWithin (fun _ _ => (br_wp (wp_v_3_isInduced_195 hR67 hQ) (zt_wp (hQ _ _))))))))))))))))))))))))))))
def pv_3_isInduced_67 (Q : Int → iST → Prop) (x1 : Int) (x4 : Int) (x5 : Int) (x6 : Int) (x7 : Int) (x8 : Int) (u : iST) : Prop := ∃ R67 : Int → Int → Int → Int → Int → Int → iST → Prop, (∀ (x1 : Int) (x4 : Int) (x5 : Int) (x6 : Int) (x7 : Int) (x8 : Int) (u : iST), R67 x1 x4 x5 x6 x7 x8 u → pv_3_isInduced_67b R67 Q x1 x4 x5 x6 x7 x8 u) ∧ R67 x1 x4 x5 x6 x7 x8 u
theorem cj_v_3_isInduced_67 {Q1 Q2 Q3 : Int → iST → Prop}  {x1 : Int} {x4 : Int} {x5 : Int} {x6 : Int} {x7 : Int} {x8 : Int} {u : iST} (hQ : ∀ r0 r1, Q1 r0 r1 → Q2 r0 r1 → Q3 r0 r1) : v_3_isInduced_67 Q1 x1 x4 x5 x6 x7 x8 u → pv_3_isInduced_67 Q2 x1 x4 x5 x6 x7 x8 u → v_3_isInduced_67 Q3 x1 x4 x5 x6 x7 x8 u := by
  intro a b R3 c3
  obtain ⟨R2, c2, b2⟩ := b
  exact a (fun r0 r1 r2 r3 r4 r5 r6 => R2 r0 r1 r2 r3 r4 r5 r6 → R3 r0 r1 r2 r3 r4 r5 r6) (fun r0 r1 r2 r3 r4 r5 r6 a b => c3 r0 r1 r2 r3 r4 r5 r6 (cj_v_3_isInduced_67b (fun r0 r1 r2 r3 r4 r5 r6 a b => a b) hQ a (c2 r0 r1 r2 r3 r4 r5 r6 b))) b2
theorem pv_3_isInduced_67_i  {Q : Int → iST → Prop} {x1 : Int} {x4 : Int} {x5 : Int} {x6 : Int} {x7 : Int} {x8 : Int} {u : iST} (I : Int → Int → Int → Int → Int → Int → iST → Prop) (s : ∀ (x1 : Int) (x4 : Int) (x5 : Int) (x6 : Int) (x7 : Int) (x8 : Int) (u : iST), I x1 x4 x5 x6 x7 x8 u → pv_3_isInduced_67b I Q x1 x4 x5 x6 x7 x8 u) (h : I x1 x4 x5 x6 x7 x8 u) : pv_3_isInduced_67 Q x1 x4 x5 x6 x7 x8 u := ⟨I, s, h⟩
theorem mn_v_3_isInduced_67 {Q1 Q2 : Int → iST → Prop}  {x1 : Int} {x4 : Int} {x5 : Int} {x6 : Int} {x7 : Int} {x8 : Int} {u : iST} (hQ : ∀ r0 r1, Q1 r0 r1 → Q2 r0 r1) : pv_3_isInduced_67 Q1 x1 x4 x5 x6 x7 x8 u → pv_3_isInduced_67 Q2 x1 x4 x5 x6 x7 x8 u := fun ⟨R, s, h⟩ => ⟨R, fun r0 r1 r2 r3 r4 r5 r6 a => mn_v_3_isInduced_67b (fun r0 r1 r2 r3 r4 r5 r6 a => a) hQ (s r0 r1 r2 r3 r4 r5 r6 a), h⟩
theorem un_v_3_isInduced_67  {Q : Int → iST → Prop} {x1 : Int} {x4 : Int} {x5 : Int} {x6 : Int} {x7 : Int} {x8 : Int} {u : iST} : pv_3_isInduced_67 Q x1 x4 x5 x6 x7 x8 u → pv_3_isInduced_67b (fun x1 x4 x5 x6 x7 x8 u => pv_3_isInduced_67 Q x1 x4 x5 x6 x7 x8 u) Q x1 x4 x5 x6 x7 x8 u := fun ⟨R, s, h⟩ => mn_v_3_isInduced_67b (fun r0 r1 r2 r3 r4 r5 r6 a => ⟨R, s, a⟩) (fun _ _ h => h) (s _ _ _ _ _ _ _ h)
theorem fo_v_3_isInduced_67  {Q : Int → iST → Prop} {x1 : Int} {x4 : Int} {x5 : Int} {x6 : Int} {x7 : Int} {x8 : Int} {u : iST} : pv_3_isInduced_67b (fun x1 x4 x5 x6 x7 x8 u => pv_3_isInduced_67 Q x1 x4 x5 x6 x7 x8 u) Q x1 x4 x5 x6 x7 x8 u → pv_3_isInduced_67 Q x1 x4 x5 x6 x7 x8 u := fun h => ⟨fun x1 x4 x5 x6 x7 x8 u => pv_3_isInduced_67b (fun x1 x4 x5 x6 x7 x8 u => pv_3_isInduced_67 Q x1 x4 x5 x6 x7 x8 u) Q x1 x4 x5 x6 x7 x8 u, fun r0 r1 r2 r3 r4 r5 r6 a => mn_v_3_isInduced_67b (fun r0 r1 r2 r3 r4 r5 r6 a => un_v_3_isInduced_67 a) (fun _ _ h => h) a, h⟩
theorem wp_v_3_isInduced_67 {Q1 Q2 : Int → iST → Prop}  {x1 : Int} {x4 : Int} {x5 : Int} {x6 : Int} {x7 : Int} {x8 : Int} {u : iST} (hQ : ∀ r0 r1, Q1 r0 r1 → Q2 r0 r1) : v_3_isInduced_67 Q1 x1 x4 x5 x6 x7 x8 u → pv_3_isInduced_67 Q2 x1 x4 x5 x6 x7 x8 u := fun a => a (fun x1 x4 x5 x6 x7 x8 u => pv_3_isInduced_67 Q2 x1 x4 x5 x6 x7 x8 u) (fun x1 x4 x5 x6 x7 x8 u b => fo_v_3_isInduced_67 (wp_v_3_isInduced_67b (fun r0 r1 r2 r3 r4 r5 r6 a => a) hQ b))
def pv_3_isInduced (a0 : Int) (a1 : Int) (a2 : Int) (Q : Int → iST → Prop) (u : iST) : Prop :=
  pv_3_termAt a1 1 (fun v1 u => 
  pv_7_item a1 2 (fun v2 u => 
  pv_7_left v2 (fun v3 u => 
  pv_0_functionOf v3 (fun v4 u => 
  br (v4 ≠ (-1)) (
    bdp v4 40 (rd (u.2.1 3 v4) (fun v5 => 
    pv_8_goToPath v5 (fun v6 u => 
    pv_3_isInduced_67 Q a0 v1 v2 v4 v6 a2 u) u))) (
    ztp 0 (Q 0 u))) u) u) u) u
theorem cj_v_3_isInduced {Q1 Q2 Q3 : Int → iST → Prop}  {a0 : Int} {a1 : Int} {a2 : Int} {u : iST} (hQ : ∀ r0 r1, Q1 r0 r1 → Q2 r0 r1 → Q3 r0 r1) : v_3_isInduced a0 a1 a2 Q1 u → pv_3_isInduced a0 a1 a2 Q2 u → v_3_isInduced a0 a1 a2 Q3 u := (cj_v_3_termAt (fun _ _ => (cj_v_7_item (fun _ _ => (cj_v_7_left (fun _ _ => (cj_v_0_functionOf (fun _ _ => (br_cj (bd_cj (rd_cj fun _ => (cj_v_8_goToPath (fun _ _ => (cj_v_3_isInduced_67  hQ))))) (zt_cj (hQ _ _)))))))))))
theorem mn_v_3_isInduced {Q1 Q2 : Int → iST → Prop}  {a0 : Int} {a1 : Int} {a2 : Int} {u : iST} (hQ : ∀ r0 r1, Q1 r0 r1 → Q2 r0 r1) : pv_3_isInduced a0 a1 a2 Q1 u → pv_3_isInduced a0 a1 a2 Q2 u := (mn_v_3_termAt (fun _ _ => (mn_v_7_item (fun _ _ => (mn_v_7_left (fun _ _ => (mn_v_0_functionOf (fun _ _ => (br_mn (bd_mn (rd_mn fun _ => (mn_v_8_goToPath (fun _ _ => (mn_v_3_isInduced_67  hQ))))) (zt_mn (hQ _ _)))))))))))
theorem wp_v_3_isInduced {Q1 Q2 : Int → iST → Prop}  {a0 : Int} {a1 : Int} {a2 : Int} {u : iST} (hQ : ∀ r0 r1, Q1 r0 r1 → Q2 r0 r1) : v_3_isInduced a0 a1 a2 Q1 u → pv_3_isInduced a0 a1 a2 Q2 u := (wp_v_3_termAt (fun _ _ => (wp_v_7_item (fun _ _ => (wp_v_7_left (fun _ _ => (wp_v_0_functionOf (fun _ _ => (br_wp (bd_wp (rd_wp fun _ => (wp_v_8_goToPath (fun _ _ => (wp_v_3_isInduced_67  hQ))))) (zt_wp (hQ _ _)))))))))))
def pv_3_concludeWeak_8b (R8 : Int → Int → iST → Prop) (Q : iST → Prop) (x1 : Int) (x4 : Int) (u : iST) : Prop :=
  pv_7_isPair x4 (fun v2 u => 
  br (v2 = 0) (
    Q u) (
    pv_7_left x4 (fun v3 u => 
    pv_10_rebuilt v3 0 (fun v4 u => 
    pv_10_join x1 v4 (fun u => 
    pv_7_right x4 (fun v6 u => 
    R8 x1 v6 u) u) u) u) u)) u
theorem cj_v_3_concludeWeak_8b {Q1 Q2 Q3 : iST → Prop} {R81 R82 R83 : Int → Int → iST → Prop} {x1 : Int} {x4 : Int} {u : iST} (hR8 : ∀ r0 r1 r2, R81 r0 r1 r2 → R82 r0 r1 r2 → R83 r0 r1 r2) (hQ : ∀ r0, Q1 r0 → Q2 r0 → Q3 r0) : v_3_concludeWeak_8b R81 Q1 x1 x4 u → pv_3_concludeWeak_8b R82 Q2 x1 x4 u → v_3_concludeWeak_8b R83 Q3 x1 x4 u := (cj_v_7_isPair (fun _ _ => (br_cj (hQ _) (cj_v_7_left (fun _ _ => (cj_v_10_rebuilt (fun _ _ => (cj_v_10_join (fun _ => (cj_v_7_right (fun _ _ => (hR8 _ _ _))))))))))))
theorem mn_v_3_concludeWeak_8b {Q1 Q2 : iST → Prop} {R81 R82 : Int → Int → iST → Prop} {x1 : Int} {x4 : Int} {u : iST} (hR8 : ∀ r0 r1 r2, R81 r0 r1 r2 → R82 r0 r1 r2) (hQ : ∀ r0, Q1 r0 → Q2 r0) : pv_3_concludeWeak_8b R81 Q1 x1 x4 u → pv_3_concludeWeak_8b R82 Q2 x1 x4 u := (mn_v_7_isPair (fun _ _ => (br_mn (hQ _) (mn_v_7_left (fun _ _ => (mn_v_10_rebuilt (fun _ _ => (mn_v_10_join (fun _ => (mn_v_7_right (fun _ _ => (hR8 _ _ _))))))))))))
theorem wp_v_3_concludeWeak_8b {Q1 Q2 : iST → Prop} {R81 R82 : Int → Int → iST → Prop} {x1 : Int} {x4 : Int} {u : iST} (hR8 : ∀ r0 r1 r2, R81 r0 r1 r2 → R82 r0 r1 r2) (hQ : ∀ r0, Q1 r0 → Q2 r0) : v_3_concludeWeak_8b R81 Q1 x1 x4 u → pv_3_concludeWeak_8b R82 Q2 x1 x4 u := (wp_v_7_isPair (fun _ _ => (br_wp (hQ _) (wp_v_7_left (fun _ _ => (wp_v_10_rebuilt (fun _ _ => (wp_v_10_join (fun _ => (wp_v_7_right (fun _ _ => (hR8 _ _ _))))))))))))
def pv_3_concludeWeak_8 (Q : iST → Prop) (x1 : Int) (x4 : Int) (u : iST) : Prop := ∃ R8 : Int → Int → iST → Prop, (∀ (x1 : Int) (x4 : Int) (u : iST), R8 x1 x4 u → pv_3_concludeWeak_8b R8 Q x1 x4 u) ∧ R8 x1 x4 u
theorem cj_v_3_concludeWeak_8 {Q1 Q2 Q3 : iST → Prop}  {x1 : Int} {x4 : Int} {u : iST} (hQ : ∀ r0, Q1 r0 → Q2 r0 → Q3 r0) : v_3_concludeWeak_8 Q1 x1 x4 u → pv_3_concludeWeak_8 Q2 x1 x4 u → v_3_concludeWeak_8 Q3 x1 x4 u := by
  intro a b R3 c3
  obtain ⟨R2, c2, b2⟩ := b
  exact a (fun r0 r1 r2 => R2 r0 r1 r2 → R3 r0 r1 r2) (fun r0 r1 r2 a b => c3 r0 r1 r2 (cj_v_3_concludeWeak_8b (fun r0 r1 r2 a b => a b) hQ a (c2 r0 r1 r2 b))) b2
theorem pv_3_concludeWeak_8_i  {Q : iST → Prop} {x1 : Int} {x4 : Int} {u : iST} (I : Int → Int → iST → Prop) (s : ∀ (x1 : Int) (x4 : Int) (u : iST), I x1 x4 u → pv_3_concludeWeak_8b I Q x1 x4 u) (h : I x1 x4 u) : pv_3_concludeWeak_8 Q x1 x4 u := ⟨I, s, h⟩
theorem mn_v_3_concludeWeak_8 {Q1 Q2 : iST → Prop}  {x1 : Int} {x4 : Int} {u : iST} (hQ : ∀ r0, Q1 r0 → Q2 r0) : pv_3_concludeWeak_8 Q1 x1 x4 u → pv_3_concludeWeak_8 Q2 x1 x4 u := fun ⟨R, s, h⟩ => ⟨R, fun r0 r1 r2 a => mn_v_3_concludeWeak_8b (fun r0 r1 r2 a => a) hQ (s r0 r1 r2 a), h⟩
theorem un_v_3_concludeWeak_8  {Q : iST → Prop} {x1 : Int} {x4 : Int} {u : iST} : pv_3_concludeWeak_8 Q x1 x4 u → pv_3_concludeWeak_8b (fun x1 x4 u => pv_3_concludeWeak_8 Q x1 x4 u) Q x1 x4 u := fun ⟨R, s, h⟩ => mn_v_3_concludeWeak_8b (fun r0 r1 r2 a => ⟨R, s, a⟩) (fun _ h => h) (s _ _ _ h)
theorem fo_v_3_concludeWeak_8  {Q : iST → Prop} {x1 : Int} {x4 : Int} {u : iST} : pv_3_concludeWeak_8b (fun x1 x4 u => pv_3_concludeWeak_8 Q x1 x4 u) Q x1 x4 u → pv_3_concludeWeak_8 Q x1 x4 u := fun h => ⟨fun x1 x4 u => pv_3_concludeWeak_8b (fun x1 x4 u => pv_3_concludeWeak_8 Q x1 x4 u) Q x1 x4 u, fun r0 r1 r2 a => mn_v_3_concludeWeak_8b (fun r0 r1 r2 a => un_v_3_concludeWeak_8 a) (fun _ h => h) a, h⟩
theorem wp_v_3_concludeWeak_8 {Q1 Q2 : iST → Prop}  {x1 : Int} {x4 : Int} {u : iST} (hQ : ∀ r0, Q1 r0 → Q2 r0) : v_3_concludeWeak_8 Q1 x1 x4 u → pv_3_concludeWeak_8 Q2 x1 x4 u := fun a => a (fun x1 x4 u => pv_3_concludeWeak_8 Q2 x1 x4 u) (fun x1 x4 u b => fo_v_3_concludeWeak_8 (wp_v_3_concludeWeak_8b (fun r0 r1 r2 a => a) hQ b))
def pv_3_concludeWeak (a0 : Int) (a1 : Int) (a2 : Int) (Q : iST → Prop) (u : iST) : Prop :=
  pv_1_copy a0 a1 (fun u => 
  pv_3_concludeWeak_8 Q a0 a2 u) u
theorem cj_v_3_concludeWeak {Q1 Q2 Q3 : iST → Prop}  {a0 : Int} {a1 : Int} {a2 : Int} {u : iST} (hQ : ∀ r0, Q1 r0 → Q2 r0 → Q3 r0) : v_3_concludeWeak a0 a1 a2 Q1 u → pv_3_concludeWeak a0 a1 a2 Q2 u → v_3_concludeWeak a0 a1 a2 Q3 u := (cj_v_1_copy (fun _ => (cj_v_3_concludeWeak_8  hQ)))
theorem mn_v_3_concludeWeak {Q1 Q2 : iST → Prop}  {a0 : Int} {a1 : Int} {a2 : Int} {u : iST} (hQ : ∀ r0, Q1 r0 → Q2 r0) : pv_3_concludeWeak a0 a1 a2 Q1 u → pv_3_concludeWeak a0 a1 a2 Q2 u := (mn_v_1_copy (fun _ => (mn_v_3_concludeWeak_8  hQ)))
theorem wp_v_3_concludeWeak {Q1 Q2 : iST → Prop}  {a0 : Int} {a1 : Int} {a2 : Int} {u : iST} (hQ : ∀ r0, Q1 r0 → Q2 r0) : v_3_concludeWeak a0 a1 a2 Q1 u → pv_3_concludeWeak a0 a1 a2 Q2 u := (wp_v_1_copy (fun _ => (wp_v_3_concludeWeak_8  hQ)))
def pv_10_isNegation_53 (Q : Int → iST → Prop) (y0 : Int) (y1 : Int) (u : iST) : Prop :=
  br (y0 ≠ y1) (
    ztp 0 (Q 0 u)) (
    ztp 1 (Q 1 u))
theorem cj_v_10_isNegation_53 {Q1 Q2 Q3 : Int → iST → Prop}  {y0 : Int} {y1 : Int} {u : iST} (hQ : ∀ r0 r1, Q1 r0 r1 → Q2 r0 r1 → Q3 r0 r1) : v_10_isNegation_53 Q1 y0 y1 u → pv_10_isNegation_53 Q2 y0 y1 u → v_10_isNegation_53 Q3 y0 y1 u := (br_cj (zt_cj (hQ _ _)) (zt_cj (hQ _ _)))
theorem mn_v_10_isNegation_53 {Q1 Q2 : Int → iST → Prop}  {y0 : Int} {y1 : Int} {u : iST} (hQ : ∀ r0 r1, Q1 r0 r1 → Q2 r0 r1) : pv_10_isNegation_53 Q1 y0 y1 u → pv_10_isNegation_53 Q2 y0 y1 u := (br_mn (zt_mn (hQ _ _)) (zt_mn (hQ _ _)))
theorem wp_v_10_isNegation_53 {Q1 Q2 : Int → iST → Prop}  {y0 : Int} {y1 : Int} {u : iST} (hQ : ∀ r0 r1, Q1 r0 r1 → Q2 r0 r1) : v_10_isNegation_53 Q1 y0 y1 u → pv_10_isNegation_53 Q2 y0 y1 u := (br_wp (zt_wp (hQ _ _)) (zt_wp (hQ _ _)))
def pv_10_isNegation (a0 : Int) (a1 : Int) (Q : Int → iST → Prop) (u : iST) : Prop :=
  pv_7_isCallOf a1 16 (fun v1 u => 
  br (v1 = 0) (
    pv_7_isConstant a1 (fun v2 u => 
    br (v2 = 0) (
      pv_7_isCallOf a0 16 (fun v3 u => 
      br (v3 = 0) (
        ztp 0 (Q 0 u)) (
        pv_7_item a0 1 (fun v4 u => 
        br (v4 ≠ a1) (
          ztp 0 (Q 0 u)) (
          ztp 1 (Q 1 u))) u)) u) (
      br (a1 ≠ 0) (
        pv_10_isNegation_53 Q a0 0 u) (
        pv_10_isNegation_53 Q a0 1 u))) u) (
    pv_7_item a1 1 (fun v5 u => 
    br (a0 ≠ v5) (
      ztp 0 (Q 0 u)) (
      ztp 1 (Q 1 u))) u)) u
theorem cj_v_10_isNegation {Q1 Q2 Q3 : Int → iST → Prop}  {a0 : Int} {a1 : Int} {u : iST} (hQ : ∀ r0 r1, Q1 r0 r1 → Q2 r0 r1 → Q3 r0 r1) : v_10_isNegation a0 a1 Q1 u → pv_10_isNegation a0 a1 Q2 u → v_10_isNegation a0 a1 Q3 u := (cj_v_7_isCallOf (fun _ _ => (br_cj (cj_v_7_isConstant (fun _ _ => (br_cj (cj_v_7_isCallOf (fun _ _ => (br_cj (zt_cj (hQ _ _)) (cj_v_7_item (fun _ _ => (br_cj (zt_cj (hQ _ _)) (zt_cj (hQ _ _)))))))) (br_cj (cj_v_10_isNegation_53  hQ) (cj_v_10_isNegation_53  hQ))))) (cj_v_7_item (fun _ _ => (br_cj (zt_cj (hQ _ _)) (zt_cj (hQ _ _))))))))
theorem mn_v_10_isNegation {Q1 Q2 : Int → iST → Prop}  {a0 : Int} {a1 : Int} {u : iST} (hQ : ∀ r0 r1, Q1 r0 r1 → Q2 r0 r1) : pv_10_isNegation a0 a1 Q1 u → pv_10_isNegation a0 a1 Q2 u := (mn_v_7_isCallOf (fun _ _ => (br_mn (mn_v_7_isConstant (fun _ _ => (br_mn (mn_v_7_isCallOf (fun _ _ => (br_mn (zt_mn (hQ _ _)) (mn_v_7_item (fun _ _ => (br_mn (zt_mn (hQ _ _)) (zt_mn (hQ _ _)))))))) (br_mn (mn_v_10_isNegation_53  hQ) (mn_v_10_isNegation_53  hQ))))) (mn_v_7_item (fun _ _ => (br_mn (zt_mn (hQ _ _)) (zt_mn (hQ _ _))))))))
theorem wp_v_10_isNegation {Q1 Q2 : Int → iST → Prop}  {a0 : Int} {a1 : Int} {u : iST} (hQ : ∀ r0 r1, Q1 r0 r1 → Q2 r0 r1) : v_10_isNegation a0 a1 Q1 u → pv_10_isNegation a0 a1 Q2 u := (wp_v_7_isCallOf (fun _ _ => (br_wp (wp_v_7_isConstant (fun _ _ => (br_wp (wp_v_7_isCallOf (fun _ _ => (br_wp (zt_wp (hQ _ _)) (wp_v_7_item (fun _ _ => (br_wp (zt_wp (hQ _ _)) (zt_wp (hQ _ _)))))))) (br_wp (wp_v_10_isNegation_53  hQ) (wp_v_10_isNegation_53  hQ))))) (wp_v_7_item (fun _ _ => (br_wp (zt_wp (hQ _ _)) (zt_wp (hQ _ _))))))))
def pv_3_joinAllBut_3b (R3 : Int → Int → Int → Int → iST → Prop) (Q : iST → Prop) (x1 : Int) (x2 : Int) (x3 : Int) (x4 : Int) (u : iST) : Prop :=
  rd (u.2.1 46 x2) (fun v1 => 
  br (v1 ≤ x4) (
    Q u) (
    bdp x4 30 (rd (u.2.1 49 (30 * x2 + x4)) (fun v2 => 
    br (v2 = x3) (
      ovp (x4 + 1) (
      R3 x1 x2 x3 (x4 + 1) u)) (
      bdp x4 30 (rd (u.2.1 49 (30 * x2 + x4)) (fun v4 => 
      pv_10_join x1 v4 (fun u => 
      ovp (x4 + 1) (
      R3 x1 x2 x3 (x4 + 1) u)) u)))))))
theorem cj_v_3_joinAllBut_3b {Q1 Q2 Q3 : iST → Prop} {R31 R32 R33 : Int → Int → Int → Int → iST → Prop} {x1 : Int} {x2 : Int} {x3 : Int} {x4 : Int} {u : iST} (hR3 : ∀ r0 r1 r2 r3 r4, R31 r0 r1 r2 r3 r4 → R32 r0 r1 r2 r3 r4 → R33 r0 r1 r2 r3 r4) (hQ : ∀ r0, Q1 r0 → Q2 r0 → Q3 r0) : v_3_joinAllBut_3b R31 Q1 x1 x2 x3 x4 u → pv_3_joinAllBut_3b R32 Q2 x1 x2 x3 x4 u → v_3_joinAllBut_3b R33 Q3 x1 x2 x3 x4 u := (rd_cj fun _ => (br_cj (hQ _) (bd_cj (rd_cj fun _ => (br_cj (ov_cj (hR3 _ _ _ _ _)) (bd_cj (rd_cj fun _ => (cj_v_10_join (fun _ => (ov_cj (hR3 _ _ _ _ _)))))))))))
theorem mn_v_3_joinAllBut_3b {Q1 Q2 : iST → Prop} {R31 R32 : Int → Int → Int → Int → iST → Prop} {x1 : Int} {x2 : Int} {x3 : Int} {x4 : Int} {u : iST} (hR3 : ∀ r0 r1 r2 r3 r4, R31 r0 r1 r2 r3 r4 → R32 r0 r1 r2 r3 r4) (hQ : ∀ r0, Q1 r0 → Q2 r0) : pv_3_joinAllBut_3b R31 Q1 x1 x2 x3 x4 u → pv_3_joinAllBut_3b R32 Q2 x1 x2 x3 x4 u := (rd_mn fun _ => (br_mn (hQ _) (bd_mn (rd_mn fun _ => (br_mn (ov_mn (hR3 _ _ _ _ _)) (bd_mn (rd_mn fun _ => (mn_v_10_join (fun _ => (ov_mn (hR3 _ _ _ _ _)))))))))))
theorem wp_v_3_joinAllBut_3b {Q1 Q2 : iST → Prop} {R31 R32 : Int → Int → Int → Int → iST → Prop} {x1 : Int} {x2 : Int} {x3 : Int} {x4 : Int} {u : iST} (hR3 : ∀ r0 r1 r2 r3 r4, R31 r0 r1 r2 r3 r4 → R32 r0 r1 r2 r3 r4) (hQ : ∀ r0, Q1 r0 → Q2 r0) : v_3_joinAllBut_3b R31 Q1 x1 x2 x3 x4 u → pv_3_joinAllBut_3b R32 Q2 x1 x2 x3 x4 u := (rd_wp fun _ => (br_wp (hQ _) (bd_wp (rd_wp fun _ => (br_wp (ov_wp (hR3 _ _ _ _ _)) (bd_wp (rd_wp fun _ => (wp_v_10_join (fun _ => (ov_wp (hR3 _ _ _ _ _)))))))))))
def pv_3_joinAllBut_3 (Q : iST → Prop) (x1 : Int) (x2 : Int) (x3 : Int) (x4 : Int) (u : iST) : Prop := ∃ R3 : Int → Int → Int → Int → iST → Prop, (∀ (x1 : Int) (x2 : Int) (x3 : Int) (x4 : Int) (u : iST), R3 x1 x2 x3 x4 u → pv_3_joinAllBut_3b R3 Q x1 x2 x3 x4 u) ∧ R3 x1 x2 x3 x4 u
theorem cj_v_3_joinAllBut_3 {Q1 Q2 Q3 : iST → Prop}  {x1 : Int} {x2 : Int} {x3 : Int} {x4 : Int} {u : iST} (hQ : ∀ r0, Q1 r0 → Q2 r0 → Q3 r0) : v_3_joinAllBut_3 Q1 x1 x2 x3 x4 u → pv_3_joinAllBut_3 Q2 x1 x2 x3 x4 u → v_3_joinAllBut_3 Q3 x1 x2 x3 x4 u := by
  intro a b R3 c3
  obtain ⟨R2, c2, b2⟩ := b
  exact a (fun r0 r1 r2 r3 r4 => R2 r0 r1 r2 r3 r4 → R3 r0 r1 r2 r3 r4) (fun r0 r1 r2 r3 r4 a b => c3 r0 r1 r2 r3 r4 (cj_v_3_joinAllBut_3b (fun r0 r1 r2 r3 r4 a b => a b) hQ a (c2 r0 r1 r2 r3 r4 b))) b2
theorem pv_3_joinAllBut_3_i  {Q : iST → Prop} {x1 : Int} {x2 : Int} {x3 : Int} {x4 : Int} {u : iST} (I : Int → Int → Int → Int → iST → Prop) (s : ∀ (x1 : Int) (x2 : Int) (x3 : Int) (x4 : Int) (u : iST), I x1 x2 x3 x4 u → pv_3_joinAllBut_3b I Q x1 x2 x3 x4 u) (h : I x1 x2 x3 x4 u) : pv_3_joinAllBut_3 Q x1 x2 x3 x4 u := ⟨I, s, h⟩
theorem mn_v_3_joinAllBut_3 {Q1 Q2 : iST → Prop}  {x1 : Int} {x2 : Int} {x3 : Int} {x4 : Int} {u : iST} (hQ : ∀ r0, Q1 r0 → Q2 r0) : pv_3_joinAllBut_3 Q1 x1 x2 x3 x4 u → pv_3_joinAllBut_3 Q2 x1 x2 x3 x4 u := fun ⟨R, s, h⟩ => ⟨R, fun r0 r1 r2 r3 r4 a => mn_v_3_joinAllBut_3b (fun r0 r1 r2 r3 r4 a => a) hQ (s r0 r1 r2 r3 r4 a), h⟩
theorem un_v_3_joinAllBut_3  {Q : iST → Prop} {x1 : Int} {x2 : Int} {x3 : Int} {x4 : Int} {u : iST} : pv_3_joinAllBut_3 Q x1 x2 x3 x4 u → pv_3_joinAllBut_3b (fun x1 x2 x3 x4 u => pv_3_joinAllBut_3 Q x1 x2 x3 x4 u) Q x1 x2 x3 x4 u := fun ⟨R, s, h⟩ => mn_v_3_joinAllBut_3b (fun r0 r1 r2 r3 r4 a => ⟨R, s, a⟩) (fun _ h => h) (s _ _ _ _ _ h)
theorem fo_v_3_joinAllBut_3  {Q : iST → Prop} {x1 : Int} {x2 : Int} {x3 : Int} {x4 : Int} {u : iST} : pv_3_joinAllBut_3b (fun x1 x2 x3 x4 u => pv_3_joinAllBut_3 Q x1 x2 x3 x4 u) Q x1 x2 x3 x4 u → pv_3_joinAllBut_3 Q x1 x2 x3 x4 u := fun h => ⟨fun x1 x2 x3 x4 u => pv_3_joinAllBut_3b (fun x1 x2 x3 x4 u => pv_3_joinAllBut_3 Q x1 x2 x3 x4 u) Q x1 x2 x3 x4 u, fun r0 r1 r2 r3 r4 a => mn_v_3_joinAllBut_3b (fun r0 r1 r2 r3 r4 a => un_v_3_joinAllBut_3 a) (fun _ h => h) a, h⟩
theorem wp_v_3_joinAllBut_3 {Q1 Q2 : iST → Prop}  {x1 : Int} {x2 : Int} {x3 : Int} {x4 : Int} {u : iST} (hQ : ∀ r0, Q1 r0 → Q2 r0) : v_3_joinAllBut_3 Q1 x1 x2 x3 x4 u → pv_3_joinAllBut_3 Q2 x1 x2 x3 x4 u := fun a => a (fun x1 x2 x3 x4 u => pv_3_joinAllBut_3 Q2 x1 x2 x3 x4 u) (fun x1 x2 x3 x4 u b => fo_v_3_joinAllBut_3 (wp_v_3_joinAllBut_3b (fun r0 r1 r2 r3 r4 a => a) hQ b))
def pv_3_joinAllBut (a0 : Int) (a1 : Int) (a2 : Int) (Q : iST → Prop) (u : iST) : Prop :=
  pv_3_joinAllBut_3 Q a0 a1 a2 0 u
theorem cj_v_3_joinAllBut {Q1 Q2 Q3 : iST → Prop}  {a0 : Int} {a1 : Int} {a2 : Int} {u : iST} (hQ : ∀ r0, Q1 r0 → Q2 r0 → Q3 r0) : v_3_joinAllBut a0 a1 a2 Q1 u → pv_3_joinAllBut a0 a1 a2 Q2 u → v_3_joinAllBut a0 a1 a2 Q3 u := (cj_v_3_joinAllBut_3  hQ)
theorem mn_v_3_joinAllBut {Q1 Q2 : iST → Prop}  {a0 : Int} {a1 : Int} {a2 : Int} {u : iST} (hQ : ∀ r0, Q1 r0 → Q2 r0) : pv_3_joinAllBut a0 a1 a2 Q1 u → pv_3_joinAllBut a0 a1 a2 Q2 u := (mn_v_3_joinAllBut_3  hQ)
theorem wp_v_3_joinAllBut {Q1 Q2 : iST → Prop}  {a0 : Int} {a1 : Int} {a2 : Int} {u : iST} (hQ : ∀ r0, Q1 r0 → Q2 r0) : v_3_joinAllBut a0 a1 a2 Q1 u → pv_3_joinAllBut a0 a1 a2 Q2 u := (wp_v_3_joinAllBut_3  hQ)
def pv_3_isCut_6b (R6 : Int → Int → Int → Int → Int → Int → iST → Prop) (Q : Int → iST → Prop) (x1 : Int) (x2 : Int) (x3 : Int) (x4 : Int) (x5 : Int) (x6 : Int) (u : iST) : Prop :=
  rd (u.2.1 46 x3) (fun v1 => 
  br (v1 ≤ x6) (
    pv_1_placeOf x2 x4 (fun v2 u => 
    br (v2 = (-1)) (
      ztp 0 (Q 0 u)) (
      br (x5 ≠ (-1)) (
        pv_3_joinAllBut x1 x2 x4 (fun u => 
        pv_3_joinAllBut x1 x3 x5 (fun u => 
        ztp 1 (Q 1 u)) u) u) (
        ztp 0 (Q 0 u)))) u) (
    bdp x6 30 (rd (u.2.1 49 (30 * x3 + x6)) (fun v5 => 
    pv_10_isNegation v5 x4 (fun v6 u => 
    br (v6 = 0) (
      ovp (x6 + 1) (
      R6 x1 x2 x3 x4 x5 (x6 + 1) u)) (
      bdp x6 30 (rd (u.2.1 49 (30 * x3 + x6)) (fun v8 => 
      ovp (x6 + 1) (
      R6 x1 x2 x3 x4 v8 (x6 + 1) u))))) u))))
theorem cj_v_3_isCut_6b {Q1 Q2 Q3 : Int → iST → Prop} {R61 R62 R63 : Int → Int → Int → Int → Int → Int → iST → Prop} {x1 : Int} {x2 : Int} {x3 : Int} {x4 : Int} {x5 : Int} {x6 : Int} {u : iST} (hR6 : ∀ r0 r1 r2 r3 r4 r5 r6, R61 r0 r1 r2 r3 r4 r5 r6 → R62 r0 r1 r2 r3 r4 r5 r6 → R63 r0 r1 r2 r3 r4 r5 r6) (hQ : ∀ r0 r1, Q1 r0 r1 → Q2 r0 r1 → Q3 r0 r1) : v_3_isCut_6b R61 Q1 x1 x2 x3 x4 x5 x6 u → pv_3_isCut_6b R62 Q2 x1 x2 x3 x4 x5 x6 u → v_3_isCut_6b R63 Q3 x1 x2 x3 x4 x5 x6 u := (rd_cj fun _ => (br_cj (cj_v_1_placeOf (fun _ _ => (br_cj (zt_cj (hQ _ _)) (br_cj (cj_v_3_joinAllBut (fun _ => (cj_v_3_joinAllBut (fun _ => (zt_cj (hQ _ _)))))) (zt_cj (hQ _ _)))))) (bd_cj (rd_cj fun _ => (cj_v_10_isNegation (fun _ _ => (br_cj (ov_cj (hR6 _ _ _ _ _ _ _)) (bd_cj (rd_cj fun _ => (ov_cj (hR6 _ _ _ _ _ _ _)))))))))))
theorem mn_v_3_isCut_6b {Q1 Q2 : Int → iST → Prop} {R61 R62 : Int → Int → Int → Int → Int → Int → iST → Prop} {x1 : Int} {x2 : Int} {x3 : Int} {x4 : Int} {x5 : Int} {x6 : Int} {u : iST} (hR6 : ∀ r0 r1 r2 r3 r4 r5 r6, R61 r0 r1 r2 r3 r4 r5 r6 → R62 r0 r1 r2 r3 r4 r5 r6) (hQ : ∀ r0 r1, Q1 r0 r1 → Q2 r0 r1) : pv_3_isCut_6b R61 Q1 x1 x2 x3 x4 x5 x6 u → pv_3_isCut_6b R62 Q2 x1 x2 x3 x4 x5 x6 u := (rd_mn fun _ => (br_mn (mn_v_1_placeOf (fun _ _ => (br_mn (zt_mn (hQ _ _)) (br_mn (mn_v_3_joinAllBut (fun _ => (mn_v_3_joinAllBut (fun _ => (zt_mn (hQ _ _)))))) (zt_mn (hQ _ _)))))) (bd_mn (rd_mn fun _ => (mn_v_10_isNegation (fun _ _ => (br_mn (ov_mn (hR6 _ _ _ _ _ _ _)) (bd_mn (rd_mn fun _ => (ov_mn (hR6 _ _ _ _ _ _ _)))))))))))
theorem wp_v_3_isCut_6b {Q1 Q2 : Int → iST → Prop} {R61 R62 : Int → Int → Int → Int → Int → Int → iST → Prop} {x1 : Int} {x2 : Int} {x3 : Int} {x4 : Int} {x5 : Int} {x6 : Int} {u : iST} (hR6 : ∀ r0 r1 r2 r3 r4 r5 r6, R61 r0 r1 r2 r3 r4 r5 r6 → R62 r0 r1 r2 r3 r4 r5 r6) (hQ : ∀ r0 r1, Q1 r0 r1 → Q2 r0 r1) : v_3_isCut_6b R61 Q1 x1 x2 x3 x4 x5 x6 u → pv_3_isCut_6b R62 Q2 x1 x2 x3 x4 x5 x6 u := (rd_wp fun _ => (br_wp (wp_v_1_placeOf (fun _ _ => (br_wp (zt_wp (hQ _ _)) (br_wp (wp_v_3_joinAllBut (fun _ => (wp_v_3_joinAllBut (fun _ => (zt_wp (hQ _ _)))))) (zt_wp (hQ _ _)))))) (bd_wp (rd_wp fun _ => (wp_v_10_isNegation (fun _ _ => (br_wp (ov_wp (hR6 _ _ _ _ _ _ _)) (bd_wp (rd_wp fun _ => (ov_wp (hR6 _ _ _ _ _ _ _)))))))))))
def pv_3_isCut_6 (Q : Int → iST → Prop) (x1 : Int) (x2 : Int) (x3 : Int) (x4 : Int) (x5 : Int) (x6 : Int) (u : iST) : Prop := ∃ R6 : Int → Int → Int → Int → Int → Int → iST → Prop, (∀ (x1 : Int) (x2 : Int) (x3 : Int) (x4 : Int) (x5 : Int) (x6 : Int) (u : iST), R6 x1 x2 x3 x4 x5 x6 u → pv_3_isCut_6b R6 Q x1 x2 x3 x4 x5 x6 u) ∧ R6 x1 x2 x3 x4 x5 x6 u
theorem cj_v_3_isCut_6 {Q1 Q2 Q3 : Int → iST → Prop}  {x1 : Int} {x2 : Int} {x3 : Int} {x4 : Int} {x5 : Int} {x6 : Int} {u : iST} (hQ : ∀ r0 r1, Q1 r0 r1 → Q2 r0 r1 → Q3 r0 r1) : v_3_isCut_6 Q1 x1 x2 x3 x4 x5 x6 u → pv_3_isCut_6 Q2 x1 x2 x3 x4 x5 x6 u → v_3_isCut_6 Q3 x1 x2 x3 x4 x5 x6 u := by
  intro a b R3 c3
  obtain ⟨R2, c2, b2⟩ := b
  exact a (fun r0 r1 r2 r3 r4 r5 r6 => R2 r0 r1 r2 r3 r4 r5 r6 → R3 r0 r1 r2 r3 r4 r5 r6) (fun r0 r1 r2 r3 r4 r5 r6 a b => c3 r0 r1 r2 r3 r4 r5 r6 (cj_v_3_isCut_6b (fun r0 r1 r2 r3 r4 r5 r6 a b => a b) hQ a (c2 r0 r1 r2 r3 r4 r5 r6 b))) b2
theorem pv_3_isCut_6_i  {Q : Int → iST → Prop} {x1 : Int} {x2 : Int} {x3 : Int} {x4 : Int} {x5 : Int} {x6 : Int} {u : iST} (I : Int → Int → Int → Int → Int → Int → iST → Prop) (s : ∀ (x1 : Int) (x2 : Int) (x3 : Int) (x4 : Int) (x5 : Int) (x6 : Int) (u : iST), I x1 x2 x3 x4 x5 x6 u → pv_3_isCut_6b I Q x1 x2 x3 x4 x5 x6 u) (h : I x1 x2 x3 x4 x5 x6 u) : pv_3_isCut_6 Q x1 x2 x3 x4 x5 x6 u := ⟨I, s, h⟩
theorem mn_v_3_isCut_6 {Q1 Q2 : Int → iST → Prop}  {x1 : Int} {x2 : Int} {x3 : Int} {x4 : Int} {x5 : Int} {x6 : Int} {u : iST} (hQ : ∀ r0 r1, Q1 r0 r1 → Q2 r0 r1) : pv_3_isCut_6 Q1 x1 x2 x3 x4 x5 x6 u → pv_3_isCut_6 Q2 x1 x2 x3 x4 x5 x6 u := fun ⟨R, s, h⟩ => ⟨R, fun r0 r1 r2 r3 r4 r5 r6 a => mn_v_3_isCut_6b (fun r0 r1 r2 r3 r4 r5 r6 a => a) hQ (s r0 r1 r2 r3 r4 r5 r6 a), h⟩
theorem un_v_3_isCut_6  {Q : Int → iST → Prop} {x1 : Int} {x2 : Int} {x3 : Int} {x4 : Int} {x5 : Int} {x6 : Int} {u : iST} : pv_3_isCut_6 Q x1 x2 x3 x4 x5 x6 u → pv_3_isCut_6b (fun x1 x2 x3 x4 x5 x6 u => pv_3_isCut_6 Q x1 x2 x3 x4 x5 x6 u) Q x1 x2 x3 x4 x5 x6 u := fun ⟨R, s, h⟩ => mn_v_3_isCut_6b (fun r0 r1 r2 r3 r4 r5 r6 a => ⟨R, s, a⟩) (fun _ _ h => h) (s _ _ _ _ _ _ _ h)
theorem fo_v_3_isCut_6  {Q : Int → iST → Prop} {x1 : Int} {x2 : Int} {x3 : Int} {x4 : Int} {x5 : Int} {x6 : Int} {u : iST} : pv_3_isCut_6b (fun x1 x2 x3 x4 x5 x6 u => pv_3_isCut_6 Q x1 x2 x3 x4 x5 x6 u) Q x1 x2 x3 x4 x5 x6 u → pv_3_isCut_6 Q x1 x2 x3 x4 x5 x6 u := fun h => ⟨fun x1 x2 x3 x4 x5 x6 u => pv_3_isCut_6b (fun x1 x2 x3 x4 x5 x6 u => pv_3_isCut_6 Q x1 x2 x3 x4 x5 x6 u) Q x1 x2 x3 x4 x5 x6 u, fun r0 r1 r2 r3 r4 r5 r6 a => mn_v_3_isCut_6b (fun r0 r1 r2 r3 r4 r5 r6 a => un_v_3_isCut_6 a) (fun _ _ h => h) a, h⟩
theorem wp_v_3_isCut_6 {Q1 Q2 : Int → iST → Prop}  {x1 : Int} {x2 : Int} {x3 : Int} {x4 : Int} {x5 : Int} {x6 : Int} {u : iST} (hQ : ∀ r0 r1, Q1 r0 r1 → Q2 r0 r1) : v_3_isCut_6 Q1 x1 x2 x3 x4 x5 x6 u → pv_3_isCut_6 Q2 x1 x2 x3 x4 x5 x6 u := fun a => a (fun x1 x2 x3 x4 x5 x6 u => pv_3_isCut_6 Q2 x1 x2 x3 x4 x5 x6 u) (fun x1 x2 x3 x4 x5 x6 u b => fo_v_3_isCut_6 (wp_v_3_isCut_6b (fun r0 r1 r2 r3 r4 r5 r6 a => a) hQ b))
def pv_3_isCut (a0 : Int) (a1 : Int) (a2 : Int) (a3 : Int) (Q : Int → iST → Prop) (u : iST) : Prop :=
  pv_3_isCut_6 Q a0 a1 a2 a3 (-1) 0 u
theorem cj_v_3_isCut {Q1 Q2 Q3 : Int → iST → Prop}  {a0 : Int} {a1 : Int} {a2 : Int} {a3 : Int} {u : iST} (hQ : ∀ r0 r1, Q1 r0 r1 → Q2 r0 r1 → Q3 r0 r1) : v_3_isCut a0 a1 a2 a3 Q1 u → pv_3_isCut a0 a1 a2 a3 Q2 u → v_3_isCut a0 a1 a2 a3 Q3 u := (cj_v_3_isCut_6  hQ)
theorem mn_v_3_isCut {Q1 Q2 : Int → iST → Prop}  {a0 : Int} {a1 : Int} {a2 : Int} {a3 : Int} {u : iST} (hQ : ∀ r0 r1, Q1 r0 r1 → Q2 r0 r1) : pv_3_isCut a0 a1 a2 a3 Q1 u → pv_3_isCut a0 a1 a2 a3 Q2 u := (mn_v_3_isCut_6  hQ)
theorem wp_v_3_isCut {Q1 Q2 : Int → iST → Prop}  {a0 : Int} {a1 : Int} {a2 : Int} {a3 : Int} {u : iST} (hQ : ∀ r0 r1, Q1 r0 r1 → Q2 r0 r1) : v_3_isCut a0 a1 a2 a3 Q1 u → pv_3_isCut a0 a1 a2 a3 Q2 u := (wp_v_3_isCut_6  hQ)
def pv_3_joinRebuilt_3b (R3 : Int → Int → Int → Int → iST → Prop) (Q : iST → Prop) (x1 : Int) (x2 : Int) (x3 : Int) (x4 : Int) (u : iST) : Prop :=
  rd (u.2.1 46 x2) (fun v1 => 
  br (v1 ≤ x4) (
    Q u) (
    bdp x4 30 (rd (u.2.1 49 (30 * x2 + x4)) (fun v2 => 
    pv_10_rebuilt v2 x3 (fun v3 u => 
    pv_10_join x1 v3 (fun u => 
    ovp (x4 + 1) (
    R3 x1 x2 x3 (x4 + 1) u)) u) u))))
theorem cj_v_3_joinRebuilt_3b {Q1 Q2 Q3 : iST → Prop} {R31 R32 R33 : Int → Int → Int → Int → iST → Prop} {x1 : Int} {x2 : Int} {x3 : Int} {x4 : Int} {u : iST} (hR3 : ∀ r0 r1 r2 r3 r4, R31 r0 r1 r2 r3 r4 → R32 r0 r1 r2 r3 r4 → R33 r0 r1 r2 r3 r4) (hQ : ∀ r0, Q1 r0 → Q2 r0 → Q3 r0) : v_3_joinRebuilt_3b R31 Q1 x1 x2 x3 x4 u → pv_3_joinRebuilt_3b R32 Q2 x1 x2 x3 x4 u → v_3_joinRebuilt_3b R33 Q3 x1 x2 x3 x4 u := (rd_cj fun _ => (br_cj (hQ _) (bd_cj (rd_cj fun _ => (cj_v_10_rebuilt (fun _ _ => (cj_v_10_join (fun _ => (ov_cj (hR3 _ _ _ _ _))))))))))
theorem mn_v_3_joinRebuilt_3b {Q1 Q2 : iST → Prop} {R31 R32 : Int → Int → Int → Int → iST → Prop} {x1 : Int} {x2 : Int} {x3 : Int} {x4 : Int} {u : iST} (hR3 : ∀ r0 r1 r2 r3 r4, R31 r0 r1 r2 r3 r4 → R32 r0 r1 r2 r3 r4) (hQ : ∀ r0, Q1 r0 → Q2 r0) : pv_3_joinRebuilt_3b R31 Q1 x1 x2 x3 x4 u → pv_3_joinRebuilt_3b R32 Q2 x1 x2 x3 x4 u := (rd_mn fun _ => (br_mn (hQ _) (bd_mn (rd_mn fun _ => (mn_v_10_rebuilt (fun _ _ => (mn_v_10_join (fun _ => (ov_mn (hR3 _ _ _ _ _))))))))))
theorem wp_v_3_joinRebuilt_3b {Q1 Q2 : iST → Prop} {R31 R32 : Int → Int → Int → Int → iST → Prop} {x1 : Int} {x2 : Int} {x3 : Int} {x4 : Int} {u : iST} (hR3 : ∀ r0 r1 r2 r3 r4, R31 r0 r1 r2 r3 r4 → R32 r0 r1 r2 r3 r4) (hQ : ∀ r0, Q1 r0 → Q2 r0) : v_3_joinRebuilt_3b R31 Q1 x1 x2 x3 x4 u → pv_3_joinRebuilt_3b R32 Q2 x1 x2 x3 x4 u := (rd_wp fun _ => (br_wp (hQ _) (bd_wp (rd_wp fun _ => (wp_v_10_rebuilt (fun _ _ => (wp_v_10_join (fun _ => (ov_wp (hR3 _ _ _ _ _))))))))))
def pv_3_joinRebuilt_3 (Q : iST → Prop) (x1 : Int) (x2 : Int) (x3 : Int) (x4 : Int) (u : iST) : Prop := ∃ R3 : Int → Int → Int → Int → iST → Prop, (∀ (x1 : Int) (x2 : Int) (x3 : Int) (x4 : Int) (u : iST), R3 x1 x2 x3 x4 u → pv_3_joinRebuilt_3b R3 Q x1 x2 x3 x4 u) ∧ R3 x1 x2 x3 x4 u
theorem cj_v_3_joinRebuilt_3 {Q1 Q2 Q3 : iST → Prop}  {x1 : Int} {x2 : Int} {x3 : Int} {x4 : Int} {u : iST} (hQ : ∀ r0, Q1 r0 → Q2 r0 → Q3 r0) : v_3_joinRebuilt_3 Q1 x1 x2 x3 x4 u → pv_3_joinRebuilt_3 Q2 x1 x2 x3 x4 u → v_3_joinRebuilt_3 Q3 x1 x2 x3 x4 u := by
  intro a b R3 c3
  obtain ⟨R2, c2, b2⟩ := b
  exact a (fun r0 r1 r2 r3 r4 => R2 r0 r1 r2 r3 r4 → R3 r0 r1 r2 r3 r4) (fun r0 r1 r2 r3 r4 a b => c3 r0 r1 r2 r3 r4 (cj_v_3_joinRebuilt_3b (fun r0 r1 r2 r3 r4 a b => a b) hQ a (c2 r0 r1 r2 r3 r4 b))) b2
theorem pv_3_joinRebuilt_3_i  {Q : iST → Prop} {x1 : Int} {x2 : Int} {x3 : Int} {x4 : Int} {u : iST} (I : Int → Int → Int → Int → iST → Prop) (s : ∀ (x1 : Int) (x2 : Int) (x3 : Int) (x4 : Int) (u : iST), I x1 x2 x3 x4 u → pv_3_joinRebuilt_3b I Q x1 x2 x3 x4 u) (h : I x1 x2 x3 x4 u) : pv_3_joinRebuilt_3 Q x1 x2 x3 x4 u := ⟨I, s, h⟩
theorem mn_v_3_joinRebuilt_3 {Q1 Q2 : iST → Prop}  {x1 : Int} {x2 : Int} {x3 : Int} {x4 : Int} {u : iST} (hQ : ∀ r0, Q1 r0 → Q2 r0) : pv_3_joinRebuilt_3 Q1 x1 x2 x3 x4 u → pv_3_joinRebuilt_3 Q2 x1 x2 x3 x4 u := fun ⟨R, s, h⟩ => ⟨R, fun r0 r1 r2 r3 r4 a => mn_v_3_joinRebuilt_3b (fun r0 r1 r2 r3 r4 a => a) hQ (s r0 r1 r2 r3 r4 a), h⟩
theorem un_v_3_joinRebuilt_3  {Q : iST → Prop} {x1 : Int} {x2 : Int} {x3 : Int} {x4 : Int} {u : iST} : pv_3_joinRebuilt_3 Q x1 x2 x3 x4 u → pv_3_joinRebuilt_3b (fun x1 x2 x3 x4 u => pv_3_joinRebuilt_3 Q x1 x2 x3 x4 u) Q x1 x2 x3 x4 u := fun ⟨R, s, h⟩ => mn_v_3_joinRebuilt_3b (fun r0 r1 r2 r3 r4 a => ⟨R, s, a⟩) (fun _ h => h) (s _ _ _ _ _ h)
theorem fo_v_3_joinRebuilt_3  {Q : iST → Prop} {x1 : Int} {x2 : Int} {x3 : Int} {x4 : Int} {u : iST} : pv_3_joinRebuilt_3b (fun x1 x2 x3 x4 u => pv_3_joinRebuilt_3 Q x1 x2 x3 x4 u) Q x1 x2 x3 x4 u → pv_3_joinRebuilt_3 Q x1 x2 x3 x4 u := fun h => ⟨fun x1 x2 x3 x4 u => pv_3_joinRebuilt_3b (fun x1 x2 x3 x4 u => pv_3_joinRebuilt_3 Q x1 x2 x3 x4 u) Q x1 x2 x3 x4 u, fun r0 r1 r2 r3 r4 a => mn_v_3_joinRebuilt_3b (fun r0 r1 r2 r3 r4 a => un_v_3_joinRebuilt_3 a) (fun _ h => h) a, h⟩
theorem wp_v_3_joinRebuilt_3 {Q1 Q2 : iST → Prop}  {x1 : Int} {x2 : Int} {x3 : Int} {x4 : Int} {u : iST} (hQ : ∀ r0, Q1 r0 → Q2 r0) : v_3_joinRebuilt_3 Q1 x1 x2 x3 x4 u → pv_3_joinRebuilt_3 Q2 x1 x2 x3 x4 u := fun a => a (fun x1 x2 x3 x4 u => pv_3_joinRebuilt_3 Q2 x1 x2 x3 x4 u) (fun x1 x2 x3 x4 u b => fo_v_3_joinRebuilt_3 (wp_v_3_joinRebuilt_3b (fun r0 r1 r2 r3 r4 a => a) hQ b))
def pv_3_joinRebuilt (a0 : Int) (a1 : Int) (a2 : Int) (Q : iST → Prop) (u : iST) : Prop :=
  pv_3_joinRebuilt_3 Q a0 a1 a2 0 u
theorem cj_v_3_joinRebuilt {Q1 Q2 Q3 : iST → Prop}  {a0 : Int} {a1 : Int} {a2 : Int} {u : iST} (hQ : ∀ r0, Q1 r0 → Q2 r0 → Q3 r0) : v_3_joinRebuilt a0 a1 a2 Q1 u → pv_3_joinRebuilt a0 a1 a2 Q2 u → v_3_joinRebuilt a0 a1 a2 Q3 u := (cj_v_3_joinRebuilt_3  hQ)
theorem mn_v_3_joinRebuilt {Q1 Q2 : iST → Prop}  {a0 : Int} {a1 : Int} {a2 : Int} {u : iST} (hQ : ∀ r0, Q1 r0 → Q2 r0) : pv_3_joinRebuilt a0 a1 a2 Q1 u → pv_3_joinRebuilt a0 a1 a2 Q2 u := (mn_v_3_joinRebuilt_3  hQ)
theorem wp_v_3_joinRebuilt {Q1 Q2 : iST → Prop}  {a0 : Int} {a1 : Int} {a2 : Int} {u : iST} (hQ : ∀ r0, Q1 r0 → Q2 r0) : v_3_joinRebuilt a0 a1 a2 Q1 u → pv_3_joinRebuilt a0 a1 a2 Q2 u := (wp_v_3_joinRebuilt_3  hQ)
def pv_3_concludeOfParts_254 (Q : Int → iST → Prop) (x1 : Int) (x4 : Int) (x5 : Int) (u : iST) : Prop :=
  pv_3_joinAllBut x1 x4 x5 (fun u => 
  ztp 1 (Q 1 u)) u
theorem cj_v_3_concludeOfParts_254 {Q1 Q2 Q3 : Int → iST → Prop}  {x1 : Int} {x4 : Int} {x5 : Int} {u : iST} (hQ : ∀ r0 r1, Q1 r0 r1 → Q2 r0 r1 → Q3 r0 r1) : v_3_concludeOfParts_254 Q1 x1 x4 x5 u → pv_3_concludeOfParts_254 Q2 x1 x4 x5 u → v_3_concludeOfParts_254 Q3 x1 x4 x5 u := (cj_v_3_joinAllBut (fun _ => (zt_cj (hQ _ _))))
theorem mn_v_3_concludeOfParts_254 {Q1 Q2 : Int → iST → Prop}  {x1 : Int} {x4 : Int} {x5 : Int} {u : iST} (hQ : ∀ r0 r1, Q1 r0 r1 → Q2 r0 r1) : pv_3_concludeOfParts_254 Q1 x1 x4 x5 u → pv_3_concludeOfParts_254 Q2 x1 x4 x5 u := (mn_v_3_joinAllBut (fun _ => (zt_mn (hQ _ _))))
theorem wp_v_3_concludeOfParts_254 {Q1 Q2 : Int → iST → Prop}  {x1 : Int} {x4 : Int} {x5 : Int} {u : iST} (hQ : ∀ r0 r1, Q1 r0 r1 → Q2 r0 r1) : v_3_concludeOfParts_254 Q1 x1 x4 x5 u → pv_3_concludeOfParts_254 Q2 x1 x4 x5 u := (wp_v_3_joinAllBut (fun _ => (zt_wp (hQ _ _))))
def pv_3_concludeOfParts_148 (Q : Int → iST → Prop) (x1 : Int) (x2 : Int) (x3 : Int) (x4 : Int) (y0 : Int) (u : iST) : Prop :=
  pv_7_isCallOf y0 4 (fun v20 u => 
  br (v20 ≠ 0) (
    pv_7_left x2 (fun v21 u => 
    br (v21 ≠ 41) (
      pv_7_item y0 1 (fun v22 u => 
      sw (iI u 40 v22) (fun u => 
      pv_7_item y0 2 (fun v23 u => 
      sw (iI u 41 v23) (fun u => 
      ovp (x3 + 1) (
      bdp (x3 + 1) 256 (rc (u.2.1 57 (x3 + 1)) (fun v25 => 
      pv_3_joinRebuilt x1 v25 2 (fun u => 
      pv_3_concludeOfParts_254 Q x1 x4 y0 u) u))))) u)) u) (
      pv_7_item y0 2 (fun v28 u => 
      pv_7_item y0 1 (fun v29 u => 
      pv_3_joinEqual x1 v28 v29 (fun u => 
      pv_3_concludeOfParts_254 Q x1 x4 y0 u) u) u) u)) u) (
    ztp 0 (Q 0 u))) u
theorem cj_v_3_concludeOfParts_148 {Q1 Q2 Q3 : Int → iST → Prop}  {x1 : Int} {x2 : Int} {x3 : Int} {x4 : Int} {y0 : Int} {u : iST} (hQ : ∀ r0 r1, Q1 r0 r1 → Q2 r0 r1 → Q3 r0 r1) : v_3_concludeOfParts_148 Q1 x1 x2 x3 x4 y0 u → pv_3_concludeOfParts_148 Q2 x1 x2 x3 x4 y0 u → v_3_concludeOfParts_148 Q3 x1 x2 x3 x4 y0 u := (cj_v_7_isCallOf (fun _ _ => (br_cj (cj_v_7_left (fun _ _ => (br_cj (cj_v_7_item (fun _ _ => (sw_cj fun _ => (cj_v_7_item (fun _ _ => (sw_cj fun _ => (ov_cj (bd_cj (rc_cj fun _ => (cj_v_3_joinRebuilt (fun _ => (cj_v_3_concludeOfParts_254  hQ)))))))))))) (cj_v_7_item (fun _ _ => (cj_v_7_item (fun _ _ => (cj_v_3_joinEqual (fun _ => (cj_v_3_concludeOfParts_254  hQ)))))))))) (zt_cj (hQ _ _)))))
theorem mn_v_3_concludeOfParts_148 {Q1 Q2 : Int → iST → Prop}  {x1 : Int} {x2 : Int} {x3 : Int} {x4 : Int} {y0 : Int} {u : iST} (hQ : ∀ r0 r1, Q1 r0 r1 → Q2 r0 r1) : pv_3_concludeOfParts_148 Q1 x1 x2 x3 x4 y0 u → pv_3_concludeOfParts_148 Q2 x1 x2 x3 x4 y0 u := (mn_v_7_isCallOf (fun _ _ => (br_mn (mn_v_7_left (fun _ _ => (br_mn (mn_v_7_item (fun _ _ => (sw_mn fun _ => (mn_v_7_item (fun _ _ => (sw_mn fun _ => (ov_mn (bd_mn (rc_mn fun _ => (mn_v_3_joinRebuilt (fun _ => (mn_v_3_concludeOfParts_254  hQ)))))))))))) (mn_v_7_item (fun _ _ => (mn_v_7_item (fun _ _ => (mn_v_3_joinEqual (fun _ => (mn_v_3_concludeOfParts_254  hQ)))))))))) (zt_mn (hQ _ _)))))
theorem wp_v_3_concludeOfParts_148 {Q1 Q2 : Int → iST → Prop}  {x1 : Int} {x2 : Int} {x3 : Int} {x4 : Int} {y0 : Int} {u : iST} (hQ : ∀ r0 r1, Q1 r0 r1 → Q2 r0 r1) : v_3_concludeOfParts_148 Q1 x1 x2 x3 x4 y0 u → pv_3_concludeOfParts_148 Q2 x1 x2 x3 x4 y0 u := (wp_v_7_isCallOf (fun _ _ => (br_wp (wp_v_7_left (fun _ _ => (br_wp (wp_v_7_item (fun _ _ => (sw_wp fun _ => (wp_v_7_item (fun _ _ => (sw_wp fun _ => (ov_wp (bd_wp (rc_wp fun _ => (wp_v_3_joinRebuilt (fun _ => (wp_v_3_concludeOfParts_254  hQ)))))))))))) (wp_v_7_item (fun _ _ => (wp_v_7_item (fun _ _ => (wp_v_3_joinEqual (fun _ => (wp_v_3_concludeOfParts_254  hQ)))))))))) (zt_wp (hQ _ _)))))
def pv_3_concludeOfParts (a0 : Int) (a1 : Int) (a2 : Int) (Q : Int → iST → Prop) (u : iST) : Prop :=
  pv_7_left a1 (fun v1 u => 
  br (v1 = 38) (
    bdp a2 256 (rc (u.2.1 57 a2) (fun v2 => 
    pv_7_item a1 1 (fun v3 u => 
    pv_3_concludeWeak a0 v2 v3 (fun u => 
    ztp 1 (Q 1 u)) u) u))) (
  br (v1 = 39) (
    bdp a2 256 (rc (u.2.1 57 a2) (fun v6 => 
    ovp (a2 + 1) (
    bdp (a2 + 1) 256 (rc (u.2.1 57 (a2 + 1)) (fun v8 => 
    pv_3_termAt a1 1 (fun v9 u => 
    pv_3_isCut a0 v6 v8 v9 (fun v10 u => 
    ztp v10 (Q v10 u)) u) u)))))) (
  br (v1 = 40) (
    pv_7_right a1 (fun v12 u => 
    pv_7_right v12 (fun v13 u => 
    pv_10_bindPairs v13 (fun v14 u => 
    bdp a2 256 (rc (u.2.1 57 a2) (fun v15 => 
    pv_3_joinRebuilt a0 v15 1 (fun u => 
    ztp 1 (Q 1 u)) u))) u) u) u) (
  bdp a2 256 (rc (u.2.1 57 a2) (fun v18 => 
  rd (u.2.1 46 v18) (fun v19 => 
  br (v19 ≤ 0) (
    pv_3_concludeOfParts_148 Q a0 a1 a2 v18 (-1) u) (
    bdp 0 30 (rd (u.2.1 49 (30 * v18 + 0)) (fun v31 => 
    pv_3_concludeOfParts_148 Q a0 a1 a2 v18 v31 u)))))))))) u
theorem cj_v_3_concludeOfParts {Q1 Q2 Q3 : Int → iST → Prop}  {a0 : Int} {a1 : Int} {a2 : Int} {u : iST} (hQ : ∀ r0 r1, Q1 r0 r1 → Q2 r0 r1 → Q3 r0 r1) : v_3_concludeOfParts a0 a1 a2 Q1 u → pv_3_concludeOfParts a0 a1 a2 Q2 u → v_3_concludeOfParts a0 a1 a2 Q3 u := (cj_v_7_left (fun _ _ => (br_cj (bd_cj (rc_cj fun _ => (cj_v_7_item (fun _ _ => (cj_v_3_concludeWeak (fun _ => (zt_cj (hQ _ _)))))))) (br_cj (bd_cj (rc_cj fun _ => (ov_cj (bd_cj (rc_cj fun _ => (cj_v_3_termAt (fun _ _ => (cj_v_3_isCut (fun _ _ => (zt_cj (hQ _ _))))))))))) (br_cj (cj_v_7_right (fun _ _ => (cj_v_7_right (fun _ _ => (cj_v_10_bindPairs (fun _ _ => (bd_cj (rc_cj fun _ => (cj_v_3_joinRebuilt (fun _ => (zt_cj (hQ _ _)))))))))))) (bd_cj (rc_cj fun _ => (rd_cj fun _ => (br_cj (cj_v_3_concludeOfParts_148  hQ) (bd_cj (rd_cj fun _ => (cj_v_3_concludeOfParts_148  hQ))))))))))))
theorem mn_v_3_concludeOfParts {Q1 Q2 : Int → iST → Prop}  {a0 : Int} {a1 : Int} {a2 : Int} {u : iST} (hQ : ∀ r0 r1, Q1 r0 r1 → Q2 r0 r1) : pv_3_concludeOfParts a0 a1 a2 Q1 u → pv_3_concludeOfParts a0 a1 a2 Q2 u := (mn_v_7_left (fun _ _ => (br_mn (bd_mn (rc_mn fun _ => (mn_v_7_item (fun _ _ => (mn_v_3_concludeWeak (fun _ => (zt_mn (hQ _ _)))))))) (br_mn (bd_mn (rc_mn fun _ => (ov_mn (bd_mn (rc_mn fun _ => (mn_v_3_termAt (fun _ _ => (mn_v_3_isCut (fun _ _ => (zt_mn (hQ _ _))))))))))) (br_mn (mn_v_7_right (fun _ _ => (mn_v_7_right (fun _ _ => (mn_v_10_bindPairs (fun _ _ => (bd_mn (rc_mn fun _ => (mn_v_3_joinRebuilt (fun _ => (zt_mn (hQ _ _)))))))))))) (bd_mn (rc_mn fun _ => (rd_mn fun _ => (br_mn (mn_v_3_concludeOfParts_148  hQ) (bd_mn (rd_mn fun _ => (mn_v_3_concludeOfParts_148  hQ))))))))))))
theorem wp_v_3_concludeOfParts {Q1 Q2 : Int → iST → Prop}  {a0 : Int} {a1 : Int} {a2 : Int} {u : iST} (hQ : ∀ r0 r1, Q1 r0 r1 → Q2 r0 r1) : v_3_concludeOfParts a0 a1 a2 Q1 u → pv_3_concludeOfParts a0 a1 a2 Q2 u := (wp_v_7_left (fun _ _ => (br_wp (bd_wp (rc_wp fun _ => (wp_v_7_item (fun _ _ => (wp_v_3_concludeWeak (fun _ => (zt_wp (hQ _ _)))))))) (br_wp (bd_wp (rc_wp fun _ => (ov_wp (bd_wp (rc_wp fun _ => (wp_v_3_termAt (fun _ _ => (wp_v_3_isCut (fun _ _ => (zt_wp (hQ _ _))))))))))) (br_wp (wp_v_7_right (fun _ _ => (wp_v_7_right (fun _ _ => (wp_v_10_bindPairs (fun _ _ => (bd_wp (rc_wp fun _ => (wp_v_3_joinRebuilt (fun _ => (zt_wp (hQ _ _)))))))))))) (bd_wp (rc_wp fun _ => (rd_wp fun _ => (br_wp (wp_v_3_concludeOfParts_148  hQ) (bd_wp (rd_wp fun _ => (wp_v_3_concludeOfParts_148  hQ))))))))))))
def pv_3_conclude_116 (Q : iST → Prop) (x3 : Int) (x4 : Int) (y1 : Int) (u : iST) : Prop :=
  sw (iI u 12 y1) (fun u => 
  rd (u.1 11) (fun v10 => 
  bdp x3 256 (rc (u.2.1 57 x3) (fun v11 => 
  bdp v10 256 (sw (iA u 57 v10 v11) (fun u => 
  bdp x3 256 (sw (iA u 57 x3 x4) (fun u => 
  ovp (x3 + 1) (
  sw (iI u 11 (x3 + 1)) (fun u => 
  rd (u.1 10) (fun v13 => 
  ovp (v13 - 1) (
  sw (iI u 10 (v13 - 1)) (fun u => 
  Q u)))))))))))))
theorem cj_v_3_conclude_116 {Q1 Q2 Q3 : iST → Prop}  {x3 : Int} {x4 : Int} {y1 : Int} {u : iST} (hQ : ∀ r0, Q1 r0 → Q2 r0 → Q3 r0) : v_3_conclude_116 Q1 x3 x4 y1 u → pv_3_conclude_116 Q2 x3 x4 y1 u → v_3_conclude_116 Q3 x3 x4 y1 u := (sw_cj fun _ => (rd_cj fun _ => (bd_cj (rc_cj fun _ => (bd_cj (sw_cj fun _ => (bd_cj (sw_cj fun _ => (ov_cj (sw_cj fun _ => (rd_cj fun _ => (ov_cj (sw_cj fun _ => (hQ _))))))))))))))
theorem mn_v_3_conclude_116 {Q1 Q2 : iST → Prop}  {x3 : Int} {x4 : Int} {y1 : Int} {u : iST} (hQ : ∀ r0, Q1 r0 → Q2 r0) : pv_3_conclude_116 Q1 x3 x4 y1 u → pv_3_conclude_116 Q2 x3 x4 y1 u := (sw_mn fun _ => (rd_mn fun _ => (bd_mn (rc_mn fun _ => (bd_mn (sw_mn fun _ => (bd_mn (sw_mn fun _ => (ov_mn (sw_mn fun _ => (rd_mn fun _ => (ov_mn (sw_mn fun _ => (hQ _))))))))))))))
theorem wp_v_3_conclude_116 {Q1 Q2 : iST → Prop}  {x3 : Int} {x4 : Int} {y1 : Int} {u : iST} (hQ : ∀ r0, Q1 r0 → Q2 r0) : v_3_conclude_116 Q1 x3 x4 y1 u → pv_3_conclude_116 Q2 x3 x4 y1 u := (sw_wp fun _ => (rd_wp fun _ => (bd_wp (rc_wp fun _ => (bd_wp (sw_wp fun _ => (bd_wp (sw_wp fun _ => (ov_wp (sw_wp fun _ => (rd_wp fun _ => (ov_wp (sw_wp fun _ => (hQ _))))))))))))))
def pv_3_conclude_105 (Q : iST → Prop) (x2 : Int) (x3 : Int) (x4 : Int) (x5 : Int) (u : iST) : Prop :=
  br (x5 = 0) (
    pv_3_conclude_116 Q x3 x4 x2 u) (
    pv_3_conclude_116 Q x3 x4 (-1) u)
theorem cj_v_3_conclude_105 {Q1 Q2 Q3 : iST → Prop}  {x2 : Int} {x3 : Int} {x4 : Int} {x5 : Int} {u : iST} (hQ : ∀ r0, Q1 r0 → Q2 r0 → Q3 r0) : v_3_conclude_105 Q1 x2 x3 x4 x5 u → pv_3_conclude_105 Q2 x2 x3 x4 x5 u → v_3_conclude_105 Q3 x2 x3 x4 x5 u := (br_cj (cj_v_3_conclude_116  hQ) (cj_v_3_conclude_116  hQ))
theorem mn_v_3_conclude_105 {Q1 Q2 : iST → Prop}  {x2 : Int} {x3 : Int} {x4 : Int} {x5 : Int} {u : iST} (hQ : ∀ r0, Q1 r0 → Q2 r0) : pv_3_conclude_105 Q1 x2 x3 x4 x5 u → pv_3_conclude_105 Q2 x2 x3 x4 x5 u := (br_mn (mn_v_3_conclude_116  hQ) (mn_v_3_conclude_116  hQ))
theorem wp_v_3_conclude_105 {Q1 Q2 : iST → Prop}  {x2 : Int} {x3 : Int} {x4 : Int} {x5 : Int} {u : iST} (hQ : ∀ r0, Q1 r0 → Q2 r0) : v_3_conclude_105 Q1 x2 x3 x4 x5 u → pv_3_conclude_105 Q2 x2 x3 x4 x5 u := (br_wp (wp_v_3_conclude_116  hQ) (wp_v_3_conclude_116  hQ))
def pv_3_conclude (a0 : Int) (Q : iST → Prop) (u : iST) : Prop :=
  bdp 0 4 (rd (u.2.1 53 (4 * a0 + 0)) (fun v1 => 
  bdp 3 4 (rd (u.2.1 53 (4 * a0 + 3)) (fun v2 => 
  rd (u.1 11) (fun v3 => 
  br (v3 < 256) (
    rd (u.1 11) (fun v4 => 
    bdp v4 256 (rc (u.2.1 57 v4) (fun v5 => 
    pv_1_clear v5 (fun u => 
    pv_7_left v1 (fun v7 u => 
    br (38 ≤ v7) (
      pv_7_left v1 (fun v8 u => 
      br (v8 ≠ 43) (
        pv_3_concludeOfParts v5 v1 v2 (fun v9 u => 
        pv_3_conclude_105 Q v1 v2 v5 v9 u) u) (
        pv_3_isInduced v5 v1 v2 (fun v15 u => 
        pv_3_conclude_105 Q v1 v2 v5 v15 u) u)) u) (
      pv_3_concludeAlone v5 v1 (fun u => 
      pv_3_conclude_105 Q v1 v2 v5 1 u) u)) u) u)))) (
    pv_7_blame 4 (fun u => 
    Q u) u))))))
theorem cj_v_3_conclude {Q1 Q2 Q3 : iST → Prop}  {a0 : Int} {u : iST} (hQ : ∀ r0, Q1 r0 → Q2 r0 → Q3 r0) : v_3_conclude a0 Q1 u → pv_3_conclude a0 Q2 u → v_3_conclude a0 Q3 u := (bd_cj (rd_cj fun _ => (bd_cj (rd_cj fun _ => (rd_cj fun _ => (br_cj (rd_cj fun _ => (bd_cj (rc_cj fun _ => (cj_v_1_clear (fun _ => (cj_v_7_left (fun _ _ => (br_cj (cj_v_7_left (fun _ _ => (br_cj (cj_v_3_concludeOfParts (fun _ _ => (cj_v_3_conclude_105  hQ))) (cj_v_3_isInduced (fun _ _ => (cj_v_3_conclude_105  hQ)))))) (cj_v_3_concludeAlone (fun _ => (cj_v_3_conclude_105  hQ))))))))))) (cj_v_7_blame (fun _ => (hQ _)))))))))
theorem mn_v_3_conclude {Q1 Q2 : iST → Prop}  {a0 : Int} {u : iST} (hQ : ∀ r0, Q1 r0 → Q2 r0) : pv_3_conclude a0 Q1 u → pv_3_conclude a0 Q2 u := (bd_mn (rd_mn fun _ => (bd_mn (rd_mn fun _ => (rd_mn fun _ => (br_mn (rd_mn fun _ => (bd_mn (rc_mn fun _ => (mn_v_1_clear (fun _ => (mn_v_7_left (fun _ _ => (br_mn (mn_v_7_left (fun _ _ => (br_mn (mn_v_3_concludeOfParts (fun _ _ => (mn_v_3_conclude_105  hQ))) (mn_v_3_isInduced (fun _ _ => (mn_v_3_conclude_105  hQ)))))) (mn_v_3_concludeAlone (fun _ => (mn_v_3_conclude_105  hQ))))))))))) (mn_v_7_blame (fun _ => (hQ _)))))))))
theorem wp_v_3_conclude {Q1 Q2 : iST → Prop}  {a0 : Int} {u : iST} (hQ : ∀ r0, Q1 r0 → Q2 r0) : v_3_conclude a0 Q1 u → pv_3_conclude a0 Q2 u := (bd_wp (rd_wp fun _ => (bd_wp (rd_wp fun _ => (rd_wp fun _ => (br_wp (rd_wp fun _ => (bd_wp (rc_wp fun _ => (wp_v_1_clear (fun _ => (wp_v_7_left (fun _ _ => (br_wp (wp_v_7_left (fun _ _ => (br_wp (wp_v_3_concludeOfParts (fun _ _ => (wp_v_3_conclude_105  hQ))) (wp_v_3_isInduced (fun _ _ => (wp_v_3_conclude_105  hQ)))))) (wp_v_3_concludeAlone (fun _ => (wp_v_3_conclude_105  hQ))))))))))) (wp_v_7_blame (fun _ => (hQ _)))))))))
def pv_3_goThrough_22b (R22 : Int → iST → Prop) (Q : iST → Prop) (x2 : Int) (u : iST) : Prop :=
  br (1000000 ≤ x2) (
    Q u) (
    rd (u.1 10) (fun v2 => 
    br (v2 ≤ 0) (
      Q u) (
      rd (u.1 12) (fun v3 => 
      br (v3 ≠ (-1)) (
        Q u) (
        rd (u.1 32) (fun v4 => 
        br (v4 ≠ 0) (
          Q u) (
          rd (u.1 10) (fun v5 => 
          ovp (v5 - 1) (
          bdp (v5 - 1) 40 (
          bdp 1 4 (rd (u.2.1 53 (4 * (v5 - 1) + 1)) (fun v9 => 
          br (v9 ≤ 0) (
            pv_3_conclude (v5 - 1) (fun u => 
            ovp (x2 + 1) (
            R22 (x2 + 1) u)) u) (
            bdp 0 4 (rd (u.2.1 53 (4 * (v5 - 1) + 0)) (fun v12 => 
            bdp 2 4 (rd (u.2.1 53 (4 * (v5 - 1) + 2)) (fun v13 => 
            pv_7_item v12 v13 (fun v14 u => 
            bdp 1 4 (rd (u.2.1 53 (4 * (v5 - 1) + 1)) (fun v15 => 
            ovp (v15 - 1) (
            bdp 1 4 (sw (iA u 53 (4 * (v5 - 1) + 1) (v15 - 1)) (fun u => 
            bdp 2 4 (rd (u.2.1 53 (4 * (v5 - 1) + 2)) (fun v17 => 
            ovp (v17 + 1) (
            bdp 2 4 (sw (iA u 53 (4 * (v5 - 1) + 2) (v17 + 1)) (fun u => 
            pv_3_open v14 (fun u => 
            ovp (x2 + 1) (
            R22 (x2 + 1) u)) u))))))))))) u)))))))))))))))))
theorem cj_v_3_goThrough_22b {Q1 Q2 Q3 : iST → Prop} {R221 R222 R223 : Int → iST → Prop} {x2 : Int} {u : iST} (hR22 : ∀ r0 r1, R221 r0 r1 → R222 r0 r1 → R223 r0 r1) (hQ : ∀ r0, Q1 r0 → Q2 r0 → Q3 r0) : v_3_goThrough_22b R221 Q1 x2 u → pv_3_goThrough_22b R222 Q2 x2 u → v_3_goThrough_22b R223 Q3 x2 u := (br_cj (hQ _) (rd_cj fun _ => (br_cj (hQ _) (rd_cj fun _ => (br_cj (hQ _) (rd_cj fun _ => (br_cj (hQ _) (rd_cj fun _ => (ov_cj (bd_cj (bd_cj (rd_cj fun _ => (br_cj (cj_v_3_conclude (fun _ => (ov_cj (hR22 _ _)))) (bd_cj (rd_cj fun _ => (bd_cj (rd_cj fun _ => (cj_v_7_item (fun _ _ => (bd_cj (rd_cj fun _ => (ov_cj (bd_cj (sw_cj fun _ => (bd_cj (rd_cj fun _ => (ov_cj (bd_cj (sw_cj fun _ => (cj_v_3_open (fun _ => (ov_cj (hR22 _ _)))))))))))))))))))))))))))))))))
theorem mn_v_3_goThrough_22b {Q1 Q2 : iST → Prop} {R221 R222 : Int → iST → Prop} {x2 : Int} {u : iST} (hR22 : ∀ r0 r1, R221 r0 r1 → R222 r0 r1) (hQ : ∀ r0, Q1 r0 → Q2 r0) : pv_3_goThrough_22b R221 Q1 x2 u → pv_3_goThrough_22b R222 Q2 x2 u := (br_mn (hQ _) (rd_mn fun _ => (br_mn (hQ _) (rd_mn fun _ => (br_mn (hQ _) (rd_mn fun _ => (br_mn (hQ _) (rd_mn fun _ => (ov_mn (bd_mn (bd_mn (rd_mn fun _ => (br_mn (mn_v_3_conclude (fun _ => (ov_mn (hR22 _ _)))) (bd_mn (rd_mn fun _ => (bd_mn (rd_mn fun _ => (mn_v_7_item (fun _ _ => (bd_mn (rd_mn fun _ => (ov_mn (bd_mn (sw_mn fun _ => (bd_mn (rd_mn fun _ => (ov_mn (bd_mn (sw_mn fun _ => (mn_v_3_open (fun _ => (ov_mn (hR22 _ _)))))))))))))))))))))))))))))))))
theorem wp_v_3_goThrough_22b {Q1 Q2 : iST → Prop} {R221 R222 : Int → iST → Prop} {x2 : Int} {u : iST} (hR22 : ∀ r0 r1, R221 r0 r1 → R222 r0 r1) (hQ : ∀ r0, Q1 r0 → Q2 r0) : v_3_goThrough_22b R221 Q1 x2 u → pv_3_goThrough_22b R222 Q2 x2 u := (br_wp (hQ _) (rd_wp fun _ => (br_wp (hQ _) (rd_wp fun _ => (br_wp (hQ _) (rd_wp fun _ => (br_wp (hQ _) (rd_wp fun _ => (ov_wp (bd_wp (bd_wp (rd_wp fun _ => (br_wp (wp_v_3_conclude (fun _ => (ov_wp (hR22 _ _)))) (bd_wp (rd_wp fun _ => (bd_wp (rd_wp fun _ => (wp_v_7_item (fun _ _ => (bd_wp (rd_wp fun _ => (ov_wp (bd_wp (sw_wp fun _ => (bd_wp (rd_wp fun _ => (ov_wp (bd_wp (sw_wp fun _ => (wp_v_3_open (fun _ => (ov_wp (hR22 _ _)))))))))))))))))))))))))))))))))
def pv_3_goThrough_22 (Q : iST → Prop) (x2 : Int) (u : iST) : Prop := ∃ R22 : Int → iST → Prop, (∀ (x2 : Int) (u : iST), R22 x2 u → pv_3_goThrough_22b R22 Q x2 u) ∧ R22 x2 u
theorem cj_v_3_goThrough_22 {Q1 Q2 Q3 : iST → Prop}  {x2 : Int} {u : iST} (hQ : ∀ r0, Q1 r0 → Q2 r0 → Q3 r0) : v_3_goThrough_22 Q1 x2 u → pv_3_goThrough_22 Q2 x2 u → v_3_goThrough_22 Q3 x2 u := by
  intro a b R3 c3
  obtain ⟨R2, c2, b2⟩ := b
  exact a (fun r0 r1 => R2 r0 r1 → R3 r0 r1) (fun r0 r1 a b => c3 r0 r1 (cj_v_3_goThrough_22b (fun r0 r1 a b => a b) hQ a (c2 r0 r1 b))) b2
theorem pv_3_goThrough_22_i  {Q : iST → Prop} {x2 : Int} {u : iST} (I : Int → iST → Prop) (s : ∀ (x2 : Int) (u : iST), I x2 u → pv_3_goThrough_22b I Q x2 u) (h : I x2 u) : pv_3_goThrough_22 Q x2 u := ⟨I, s, h⟩
theorem mn_v_3_goThrough_22 {Q1 Q2 : iST → Prop}  {x2 : Int} {u : iST} (hQ : ∀ r0, Q1 r0 → Q2 r0) : pv_3_goThrough_22 Q1 x2 u → pv_3_goThrough_22 Q2 x2 u := fun ⟨R, s, h⟩ => ⟨R, fun r0 r1 a => mn_v_3_goThrough_22b (fun r0 r1 a => a) hQ (s r0 r1 a), h⟩
theorem un_v_3_goThrough_22  {Q : iST → Prop} {x2 : Int} {u : iST} : pv_3_goThrough_22 Q x2 u → pv_3_goThrough_22b (fun x2 u => pv_3_goThrough_22 Q x2 u) Q x2 u := fun ⟨R, s, h⟩ => mn_v_3_goThrough_22b (fun r0 r1 a => ⟨R, s, a⟩) (fun _ h => h) (s _ _ h)
theorem fo_v_3_goThrough_22  {Q : iST → Prop} {x2 : Int} {u : iST} : pv_3_goThrough_22b (fun x2 u => pv_3_goThrough_22 Q x2 u) Q x2 u → pv_3_goThrough_22 Q x2 u := fun h => ⟨fun x2 u => pv_3_goThrough_22b (fun x2 u => pv_3_goThrough_22 Q x2 u) Q x2 u, fun r0 r1 a => mn_v_3_goThrough_22b (fun r0 r1 a => un_v_3_goThrough_22 a) (fun _ h => h) a, h⟩
theorem wp_v_3_goThrough_22 {Q1 Q2 : iST → Prop}  {x2 : Int} {u : iST} (hQ : ∀ r0, Q1 r0 → Q2 r0) : v_3_goThrough_22 Q1 x2 u → pv_3_goThrough_22 Q2 x2 u := fun a => a (fun x2 u => pv_3_goThrough_22 Q2 x2 u) (fun x2 u b => fo_v_3_goThrough_22 (wp_v_3_goThrough_22b (fun r0 r1 a => a) hQ b))
def pv_3_goThrough (a0 : Int) (Q : iST → Prop) (u : iST) : Prop :=
  sw (iI u 10 0) (fun u => 
  sw (iI u 11 0) (fun u => 
  sw (iI u 12 (-1)) (fun u => 
  pv_3_open a0 (fun u => 
  pv_3_goThrough_22 Q 0 u) u)))
theorem cj_v_3_goThrough {Q1 Q2 Q3 : iST → Prop}  {a0 : Int} {u : iST} (hQ : ∀ r0, Q1 r0 → Q2 r0 → Q3 r0) : v_3_goThrough a0 Q1 u → pv_3_goThrough a0 Q2 u → v_3_goThrough a0 Q3 u := (sw_cj fun _ => (sw_cj fun _ => (sw_cj fun _ => (cj_v_3_open (fun _ => (cj_v_3_goThrough_22  hQ))))))
theorem mn_v_3_goThrough {Q1 Q2 : iST → Prop}  {a0 : Int} {u : iST} (hQ : ∀ r0, Q1 r0 → Q2 r0) : pv_3_goThrough a0 Q1 u → pv_3_goThrough a0 Q2 u := (sw_mn fun _ => (sw_mn fun _ => (sw_mn fun _ => (mn_v_3_open (fun _ => (mn_v_3_goThrough_22  hQ))))))
theorem wp_v_3_goThrough {Q1 Q2 : iST → Prop}  {a0 : Int} {u : iST} (hQ : ∀ r0, Q1 r0 → Q2 r0) : v_3_goThrough a0 Q1 u → pv_3_goThrough a0 Q2 u := (sw_wp fun _ => (sw_wp fun _ => (sw_wp fun _ => (wp_v_3_open (fun _ => (wp_v_3_goThrough_22  hQ))))))
def pv_4_begin (Q : iST → Prop) (u : iST) : Prop :=
  sw (iI u 13 0) (fun u => 
  sw (iI u 15 0) (fun u => 
  Q u))
theorem cj_v_4_begin {Q1 Q2 Q3 : iST → Prop}  {u : iST} (hQ : ∀ r0, Q1 r0 → Q2 r0 → Q3 r0) : v_4_begin Q1 u → pv_4_begin Q2 u → v_4_begin Q3 u := (sw_cj fun _ => (sw_cj fun _ => (hQ _)))
theorem mn_v_4_begin {Q1 Q2 : iST → Prop}  {u : iST} (hQ : ∀ r0, Q1 r0 → Q2 r0) : pv_4_begin Q1 u → pv_4_begin Q2 u := (sw_mn fun _ => (sw_mn fun _ => (hQ _)))
theorem wp_v_4_begin {Q1 Q2 : iST → Prop}  {u : iST} (hQ : ∀ r0, Q1 r0 → Q2 r0) : v_4_begin Q1 u → pv_4_begin Q2 u := (sw_wp fun _ => (sw_wp fun _ => (hQ _)))
def pv_4_newClause (Q : Int → iST → Prop) (u : iST) : Prop :=
  rd (u.1 13) (fun v1 => 
  br (v1 < 120) (
    rd (u.1 13) (fun v2 => 
    bdp v2 120 (
    pv_1_clear v2 (fun u => 
    rd (u.1 13) (fun v6 => 
    ovp (v6 + 1) (
    sw (iI u 13 (v6 + 1)) (fun u => 
    Q v2 u)))) u))) (
    pv_7_blame 4 (fun u => 
    Q 150 u) u))
theorem cj_v_4_newClause {Q1 Q2 Q3 : Int → iST → Prop}  {u : iST} (hQ : ∀ r0 r1, Q1 r0 r1 → Q2 r0 r1 → Q3 r0 r1) : v_4_newClause Q1 u → pv_4_newClause Q2 u → v_4_newClause Q3 u := (rd_cj fun _ => (br_cj (rd_cj fun _ => (bd_cj (cj_v_1_clear (fun _ => (rd_cj fun _ => (ov_cj (sw_cj fun _ => (hQ _ _)))))))) (cj_v_7_blame (fun _ => (hQ _ _)))))
theorem mn_v_4_newClause {Q1 Q2 : Int → iST → Prop}  {u : iST} (hQ : ∀ r0 r1, Q1 r0 r1 → Q2 r0 r1) : pv_4_newClause Q1 u → pv_4_newClause Q2 u := (rd_mn fun _ => (br_mn (rd_mn fun _ => (bd_mn (mn_v_1_clear (fun _ => (rd_mn fun _ => (ov_mn (sw_mn fun _ => (hQ _ _)))))))) (mn_v_7_blame (fun _ => (hQ _ _)))))
theorem wp_v_4_newClause {Q1 Q2 : Int → iST → Prop}  {u : iST} (hQ : ∀ r0 r1, Q1 r0 r1 → Q2 r0 r1) : v_4_newClause Q1 u → pv_4_newClause Q2 u := (rd_wp fun _ => (br_wp (rd_wp fun _ => (bd_wp (wp_v_1_clear (fun _ => (rd_wp fun _ => (ov_wp (sw_wp fun _ => (hQ _ _)))))))) (wp_v_7_blame (fun _ => (hQ _ _)))))
def pv_4_isPlain_37b (R2 : Int → Int → iST → Prop) (R37 : Int → Int → Int → Int → iST → Prop) (Q : Int → iST → Prop) (x1 : Int) (x2 : Int) (x3 : Int) (x4 : Int) (u : iST) : Prop :=
  rd (u.2.1 46 x1) (fun v3 => 
  br (v3 ≤ x4) (
    ovp (x2 + 1) (
    R2 x1 (x2 + 1) u)) (
    bdp x4 30 (rd (u.2.1 49 (30 * x1 + x4)) (fun v5 => 
    pv_10_isNegation v5 x3 (fun v6 u => 
    br (v6 = 0) (
      ovp (x4 + 1) (
      R37 x1 x2 x3 (x4 + 1) u)) (
      ztp 1 (Q 1 u))) u))))
theorem cj_v_4_isPlain_37b {Q1 Q2 Q3 : Int → iST → Prop} {R21 R22 R23 : Int → Int → iST → Prop} {R371 R372 R373 : Int → Int → Int → Int → iST → Prop} {x1 : Int} {x2 : Int} {x3 : Int} {x4 : Int} {u : iST} (hR2 : ∀ r0 r1 r2, R21 r0 r1 r2 → R22 r0 r1 r2 → R23 r0 r1 r2) (hR37 : ∀ r0 r1 r2 r3 r4, R371 r0 r1 r2 r3 r4 → R372 r0 r1 r2 r3 r4 → R373 r0 r1 r2 r3 r4) (hQ : ∀ r0 r1, Q1 r0 r1 → Q2 r0 r1 → Q3 r0 r1) : v_4_isPlain_37b R21 R371 Q1 x1 x2 x3 x4 u → pv_4_isPlain_37b R22 R372 Q2 x1 x2 x3 x4 u → v_4_isPlain_37b R23 R373 Q3 x1 x2 x3 x4 u := (rd_cj fun _ => (br_cj (ov_cj (hR2 _ _ _)) (bd_cj (rd_cj fun _ => (cj_v_10_isNegation (fun _ _ => (br_cj (ov_cj (hR37 _ _ _ _ _)) (zt_cj (hQ _ _)))))))))
theorem mn_v_4_isPlain_37b {Q1 Q2 : Int → iST → Prop} {R21 R22 : Int → Int → iST → Prop} {R371 R372 : Int → Int → Int → Int → iST → Prop} {x1 : Int} {x2 : Int} {x3 : Int} {x4 : Int} {u : iST} (hR2 : ∀ r0 r1 r2, R21 r0 r1 r2 → R22 r0 r1 r2) (hR37 : ∀ r0 r1 r2 r3 r4, R371 r0 r1 r2 r3 r4 → R372 r0 r1 r2 r3 r4) (hQ : ∀ r0 r1, Q1 r0 r1 → Q2 r0 r1) : pv_4_isPlain_37b R21 R371 Q1 x1 x2 x3 x4 u → pv_4_isPlain_37b R22 R372 Q2 x1 x2 x3 x4 u := (rd_mn fun _ => (br_mn (ov_mn (hR2 _ _ _)) (bd_mn (rd_mn fun _ => (mn_v_10_isNegation (fun _ _ => (br_mn (ov_mn (hR37 _ _ _ _ _)) (zt_mn (hQ _ _)))))))))
theorem wp_v_4_isPlain_37b {Q1 Q2 : Int → iST → Prop} {R21 R22 : Int → Int → iST → Prop} {R371 R372 : Int → Int → Int → Int → iST → Prop} {x1 : Int} {x2 : Int} {x3 : Int} {x4 : Int} {u : iST} (hR2 : ∀ r0 r1 r2, R21 r0 r1 r2 → R22 r0 r1 r2) (hR37 : ∀ r0 r1 r2 r3 r4, R371 r0 r1 r2 r3 r4 → R372 r0 r1 r2 r3 r4) (hQ : ∀ r0 r1, Q1 r0 r1 → Q2 r0 r1) : v_4_isPlain_37b R21 R371 Q1 x1 x2 x3 x4 u → pv_4_isPlain_37b R22 R372 Q2 x1 x2 x3 x4 u := (rd_wp fun _ => (br_wp (ov_wp (hR2 _ _ _)) (bd_wp (rd_wp fun _ => (wp_v_10_isNegation (fun _ _ => (br_wp (ov_wp (hR37 _ _ _ _ _)) (zt_wp (hQ _ _)))))))))
def pv_4_isPlain_37 (R2 : Int → Int → iST → Prop) (Q : Int → iST → Prop) (x1 : Int) (x2 : Int) (x3 : Int) (x4 : Int) (u : iST) : Prop := ∃ R37 : Int → Int → Int → Int → iST → Prop, (∀ (x1 : Int) (x2 : Int) (x3 : Int) (x4 : Int) (u : iST), R37 x1 x2 x3 x4 u → pv_4_isPlain_37b R2 R37 Q x1 x2 x3 x4 u) ∧ R37 x1 x2 x3 x4 u
theorem cj_v_4_isPlain_37 {Q1 Q2 Q3 : Int → iST → Prop} {R21 R22 R23 : Int → Int → iST → Prop} {x1 : Int} {x2 : Int} {x3 : Int} {x4 : Int} {u : iST} (hR2 : ∀ r0 r1 r2, R21 r0 r1 r2 → R22 r0 r1 r2 → R23 r0 r1 r2) (hQ : ∀ r0 r1, Q1 r0 r1 → Q2 r0 r1 → Q3 r0 r1) : v_4_isPlain_37 R21 Q1 x1 x2 x3 x4 u → pv_4_isPlain_37 R22 Q2 x1 x2 x3 x4 u → v_4_isPlain_37 R23 Q3 x1 x2 x3 x4 u := by
  intro a b R3 c3
  obtain ⟨R2, c2, b2⟩ := b
  exact a (fun r0 r1 r2 r3 r4 => R2 r0 r1 r2 r3 r4 → R3 r0 r1 r2 r3 r4) (fun r0 r1 r2 r3 r4 a b => c3 r0 r1 r2 r3 r4 (cj_v_4_isPlain_37b hR2 (fun r0 r1 r2 r3 r4 a b => a b) hQ a (c2 r0 r1 r2 r3 r4 b))) b2
theorem pv_4_isPlain_37_i {R2 : Int → Int → iST → Prop} {Q : Int → iST → Prop} {x1 : Int} {x2 : Int} {x3 : Int} {x4 : Int} {u : iST} (I : Int → Int → Int → Int → iST → Prop) (s : ∀ (x1 : Int) (x2 : Int) (x3 : Int) (x4 : Int) (u : iST), I x1 x2 x3 x4 u → pv_4_isPlain_37b R2 I Q x1 x2 x3 x4 u) (h : I x1 x2 x3 x4 u) : pv_4_isPlain_37 R2 Q x1 x2 x3 x4 u := ⟨I, s, h⟩
theorem mn_v_4_isPlain_37 {Q1 Q2 : Int → iST → Prop} {R21 R22 : Int → Int → iST → Prop} {x1 : Int} {x2 : Int} {x3 : Int} {x4 : Int} {u : iST} (hR2 : ∀ r0 r1 r2, R21 r0 r1 r2 → R22 r0 r1 r2) (hQ : ∀ r0 r1, Q1 r0 r1 → Q2 r0 r1) : pv_4_isPlain_37 R21 Q1 x1 x2 x3 x4 u → pv_4_isPlain_37 R22 Q2 x1 x2 x3 x4 u := fun ⟨R, s, h⟩ => ⟨R, fun r0 r1 r2 r3 r4 a => mn_v_4_isPlain_37b hR2 (fun r0 r1 r2 r3 r4 a => a) hQ (s r0 r1 r2 r3 r4 a), h⟩
theorem un_v_4_isPlain_37 {R2 : Int → Int → iST → Prop} {Q : Int → iST → Prop} {x1 : Int} {x2 : Int} {x3 : Int} {x4 : Int} {u : iST} : pv_4_isPlain_37 R2 Q x1 x2 x3 x4 u → pv_4_isPlain_37b R2 (fun x1 x2 x3 x4 u => pv_4_isPlain_37 R2 Q x1 x2 x3 x4 u) Q x1 x2 x3 x4 u := fun ⟨R, s, h⟩ => mn_v_4_isPlain_37b (fun _ _ _ h => h) (fun r0 r1 r2 r3 r4 a => ⟨R, s, a⟩) (fun _ _ h => h) (s _ _ _ _ _ h)
theorem fo_v_4_isPlain_37 {R2 : Int → Int → iST → Prop} {Q : Int → iST → Prop} {x1 : Int} {x2 : Int} {x3 : Int} {x4 : Int} {u : iST} : pv_4_isPlain_37b R2 (fun x1 x2 x3 x4 u => pv_4_isPlain_37 R2 Q x1 x2 x3 x4 u) Q x1 x2 x3 x4 u → pv_4_isPlain_37 R2 Q x1 x2 x3 x4 u := fun h => ⟨fun x1 x2 x3 x4 u => pv_4_isPlain_37b R2 (fun x1 x2 x3 x4 u => pv_4_isPlain_37 R2 Q x1 x2 x3 x4 u) Q x1 x2 x3 x4 u, fun r0 r1 r2 r3 r4 a => mn_v_4_isPlain_37b (fun _ _ _ h => h) (fun r0 r1 r2 r3 r4 a => un_v_4_isPlain_37 a) (fun _ _ h => h) a, h⟩
theorem wp_v_4_isPlain_37 {Q1 Q2 : Int → iST → Prop} {R21 R22 : Int → Int → iST → Prop} {x1 : Int} {x2 : Int} {x3 : Int} {x4 : Int} {u : iST} (hR2 : ∀ r0 r1 r2, R21 r0 r1 r2 → R22 r0 r1 r2) (hQ : ∀ r0 r1, Q1 r0 r1 → Q2 r0 r1) : v_4_isPlain_37 R21 Q1 x1 x2 x3 x4 u → pv_4_isPlain_37 R22 Q2 x1 x2 x3 x4 u := fun a => a (fun x1 x2 x3 x4 u => pv_4_isPlain_37 R22 Q2 x1 x2 x3 x4 u) (fun x1 x2 x3 x4 u b => fo_v_4_isPlain_37 (wp_v_4_isPlain_37b hR2 (fun r0 r1 r2 r3 r4 a => a) hQ b))
def pv_4_isPlain_34 (R2 : Int → Int → iST → Prop) (Q : Int → iST → Prop) (x1 : Int) (x2 : Int) (x3 : Int) (u : iST) : Prop :=
  pv_4_isPlain_37 R2 Q x1 x2 x3 0 u
theorem cj_v_4_isPlain_34 {Q1 Q2 Q3 : Int → iST → Prop} {R21 R22 R23 : Int → Int → iST → Prop} {x1 : Int} {x2 : Int} {x3 : Int} {u : iST} (hR2 : ∀ r0 r1 r2, R21 r0 r1 r2 → R22 r0 r1 r2 → R23 r0 r1 r2) (hQ : ∀ r0 r1, Q1 r0 r1 → Q2 r0 r1 → Q3 r0 r1) : v_4_isPlain_34 R21 Q1 x1 x2 x3 u → pv_4_isPlain_34 R22 Q2 x1 x2 x3 u → v_4_isPlain_34 R23 Q3 x1 x2 x3 u := (cj_v_4_isPlain_37 hR2 hQ)
theorem mn_v_4_isPlain_34 {Q1 Q2 : Int → iST → Prop} {R21 R22 : Int → Int → iST → Prop} {x1 : Int} {x2 : Int} {x3 : Int} {u : iST} (hR2 : ∀ r0 r1 r2, R21 r0 r1 r2 → R22 r0 r1 r2) (hQ : ∀ r0 r1, Q1 r0 r1 → Q2 r0 r1) : pv_4_isPlain_34 R21 Q1 x1 x2 x3 u → pv_4_isPlain_34 R22 Q2 x1 x2 x3 u := (mn_v_4_isPlain_37 hR2 hQ)
theorem wp_v_4_isPlain_34 {Q1 Q2 : Int → iST → Prop} {R21 R22 : Int → Int → iST → Prop} {x1 : Int} {x2 : Int} {x3 : Int} {u : iST} (hR2 : ∀ r0 r1 r2, R21 r0 r1 r2 → R22 r0 r1 r2) (hQ : ∀ r0 r1, Q1 r0 r1 → Q2 r0 r1) : v_4_isPlain_34 R21 Q1 x1 x2 x3 u → pv_4_isPlain_34 R22 Q2 x1 x2 x3 u := (wp_v_4_isPlain_37 hR2 hQ)
def pv_4_isPlain_2b (R2 : Int → Int → iST → Prop) (Q : Int → iST → Prop) (x1 : Int) (x2 : Int) (u : iST) : Prop :=
  rd (u.2.1 46 x1) (fun v1 => 
  br (v1 ≤ x2) (
    ztp 0 (Q 0 u)) (
    bdp x2 30 (rd (u.2.1 49 (30 * x1 + x2)) (fun v2 => 
    br (v2 = 0) (
      pv_4_isPlain_34 R2 Q x1 x2 v2 u) (
      pv_7_isConstant v2 (fun v8 u => 
      br (v8 = 0) (
        pv_4_isPlain_34 R2 Q x1 x2 v2 u) (
        ztp 1 (Q 1 u))) u)))))
theorem cj_v_4_isPlain_2b {Q1 Q2 Q3 : Int → iST → Prop} {R21 R22 R23 : Int → Int → iST → Prop} {x1 : Int} {x2 : Int} {u : iST} (hR2 : ∀ r0 r1 r2, R21 r0 r1 r2 → R22 r0 r1 r2 → R23 r0 r1 r2) (hQ : ∀ r0 r1, Q1 r0 r1 → Q2 r0 r1 → Q3 r0 r1) : v_4_isPlain_2b R21 Q1 x1 x2 u → pv_4_isPlain_2b R22 Q2 x1 x2 u → v_4_isPlain_2b R23 Q3 x1 x2 u := (rd_cj fun _ => (br_cj (zt_cj (hQ _ _)) (bd_cj (rd_cj fun _ => (br_cj (cj_v_4_isPlain_34 hR2 hQ) (cj_v_7_isConstant (fun _ _ => (br_cj (cj_v_4_isPlain_34 hR2 hQ) (zt_cj (hQ _ _))))))))))
theorem mn_v_4_isPlain_2b {Q1 Q2 : Int → iST → Prop} {R21 R22 : Int → Int → iST → Prop} {x1 : Int} {x2 : Int} {u : iST} (hR2 : ∀ r0 r1 r2, R21 r0 r1 r2 → R22 r0 r1 r2) (hQ : ∀ r0 r1, Q1 r0 r1 → Q2 r0 r1) : pv_4_isPlain_2b R21 Q1 x1 x2 u → pv_4_isPlain_2b R22 Q2 x1 x2 u := (rd_mn fun _ => (br_mn (zt_mn (hQ _ _)) (bd_mn (rd_mn fun _ => (br_mn (mn_v_4_isPlain_34 hR2 hQ) (mn_v_7_isConstant (fun _ _ => (br_mn (mn_v_4_isPlain_34 hR2 hQ) (zt_mn (hQ _ _))))))))))
theorem wp_v_4_isPlain_2b {Q1 Q2 : Int → iST → Prop} {R21 R22 : Int → Int → iST → Prop} {x1 : Int} {x2 : Int} {u : iST} (hR2 : ∀ r0 r1 r2, R21 r0 r1 r2 → R22 r0 r1 r2) (hQ : ∀ r0 r1, Q1 r0 r1 → Q2 r0 r1) : v_4_isPlain_2b R21 Q1 x1 x2 u → pv_4_isPlain_2b R22 Q2 x1 x2 u := (rd_wp fun _ => (br_wp (zt_wp (hQ _ _)) (bd_wp (rd_wp fun _ => (br_wp (wp_v_4_isPlain_34 hR2 hQ) (wp_v_7_isConstant (fun _ _ => (br_wp (wp_v_4_isPlain_34 hR2 hQ) (zt_wp (hQ _ _))))))))))
def pv_4_isPlain_2 (Q : Int → iST → Prop) (x1 : Int) (x2 : Int) (u : iST) : Prop := ∃ R2 : Int → Int → iST → Prop, (∀ (x1 : Int) (x2 : Int) (u : iST), R2 x1 x2 u → pv_4_isPlain_2b R2 Q x1 x2 u) ∧ R2 x1 x2 u
theorem cj_v_4_isPlain_2 {Q1 Q2 Q3 : Int → iST → Prop}  {x1 : Int} {x2 : Int} {u : iST} (hQ : ∀ r0 r1, Q1 r0 r1 → Q2 r0 r1 → Q3 r0 r1) : v_4_isPlain_2 Q1 x1 x2 u → pv_4_isPlain_2 Q2 x1 x2 u → v_4_isPlain_2 Q3 x1 x2 u := by
  intro a b R3 c3
  obtain ⟨R2, c2, b2⟩ := b
  exact a (fun r0 r1 r2 => R2 r0 r1 r2 → R3 r0 r1 r2) (fun r0 r1 r2 a b => c3 r0 r1 r2 (cj_v_4_isPlain_2b (fun r0 r1 r2 a b => a b) hQ a (c2 r0 r1 r2 b))) b2
theorem pv_4_isPlain_2_i  {Q : Int → iST → Prop} {x1 : Int} {x2 : Int} {u : iST} (I : Int → Int → iST → Prop) (s : ∀ (x1 : Int) (x2 : Int) (u : iST), I x1 x2 u → pv_4_isPlain_2b I Q x1 x2 u) (h : I x1 x2 u) : pv_4_isPlain_2 Q x1 x2 u := ⟨I, s, h⟩
theorem mn_v_4_isPlain_2 {Q1 Q2 : Int → iST → Prop}  {x1 : Int} {x2 : Int} {u : iST} (hQ : ∀ r0 r1, Q1 r0 r1 → Q2 r0 r1) : pv_4_isPlain_2 Q1 x1 x2 u → pv_4_isPlain_2 Q2 x1 x2 u := fun ⟨R, s, h⟩ => ⟨R, fun r0 r1 r2 a => mn_v_4_isPlain_2b (fun r0 r1 r2 a => a) hQ (s r0 r1 r2 a), h⟩
theorem un_v_4_isPlain_2  {Q : Int → iST → Prop} {x1 : Int} {x2 : Int} {u : iST} : pv_4_isPlain_2 Q x1 x2 u → pv_4_isPlain_2b (fun x1 x2 u => pv_4_isPlain_2 Q x1 x2 u) Q x1 x2 u := fun ⟨R, s, h⟩ => mn_v_4_isPlain_2b (fun r0 r1 r2 a => ⟨R, s, a⟩) (fun _ _ h => h) (s _ _ _ h)
theorem fo_v_4_isPlain_2  {Q : Int → iST → Prop} {x1 : Int} {x2 : Int} {u : iST} : pv_4_isPlain_2b (fun x1 x2 u => pv_4_isPlain_2 Q x1 x2 u) Q x1 x2 u → pv_4_isPlain_2 Q x1 x2 u := fun h => ⟨fun x1 x2 u => pv_4_isPlain_2b (fun x1 x2 u => pv_4_isPlain_2 Q x1 x2 u) Q x1 x2 u, fun r0 r1 r2 a => mn_v_4_isPlain_2b (fun r0 r1 r2 a => un_v_4_isPlain_2 a) (fun _ _ h => h) a, h⟩
theorem wp_v_4_isPlain_2 {Q1 Q2 : Int → iST → Prop}  {x1 : Int} {x2 : Int} {u : iST} (hQ : ∀ r0 r1, Q1 r0 r1 → Q2 r0 r1) : v_4_isPlain_2 Q1 x1 x2 u → pv_4_isPlain_2 Q2 x1 x2 u := fun a => a (fun x1 x2 u => pv_4_isPlain_2 Q2 x1 x2 u) (fun x1 x2 u b => fo_v_4_isPlain_2 (wp_v_4_isPlain_2b (fun r0 r1 r2 a => a) hQ b))
def pv_4_isPlain (a0 : Int) (Q : Int → iST → Prop) (u : iST) : Prop :=
  pv_4_isPlain_2 Q a0 0 u
theorem cj_v_4_isPlain {Q1 Q2 Q3 : Int → iST → Prop}  {a0 : Int} {u : iST} (hQ : ∀ r0 r1, Q1 r0 r1 → Q2 r0 r1 → Q3 r0 r1) : v_4_isPlain a0 Q1 u → pv_4_isPlain a0 Q2 u → v_4_isPlain a0 Q3 u := (cj_v_4_isPlain_2  hQ)
theorem mn_v_4_isPlain {Q1 Q2 : Int → iST → Prop}  {a0 : Int} {u : iST} (hQ : ∀ r0 r1, Q1 r0 r1 → Q2 r0 r1) : pv_4_isPlain a0 Q1 u → pv_4_isPlain a0 Q2 u := (mn_v_4_isPlain_2  hQ)
theorem wp_v_4_isPlain {Q1 Q2 : Int → iST → Prop}  {a0 : Int} {u : iST} (hQ : ∀ r0 r1, Q1 r0 r1 → Q2 r0 r1) : v_4_isPlain a0 Q1 u → pv_4_isPlain a0 Q2 u := (wp_v_4_isPlain_2  hQ)
def pv_4_leave_32 (Q : iST → Prop) (u : iST) : Prop :=
  rd (u.1 14) (fun v2 => 
  ovp (v2 - 1) (
  sw (iI u 14 (v2 - 1)) (fun u => 
  Q u)))
theorem cj_v_4_leave_32 {Q1 Q2 Q3 : iST → Prop}  {u : iST} (hQ : ∀ r0, Q1 r0 → Q2 r0 → Q3 r0) : v_4_leave_32 Q1 u → pv_4_leave_32 Q2 u → v_4_leave_32 Q3 u := (rd_cj fun _ => (ov_cj (sw_cj fun _ => (hQ _))))
theorem mn_v_4_leave_32 {Q1 Q2 : iST → Prop}  {u : iST} (hQ : ∀ r0, Q1 r0 → Q2 r0) : pv_4_leave_32 Q1 u → pv_4_leave_32 Q2 u := (rd_mn fun _ => (ov_mn (sw_mn fun _ => (hQ _))))
theorem wp_v_4_leave_32 {Q1 Q2 : iST → Prop}  {u : iST} (hQ : ∀ r0, Q1 r0 → Q2 r0) : v_4_leave_32 Q1 u → pv_4_leave_32 Q2 u := (rd_wp fun _ => (ov_wp (sw_wp fun _ => (hQ _))))
def pv_4_leave (a0 : Int) (Q : iST → Prop) (u : iST) : Prop :=
  rd (u.1 15) (fun v1 => 
  br (20 ≤ v1) (
    pv_4_leave_32 Q u) (
    rd (u.1 15) (fun v4 => 
    bdp v4 20 (
    pv_1_copy (130 + v4) a0 (fun u => 
    rd (u.1 15) (fun v8 => 
    ovp (v8 + 1) (
    sw (iI u 15 (v8 + 1)) (fun u => 
    pv_4_leave_32 Q u)))) u))))
theorem cj_v_4_leave {Q1 Q2 Q3 : iST → Prop}  {a0 : Int} {u : iST} (hQ : ∀ r0, Q1 r0 → Q2 r0 → Q3 r0) : v_4_leave a0 Q1 u → pv_4_leave a0 Q2 u → v_4_leave a0 Q3 u := (rd_cj fun _ => (br_cj (cj_v_4_leave_32  hQ) (rd_cj fun _ => (bd_cj (cj_v_1_copy (fun _ => (rd_cj fun _ => (ov_cj (sw_cj fun _ => (cj_v_4_leave_32  hQ))))))))))
theorem mn_v_4_leave {Q1 Q2 : iST → Prop}  {a0 : Int} {u : iST} (hQ : ∀ r0, Q1 r0 → Q2 r0) : pv_4_leave a0 Q1 u → pv_4_leave a0 Q2 u := (rd_mn fun _ => (br_mn (mn_v_4_leave_32  hQ) (rd_mn fun _ => (bd_mn (mn_v_1_copy (fun _ => (rd_mn fun _ => (ov_mn (sw_mn fun _ => (mn_v_4_leave_32  hQ))))))))))
theorem wp_v_4_leave {Q1 Q2 : iST → Prop}  {a0 : Int} {u : iST} (hQ : ∀ r0, Q1 r0 → Q2 r0) : v_4_leave a0 Q1 u → pv_4_leave a0 Q2 u := (rd_wp fun _ => (br_wp (wp_v_4_leave_32  hQ) (rd_wp fun _ => (bd_wp (wp_v_1_copy (fun _ => (rd_wp fun _ => (ov_wp (sw_wp fun _ => (wp_v_4_leave_32  hQ))))))))))
def pv_4_rowOfOthers_5b (R5 : Int → Int → Int → Int → iST → Prop) (Q : Int → iST → Prop) (x1 : Int) (x2 : Int) (x3 : Int) (x4 : Int) (u : iST) : Prop :=
  rd (u.2.1 46 x1) (fun v1 => 
  br (v1 ≤ x4) (
    Q x3 u) (
    rd (u.1 32) (fun v2 => 
    br (v2 ≠ 0) (
      Q x3 u) (
      br (x4 = x2) (
        ovp (x4 + 1) (
        R5 x1 x2 x3 (x4 + 1) u)) (
        bdp x4 30 (rd (u.2.1 49 (30 * x1 + x4)) (fun v4 => 
        pv_10_negated v4 (fun v5 u => 
        pv_11_pairCell v5 x3 (fun v6 u => 
        pv_7_made v6 (fun v7 u => 
        ovp (x4 + 1) (
        R5 x1 x2 v7 (x4 + 1) u)) u) u) u)))))))
theorem cj_v_4_rowOfOthers_5b {Q1 Q2 Q3 : Int → iST → Prop} {R51 R52 R53 : Int → Int → Int → Int → iST → Prop} {x1 : Int} {x2 : Int} {x3 : Int} {x4 : Int} {u : iST} (hR5 : ∀ r0 r1 r2 r3 r4, R51 r0 r1 r2 r3 r4 → R52 r0 r1 r2 r3 r4 → R53 r0 r1 r2 r3 r4) (hQ : ∀ r0 r1, Q1 r0 r1 → Q2 r0 r1 → Q3 r0 r1) : v_4_rowOfOthers_5b R51 Q1 x1 x2 x3 x4 u → pv_4_rowOfOthers_5b R52 Q2 x1 x2 x3 x4 u → v_4_rowOfOthers_5b R53 Q3 x1 x2 x3 x4 u := (rd_cj fun _ => (br_cj (hQ _ _) (rd_cj fun _ => (br_cj (hQ _ _) (br_cj (ov_cj (hR5 _ _ _ _ _)) (bd_cj (rd_cj fun _ => (cj_v_10_negated (fun _ _ => (cj_v_11_pairCell (fun _ _ => (cj_v_7_made (fun _ _ => (ov_cj (hR5 _ _ _ _ _)))))))))))))))
theorem mn_v_4_rowOfOthers_5b {Q1 Q2 : Int → iST → Prop} {R51 R52 : Int → Int → Int → Int → iST → Prop} {x1 : Int} {x2 : Int} {x3 : Int} {x4 : Int} {u : iST} (hR5 : ∀ r0 r1 r2 r3 r4, R51 r0 r1 r2 r3 r4 → R52 r0 r1 r2 r3 r4) (hQ : ∀ r0 r1, Q1 r0 r1 → Q2 r0 r1) : pv_4_rowOfOthers_5b R51 Q1 x1 x2 x3 x4 u → pv_4_rowOfOthers_5b R52 Q2 x1 x2 x3 x4 u := (rd_mn fun _ => (br_mn (hQ _ _) (rd_mn fun _ => (br_mn (hQ _ _) (br_mn (ov_mn (hR5 _ _ _ _ _)) (bd_mn (rd_mn fun _ => (mn_v_10_negated (fun _ _ => (mn_v_11_pairCell (fun _ _ => (mn_v_7_made (fun _ _ => (ov_mn (hR5 _ _ _ _ _)))))))))))))))
theorem wp_v_4_rowOfOthers_5b {Q1 Q2 : Int → iST → Prop} {R51 R52 : Int → Int → Int → Int → iST → Prop} {x1 : Int} {x2 : Int} {x3 : Int} {x4 : Int} {u : iST} (hR5 : ∀ r0 r1 r2 r3 r4, R51 r0 r1 r2 r3 r4 → R52 r0 r1 r2 r3 r4) (hQ : ∀ r0 r1, Q1 r0 r1 → Q2 r0 r1) : v_4_rowOfOthers_5b R51 Q1 x1 x2 x3 x4 u → pv_4_rowOfOthers_5b R52 Q2 x1 x2 x3 x4 u := (rd_wp fun _ => (br_wp (hQ _ _) (rd_wp fun _ => (br_wp (hQ _ _) (br_wp (ov_wp (hR5 _ _ _ _ _)) (bd_wp (rd_wp fun _ => (wp_v_10_negated (fun _ _ => (wp_v_11_pairCell (fun _ _ => (wp_v_7_made (fun _ _ => (ov_wp (hR5 _ _ _ _ _)))))))))))))))
def pv_4_rowOfOthers_5 (Q : Int → iST → Prop) (x1 : Int) (x2 : Int) (x3 : Int) (x4 : Int) (u : iST) : Prop := ∃ R5 : Int → Int → Int → Int → iST → Prop, (∀ (x1 : Int) (x2 : Int) (x3 : Int) (x4 : Int) (u : iST), R5 x1 x2 x3 x4 u → pv_4_rowOfOthers_5b R5 Q x1 x2 x3 x4 u) ∧ R5 x1 x2 x3 x4 u
theorem cj_v_4_rowOfOthers_5 {Q1 Q2 Q3 : Int → iST → Prop}  {x1 : Int} {x2 : Int} {x3 : Int} {x4 : Int} {u : iST} (hQ : ∀ r0 r1, Q1 r0 r1 → Q2 r0 r1 → Q3 r0 r1) : v_4_rowOfOthers_5 Q1 x1 x2 x3 x4 u → pv_4_rowOfOthers_5 Q2 x1 x2 x3 x4 u → v_4_rowOfOthers_5 Q3 x1 x2 x3 x4 u := by
  intro a b R3 c3
  obtain ⟨R2, c2, b2⟩ := b
  exact a (fun r0 r1 r2 r3 r4 => R2 r0 r1 r2 r3 r4 → R3 r0 r1 r2 r3 r4) (fun r0 r1 r2 r3 r4 a b => c3 r0 r1 r2 r3 r4 (cj_v_4_rowOfOthers_5b (fun r0 r1 r2 r3 r4 a b => a b) hQ a (c2 r0 r1 r2 r3 r4 b))) b2
theorem pv_4_rowOfOthers_5_i  {Q : Int → iST → Prop} {x1 : Int} {x2 : Int} {x3 : Int} {x4 : Int} {u : iST} (I : Int → Int → Int → Int → iST → Prop) (s : ∀ (x1 : Int) (x2 : Int) (x3 : Int) (x4 : Int) (u : iST), I x1 x2 x3 x4 u → pv_4_rowOfOthers_5b I Q x1 x2 x3 x4 u) (h : I x1 x2 x3 x4 u) : pv_4_rowOfOthers_5 Q x1 x2 x3 x4 u := ⟨I, s, h⟩
theorem mn_v_4_rowOfOthers_5 {Q1 Q2 : Int → iST → Prop}  {x1 : Int} {x2 : Int} {x3 : Int} {x4 : Int} {u : iST} (hQ : ∀ r0 r1, Q1 r0 r1 → Q2 r0 r1) : pv_4_rowOfOthers_5 Q1 x1 x2 x3 x4 u → pv_4_rowOfOthers_5 Q2 x1 x2 x3 x4 u := fun ⟨R, s, h⟩ => ⟨R, fun r0 r1 r2 r3 r4 a => mn_v_4_rowOfOthers_5b (fun r0 r1 r2 r3 r4 a => a) hQ (s r0 r1 r2 r3 r4 a), h⟩
theorem un_v_4_rowOfOthers_5  {Q : Int → iST → Prop} {x1 : Int} {x2 : Int} {x3 : Int} {x4 : Int} {u : iST} : pv_4_rowOfOthers_5 Q x1 x2 x3 x4 u → pv_4_rowOfOthers_5b (fun x1 x2 x3 x4 u => pv_4_rowOfOthers_5 Q x1 x2 x3 x4 u) Q x1 x2 x3 x4 u := fun ⟨R, s, h⟩ => mn_v_4_rowOfOthers_5b (fun r0 r1 r2 r3 r4 a => ⟨R, s, a⟩) (fun _ _ h => h) (s _ _ _ _ _ h)
theorem fo_v_4_rowOfOthers_5  {Q : Int → iST → Prop} {x1 : Int} {x2 : Int} {x3 : Int} {x4 : Int} {u : iST} : pv_4_rowOfOthers_5b (fun x1 x2 x3 x4 u => pv_4_rowOfOthers_5 Q x1 x2 x3 x4 u) Q x1 x2 x3 x4 u → pv_4_rowOfOthers_5 Q x1 x2 x3 x4 u := fun h => ⟨fun x1 x2 x3 x4 u => pv_4_rowOfOthers_5b (fun x1 x2 x3 x4 u => pv_4_rowOfOthers_5 Q x1 x2 x3 x4 u) Q x1 x2 x3 x4 u, fun r0 r1 r2 r3 r4 a => mn_v_4_rowOfOthers_5b (fun r0 r1 r2 r3 r4 a => un_v_4_rowOfOthers_5 a) (fun _ _ h => h) a, h⟩
theorem wp_v_4_rowOfOthers_5 {Q1 Q2 : Int → iST → Prop}  {x1 : Int} {x2 : Int} {x3 : Int} {x4 : Int} {u : iST} (hQ : ∀ r0 r1, Q1 r0 r1 → Q2 r0 r1) : v_4_rowOfOthers_5 Q1 x1 x2 x3 x4 u → pv_4_rowOfOthers_5 Q2 x1 x2 x3 x4 u := fun a => a (fun x1 x2 x3 x4 u => pv_4_rowOfOthers_5 Q2 x1 x2 x3 x4 u) (fun x1 x2 x3 x4 u b => fo_v_4_rowOfOthers_5 (wp_v_4_rowOfOthers_5b (fun r0 r1 r2 r3 r4 a => a) hQ b))
def pv_4_rowOfOthers (a0 : Int) (a1 : Int) (Q : Int → iST → Prop) (u : iST) : Prop :=
  pv_4_rowOfOthers_5 Q a0 a1 0 0 u
theorem cj_v_4_rowOfOthers {Q1 Q2 Q3 : Int → iST → Prop}  {a0 : Int} {a1 : Int} {u : iST} (hQ : ∀ r0 r1, Q1 r0 r1 → Q2 r0 r1 → Q3 r0 r1) : v_4_rowOfOthers a0 a1 Q1 u → pv_4_rowOfOthers a0 a1 Q2 u → v_4_rowOfOthers a0 a1 Q3 u := (cj_v_4_rowOfOthers_5  hQ)
theorem mn_v_4_rowOfOthers {Q1 Q2 : Int → iST → Prop}  {a0 : Int} {a1 : Int} {u : iST} (hQ : ∀ r0 r1, Q1 r0 r1 → Q2 r0 r1) : pv_4_rowOfOthers a0 a1 Q1 u → pv_4_rowOfOthers a0 a1 Q2 u := (mn_v_4_rowOfOthers_5  hQ)
theorem wp_v_4_rowOfOthers {Q1 Q2 : Int → iST → Prop}  {a0 : Int} {a1 : Int} {u : iST} (hQ : ∀ r0 r1, Q1 r0 r1 → Q2 r0 r1) : v_4_rowOfOthers a0 a1 Q1 u → pv_4_rowOfOthers a0 a1 Q2 u := (wp_v_4_rowOfOthers_5  hQ)
def pv_6_recalled (a0 : Int) (a1 : Int) (a2 : Int) (Q : Int → iST → Prop) (u : iST) : Prop :=
  rd (u.1 28) (fun v1 => 
  br (v1 < 0) (
    Q (-1) u) (
    rd (u.1 28) (fun v2 => 
    rd (u.1 26) (fun v3 => 
    br (v2 < v3) (
      rd (u.1 28) (fun v4 => 
      bdp v4 1000 (
      bdp 0 5 (rd (u.2.1 52 (5 * v4 + 0)) (fun v7 => 
      br (v7 ≠ a0) (
        Q (-1) u) (
        bdp 1 5 (rd (u.2.1 52 (5 * v4 + 1)) (fun v8 => 
        br (v8 ≠ a1) (
          Q (-1) u) (
          bdp 2 5 (rd (u.2.1 52 (5 * v4 + 2)) (fun v9 => 
          br (v9 = a2) (
            bdp 4 5 (rd (u.2.1 52 (5 * v4 + 4)) (fun v10 => 
            sw (iI u 28 v10) (fun u => 
            bdp 3 5 (rd (u.2.1 52 (5 * v4 + 3)) (fun v11 => 
            Q v11 u)))))) (
            Q (-1) u)))))))))))) (
      Q (-1) u)))))
theorem cj_v_6_recalled {Q1 Q2 Q3 : Int → iST → Prop}  {a0 : Int} {a1 : Int} {a2 : Int} {u : iST} (hQ : ∀ r0 r1, Q1 r0 r1 → Q2 r0 r1 → Q3 r0 r1) : v_6_recalled a0 a1 a2 Q1 u → pv_6_recalled a0 a1 a2 Q2 u → v_6_recalled a0 a1 a2 Q3 u := (rd_cj fun _ => (br_cj (hQ _ _) (rd_cj fun _ => (rd_cj fun _ => (br_cj (rd_cj fun _ => (bd_cj (bd_cj (rd_cj fun _ => (br_cj (hQ _ _) (bd_cj (rd_cj fun _ => (br_cj (hQ _ _) (bd_cj (rd_cj fun _ => (br_cj (bd_cj (rd_cj fun _ => (sw_cj fun _ => (bd_cj (rd_cj fun _ => (hQ _ _)))))) (hQ _ _)))))))))))) (hQ _ _))))))
theorem mn_v_6_recalled {Q1 Q2 : Int → iST → Prop}  {a0 : Int} {a1 : Int} {a2 : Int} {u : iST} (hQ : ∀ r0 r1, Q1 r0 r1 → Q2 r0 r1) : pv_6_recalled a0 a1 a2 Q1 u → pv_6_recalled a0 a1 a2 Q2 u := (rd_mn fun _ => (br_mn (hQ _ _) (rd_mn fun _ => (rd_mn fun _ => (br_mn (rd_mn fun _ => (bd_mn (bd_mn (rd_mn fun _ => (br_mn (hQ _ _) (bd_mn (rd_mn fun _ => (br_mn (hQ _ _) (bd_mn (rd_mn fun _ => (br_mn (bd_mn (rd_mn fun _ => (sw_mn fun _ => (bd_mn (rd_mn fun _ => (hQ _ _)))))) (hQ _ _)))))))))))) (hQ _ _))))))
theorem wp_v_6_recalled {Q1 Q2 : Int → iST → Prop}  {a0 : Int} {a1 : Int} {a2 : Int} {u : iST} (hQ : ∀ r0 r1, Q1 r0 r1 → Q2 r0 r1) : v_6_recalled a0 a1 a2 Q1 u → pv_6_recalled a0 a1 a2 Q2 u := (rd_wp fun _ => (br_wp (hQ _ _) (rd_wp fun _ => (rd_wp fun _ => (br_wp (rd_wp fun _ => (bd_wp (bd_wp (rd_wp fun _ => (br_wp (hQ _ _) (bd_wp (rd_wp fun _ => (br_wp (hQ _ _) (bd_wp (rd_wp fun _ => (br_wp (bd_wp (rd_wp fun _ => (sw_wp fun _ => (bd_wp (rd_wp fun _ => (hQ _ _)))))) (hQ _ _)))))))))))) (hQ _ _))))))
def pv_6_ask_81 (Q : iST → Prop) (x1 : Int) (x2 : Int) (x3 : Int) (u : iST) : Prop :=
  rd (u.1 23) (fun v4 => 
  bdp v4 60 (
  bdp 0 17 (sw (iA u 51 (17 * v4 + 0) x1) (fun u => 
  bdp 1 17 (sw (iA u 51 (17 * v4 + 1) x2) (fun u => 
  bdp 2 17 (sw (iA u 51 (17 * v4 + 2) x3) (fun u => 
  bdp 3 17 (sw (iA u 51 (17 * v4 + 3) 0) (fun u => 
  rd (u.1 26) (fun v7 => 
  bdp 4 17 (sw (iA u 51 (17 * v4 + 4) v7) (fun u => 
  rd (u.1 23) (fun v8 => 
  ovp (v8 + 1) (
  sw (iI u 23 (v8 + 1)) (fun u => 
  rz (u.1 27) (fun v10 => 
  br (v10 ≠ 0) (
    Q u) (
    rd (u.1 26) (fun v11 => 
    br (1000 ≤ v11) (
      Q u) (
      rd (u.1 26) (fun v12 => 
      bdp v12 1000 (
      sw (iCp u 52 51 (5 * v12) (17 * v4) 3) (fun u => 
      rd (u.1 26) (fun v15 => 
      ovp (v15 + 1) (
      sw (iI u 26 (v15 + 1)) (fun u => 
      Q u))))))))))))))))))))))))))
theorem cj_v_6_ask_81 {Q1 Q2 Q3 : iST → Prop}  {x1 : Int} {x2 : Int} {x3 : Int} {u : iST} (hQ : ∀ r0, Q1 r0 → Q2 r0 → Q3 r0) : v_6_ask_81 Q1 x1 x2 x3 u → pv_6_ask_81 Q2 x1 x2 x3 u → v_6_ask_81 Q3 x1 x2 x3 u := (rd_cj fun _ => (bd_cj (bd_cj (sw_cj fun _ => (bd_cj (sw_cj fun _ => (bd_cj (sw_cj fun _ => (bd_cj (sw_cj fun _ => (rd_cj fun _ => (bd_cj (sw_cj fun _ => (rd_cj fun _ => (ov_cj (sw_cj fun _ => (rz_cj fun _ => (br_cj (hQ _) (rd_cj fun _ => (br_cj (hQ _) (rd_cj fun _ => (bd_cj (sw_cj fun _ => (rd_cj fun _ => (ov_cj (sw_cj fun _ => (hQ _)))))))))))))))))))))))))))
theorem mn_v_6_ask_81 {Q1 Q2 : iST → Prop}  {x1 : Int} {x2 : Int} {x3 : Int} {u : iST} (hQ : ∀ r0, Q1 r0 → Q2 r0) : pv_6_ask_81 Q1 x1 x2 x3 u → pv_6_ask_81 Q2 x1 x2 x3 u := (rd_mn fun _ => (bd_mn (bd_mn (sw_mn fun _ => (bd_mn (sw_mn fun _ => (bd_mn (sw_mn fun _ => (bd_mn (sw_mn fun _ => (rd_mn fun _ => (bd_mn (sw_mn fun _ => (rd_mn fun _ => (ov_mn (sw_mn fun _ => (rz_mn fun _ => (br_mn (hQ _) (rd_mn fun _ => (br_mn (hQ _) (rd_mn fun _ => (bd_mn (sw_mn fun _ => (rd_mn fun _ => (ov_mn (sw_mn fun _ => (hQ _)))))))))))))))))))))))))))
theorem wp_v_6_ask_81 {Q1 Q2 : iST → Prop}  {x1 : Int} {x2 : Int} {x3 : Int} {u : iST} (hQ : ∀ r0, Q1 r0 → Q2 r0) : v_6_ask_81 Q1 x1 x2 x3 u → pv_6_ask_81 Q2 x1 x2 x3 u := (rd_wp fun _ => (bd_wp (bd_wp (sw_wp fun _ => (bd_wp (sw_wp fun _ => (bd_wp (sw_wp fun _ => (bd_wp (sw_wp fun _ => (rd_wp fun _ => (bd_wp (sw_wp fun _ => (rd_wp fun _ => (ov_wp (sw_wp fun _ => (rz_wp fun _ => (br_wp (hQ _) (rd_wp fun _ => (br_wp (hQ _) (rd_wp fun _ => (bd_wp (sw_wp fun _ => (rd_wp fun _ => (ov_wp (sw_wp fun _ => (hQ _)))))))))))))))))))))))))))
def pv_6_ask_44 (Q : iST → Prop) (x1 : Int) (x2 : Int) (x3 : Int) (u : iST) : Prop :=
  rd (u.1 23) (fun v2 => 
  br (v2 < 60) (
    rz (u.1 27) (fun v3 => 
    br (v3 ≠ 0) (
      pv_6_ask_81 Q x1 x2 x3 u) (
      pv_7_step (fun v17 u => 
      br (v17 = 0) (
        Q u) (
        pv_6_ask_81 Q x1 x2 x3 u)) u))) (
    pv_7_blame 2 (fun u => 
    Q u) u))
theorem cj_v_6_ask_44 {Q1 Q2 Q3 : iST → Prop}  {x1 : Int} {x2 : Int} {x3 : Int} {u : iST} (hQ : ∀ r0, Q1 r0 → Q2 r0 → Q3 r0) : v_6_ask_44 Q1 x1 x2 x3 u → pv_6_ask_44 Q2 x1 x2 x3 u → v_6_ask_44 Q3 x1 x2 x3 u := (rd_cj fun _ => (br_cj (rz_cj fun _ => (br_cj (cj_v_6_ask_81  hQ) (cj_v_7_step (fun _ _ => (br_cj (hQ _) (cj_v_6_ask_81  hQ)))))) (cj_v_7_blame (fun _ => (hQ _)))))
theorem mn_v_6_ask_44 {Q1 Q2 : iST → Prop}  {x1 : Int} {x2 : Int} {x3 : Int} {u : iST} (hQ : ∀ r0, Q1 r0 → Q2 r0) : pv_6_ask_44 Q1 x1 x2 x3 u → pv_6_ask_44 Q2 x1 x2 x3 u := (rd_mn fun _ => (br_mn (rz_mn fun _ => (br_mn (mn_v_6_ask_81  hQ) (mn_v_7_step (fun _ _ => (br_mn (hQ _) (mn_v_6_ask_81  hQ)))))) (mn_v_7_blame (fun _ => (hQ _)))))
theorem wp_v_6_ask_44 {Q1 Q2 : iST → Prop}  {x1 : Int} {x2 : Int} {x3 : Int} {u : iST} (hQ : ∀ r0, Q1 r0 → Q2 r0) : v_6_ask_44 Q1 x1 x2 x3 u → pv_6_ask_44 Q2 x1 x2 x3 u := (rd_wp fun _ => (br_wp (rz_wp fun _ => (br_wp (wp_v_6_ask_81  hQ) (wp_v_7_step (fun _ _ => (br_wp (hQ _) (wp_v_6_ask_81  hQ)))))) (wp_v_7_blame (fun _ => (hQ _)))))
def pv_6_ask (a0 : Int) (a1 : Int) (a2 : Int) (Q : iST → Prop) (u : iST) : Prop :=
  rz (u.1 27) (fun v1 => 
  br (v1 = 0) (
    pv_6_ask_44 Q a0 a1 a2 u) (
    rd (u.1 23) (fun v19 => 
    br (v19 ≤ 0) (
      pv_6_ask_44 Q a0 a1 a2 u) (
      pv_6_recalled a0 a1 a2 (fun v20 u => 
      sw (iI u 24 v20) (fun u => 
      rd (u.1 24) (fun v21 => 
      br (v21 ≠ (-1)) (
        Q u) (
        pv_7_blame 4 (fun u => 
        Q u) u)))) u))))
theorem cj_v_6_ask {Q1 Q2 Q3 : iST → Prop}  {a0 : Int} {a1 : Int} {a2 : Int} {u : iST} (hQ : ∀ r0, Q1 r0 → Q2 r0 → Q3 r0) : v_6_ask a0 a1 a2 Q1 u → pv_6_ask a0 a1 a2 Q2 u → v_6_ask a0 a1 a2 Q3 u := (rz_cj fun _ => (br_cj (cj_v_6_ask_44  hQ) (rd_cj fun _ => (br_cj (cj_v_6_ask_44  hQ) (cj_v_6_recalled (fun _ _ => (sw_cj fun _ => (rd_cj fun _ => (br_cj (hQ _) (cj_v_7_blame (fun _ => (hQ _))))))))))))
theorem mn_v_6_ask {Q1 Q2 : iST → Prop}  {a0 : Int} {a1 : Int} {a2 : Int} {u : iST} (hQ : ∀ r0, Q1 r0 → Q2 r0) : pv_6_ask a0 a1 a2 Q1 u → pv_6_ask a0 a1 a2 Q2 u := (rz_mn fun _ => (br_mn (mn_v_6_ask_44  hQ) (rd_mn fun _ => (br_mn (mn_v_6_ask_44  hQ) (mn_v_6_recalled (fun _ _ => (sw_mn fun _ => (rd_mn fun _ => (br_mn (hQ _) (mn_v_7_blame (fun _ => (hQ _))))))))))))
theorem wp_v_6_ask {Q1 Q2 : iST → Prop}  {a0 : Int} {a1 : Int} {a2 : Int} {u : iST} (hQ : ∀ r0, Q1 r0 → Q2 r0) : v_6_ask a0 a1 a2 Q1 u → pv_6_ask a0 a1 a2 Q2 u := (rz_wp fun _ => (br_wp (wp_v_6_ask_44  hQ) (rd_wp fun _ => (br_wp (wp_v_6_ask_44  hQ) (wp_v_6_recalled (fun _ _ => (sw_wp fun _ => (rd_wp fun _ => (br_wp (hQ _) (wp_v_7_blame (fun _ => (hQ _))))))))))))
def pv_6_finish_58 (Q : iST → Prop) (x2 : Int) (y1 : Int) (u : iST) : Prop :=
  sw (iI u 24 y1) (fun u => 
  rz (u.1 27) (fun v7 => 
  br (v7 ≠ 0) (
    Q u) (
    bdp 4 17 (rd (u.2.1 51 (17 * x2 + 4)) (fun v8 => 
    br (1000 ≤ v8) (
      Q u) (
      bdp 4 17 (rd (u.2.1 51 (17 * x2 + 4)) (fun v9 => 
      bdp v9 1000 (
      rd (u.1 24) (fun v12 => 
      bdp 3 5 (sw (iA u 52 (5 * v9 + 3) v12) (fun u => 
      bdp 4 17 (rd (u.2.1 51 (17 * x2 + 4)) (fun v13 => 
      bdp v13 1000 (
      rd (u.1 26) (fun v16 => 
      bdp 4 5 (sw (iA u 52 (5 * v13 + 4) v16) (fun u => 
      Q u))))))))))))))))))
theorem cj_v_6_finish_58 {Q1 Q2 Q3 : iST → Prop}  {x2 : Int} {y1 : Int} {u : iST} (hQ : ∀ r0, Q1 r0 → Q2 r0 → Q3 r0) : v_6_finish_58 Q1 x2 y1 u → pv_6_finish_58 Q2 x2 y1 u → v_6_finish_58 Q3 x2 y1 u := (sw_cj fun _ => (rz_cj fun _ => (br_cj (hQ _) (bd_cj (rd_cj fun _ => (br_cj (hQ _) (bd_cj (rd_cj fun _ => (bd_cj (rd_cj fun _ => (bd_cj (sw_cj fun _ => (bd_cj (rd_cj fun _ => (bd_cj (rd_cj fun _ => (bd_cj (sw_cj fun _ => (hQ _)))))))))))))))))))
theorem mn_v_6_finish_58 {Q1 Q2 : iST → Prop}  {x2 : Int} {y1 : Int} {u : iST} (hQ : ∀ r0, Q1 r0 → Q2 r0) : pv_6_finish_58 Q1 x2 y1 u → pv_6_finish_58 Q2 x2 y1 u := (sw_mn fun _ => (rz_mn fun _ => (br_mn (hQ _) (bd_mn (rd_mn fun _ => (br_mn (hQ _) (bd_mn (rd_mn fun _ => (bd_mn (rd_mn fun _ => (bd_mn (sw_mn fun _ => (bd_mn (rd_mn fun _ => (bd_mn (rd_mn fun _ => (bd_mn (sw_mn fun _ => (hQ _)))))))))))))))))))
theorem wp_v_6_finish_58 {Q1 Q2 : iST → Prop}  {x2 : Int} {y1 : Int} {u : iST} (hQ : ∀ r0, Q1 r0 → Q2 r0) : v_6_finish_58 Q1 x2 y1 u → pv_6_finish_58 Q2 x2 y1 u := (sw_wp fun _ => (rz_wp fun _ => (br_wp (hQ _) (bd_wp (rd_wp fun _ => (br_wp (hQ _) (bd_wp (rd_wp fun _ => (bd_wp (rd_wp fun _ => (bd_wp (sw_wp fun _ => (bd_wp (rd_wp fun _ => (bd_wp (rd_wp fun _ => (bd_wp (sw_wp fun _ => (hQ _)))))))))))))))))))
def pv_6_finish_47 (Q : iST → Prop) (x1 : Int) (x2 : Int) (y0 : Int) (u : iST) : Prop :=
  br (y0 = 0) (
    pv_6_finish_58 Q x2 x1 u) (
    pv_6_finish_58 Q x2 1 u)
theorem cj_v_6_finish_47 {Q1 Q2 Q3 : iST → Prop}  {x1 : Int} {x2 : Int} {y0 : Int} {u : iST} (hQ : ∀ r0, Q1 r0 → Q2 r0 → Q3 r0) : v_6_finish_47 Q1 x1 x2 y0 u → pv_6_finish_47 Q2 x1 x2 y0 u → v_6_finish_47 Q3 x1 x2 y0 u := (br_cj (cj_v_6_finish_58  hQ) (cj_v_6_finish_58  hQ))
theorem mn_v_6_finish_47 {Q1 Q2 : iST → Prop}  {x1 : Int} {x2 : Int} {y0 : Int} {u : iST} (hQ : ∀ r0, Q1 r0 → Q2 r0) : pv_6_finish_47 Q1 x1 x2 y0 u → pv_6_finish_47 Q2 x1 x2 y0 u := (br_mn (mn_v_6_finish_58  hQ) (mn_v_6_finish_58  hQ))
theorem wp_v_6_finish_47 {Q1 Q2 : iST → Prop}  {x1 : Int} {x2 : Int} {y0 : Int} {u : iST} (hQ : ∀ r0, Q1 r0 → Q2 r0) : v_6_finish_47 Q1 x1 x2 y0 u → pv_6_finish_47 Q2 x1 x2 y0 u := (br_wp (wp_v_6_finish_58  hQ) (wp_v_6_finish_58  hQ))
def pv_6_finish_46 (Q : iST → Prop) (x1 : Int) (x2 : Int) (u : iST) : Prop :=
  pv_6_finish_47 Q x1 x2 0 u
theorem cj_v_6_finish_46 {Q1 Q2 Q3 : iST → Prop}  {x1 : Int} {x2 : Int} {u : iST} (hQ : ∀ r0, Q1 r0 → Q2 r0 → Q3 r0) : v_6_finish_46 Q1 x1 x2 u → pv_6_finish_46 Q2 x1 x2 u → v_6_finish_46 Q3 x1 x2 u := (cj_v_6_finish_47  hQ)
theorem mn_v_6_finish_46 {Q1 Q2 : iST → Prop}  {x1 : Int} {x2 : Int} {u : iST} (hQ : ∀ r0, Q1 r0 → Q2 r0) : pv_6_finish_46 Q1 x1 x2 u → pv_6_finish_46 Q2 x1 x2 u := (mn_v_6_finish_47  hQ)
theorem wp_v_6_finish_46 {Q1 Q2 : iST → Prop}  {x1 : Int} {x2 : Int} {u : iST} (hQ : ∀ r0, Q1 r0 → Q2 r0) : v_6_finish_46 Q1 x1 x2 u → pv_6_finish_46 Q2 x1 x2 u := (wp_v_6_finish_47  hQ)
def pv_6_finish (a0 : Int) (Q : iST → Prop) (u : iST) : Prop :=
  rd (u.1 23) (fun v1 => 
  ovp (v1 - 1) (
  sw (iI u 23 (v1 - 1)) (fun u => 
  rd (u.1 23) (fun v3 => 
  bdp v3 60 (
  bdp 1 17 (rd (u.2.1 51 (17 * v3 + 1)) (fun v6 => 
  br (v6 ≠ 1) (
    pv_6_finish_46 Q a0 v3 u) (
    pv_7_isConstant a0 (fun v17 u => 
    br (v17 = 0) (
      pv_6_finish_46 Q a0 v3 u) (
      br (a0 = 0) (
        pv_6_finish_46 Q a0 v3 u) (
        pv_6_finish_47 Q a0 v3 1 u))) u))))))))
theorem cj_v_6_finish {Q1 Q2 Q3 : iST → Prop}  {a0 : Int} {u : iST} (hQ : ∀ r0, Q1 r0 → Q2 r0 → Q3 r0) : v_6_finish a0 Q1 u → pv_6_finish a0 Q2 u → v_6_finish a0 Q3 u := (rd_cj fun _ => (ov_cj (sw_cj fun _ => (rd_cj fun _ => (bd_cj (bd_cj (rd_cj fun _ => (br_cj (cj_v_6_finish_46  hQ) (cj_v_7_isConstant (fun _ _ => (br_cj (cj_v_6_finish_46  hQ) (br_cj (cj_v_6_finish_46  hQ) (cj_v_6_finish_47  hQ)))))))))))))
theorem mn_v_6_finish {Q1 Q2 : iST → Prop}  {a0 : Int} {u : iST} (hQ : ∀ r0, Q1 r0 → Q2 r0) : pv_6_finish a0 Q1 u → pv_6_finish a0 Q2 u := (rd_mn fun _ => (ov_mn (sw_mn fun _ => (rd_mn fun _ => (bd_mn (bd_mn (rd_mn fun _ => (br_mn (mn_v_6_finish_46  hQ) (mn_v_7_isConstant (fun _ _ => (br_mn (mn_v_6_finish_46  hQ) (br_mn (mn_v_6_finish_46  hQ) (mn_v_6_finish_47  hQ)))))))))))))
theorem wp_v_6_finish {Q1 Q2 : iST → Prop}  {a0 : Int} {u : iST} (hQ : ∀ r0, Q1 r0 → Q2 r0) : v_6_finish a0 Q1 u → pv_6_finish a0 Q2 u := (rd_wp fun _ => (ov_wp (sw_wp fun _ => (rd_wp fun _ => (bd_wp (bd_wp (rd_wp fun _ => (br_wp (wp_v_6_finish_46  hQ) (wp_v_7_isConstant (fun _ _ => (br_wp (wp_v_6_finish_46  hQ) (br_wp (wp_v_6_finish_46  hQ) (wp_v_6_finish_47  hQ)))))))))))))
def pv_10_isBoolean_23 (Q : Int → iST → Prop) (x1 : Int) (y0 : Int) (u : iST) : Prop :=
  br (y0 = 4) (
    ztp 1 (Q 1 u)) (
  br (y0 = 5) (
    br (x1 = 0) (
      ztp 1 (Q 1 u)) (
      br (x1 ≠ 1) (
        ztp 0 (Q 0 u)) (
        ztp 1 (Q 1 u)))) (
  br (y0 = 6) (
    ztp 1 (Q 1 u)) (
  br (y0 = 7) (
    br (x1 = 0) (
      ztp 1 (Q 1 u)) (
      br (x1 ≠ 1) (
        ztp 0 (Q 0 u)) (
        ztp 1 (Q 1 u)))) (
  br (y0 = 8) (
    br (x1 = 0) (
      ztp 1 (Q 1 u)) (
      br (x1 ≠ 1) (
        ztp 0 (Q 0 u)) (
        ztp 1 (Q 1 u)))) (
  br (y0 = 9) (
    ztp 1 (Q 1 u)) (
  br (y0 = 10) (
    ztp 1 (Q 1 u)) (
  br (y0 = 11) (
    br (x1 = 0) (
      ztp 1 (Q 1 u)) (
      br (x1 ≠ 1) (
        ztp 0 (Q 0 u)) (
        ztp 1 (Q 1 u)))) (
  br (y0 = 12) (
    br (x1 = 0) (
      ztp 1 (Q 1 u)) (
      br (x1 ≠ 1) (
        ztp 0 (Q 0 u)) (
        ztp 1 (Q 1 u)))) (
  br (y0 = 13) (
    ztp 1 (Q 1 u)) (
  br (y0 = 14) (
    ztp 1 (Q 1 u)) (
  br (y0 = 15) (
    br (x1 = 0) (
      ztp 1 (Q 1 u)) (
      br (x1 ≠ 1) (
        ztp 0 (Q 0 u)) (
        ztp 1 (Q 1 u)))) (
  br (y0 = 16) (
    ztp 1 (Q 1 u)) (
  br (x1 = 0) (
    ztp 1 (Q 1 u)) (
    br (x1 ≠ 1) (
      ztp 0 (Q 0 u)) (
      ztp 1 (Q 1 u))))))))))))))))
theorem cj_v_10_isBoolean_23 {Q1 Q2 Q3 : Int → iST → Prop}  {x1 : Int} {y0 : Int} {u : iST} (hQ : ∀ r0 r1, Q1 r0 r1 → Q2 r0 r1 → Q3 r0 r1) : v_10_isBoolean_23 Q1 x1 y0 u → pv_10_isBoolean_23 Q2 x1 y0 u → v_10_isBoolean_23 Q3 x1 y0 u := (br_cj (zt_cj (hQ _ _)) (br_cj (br_cj (zt_cj (hQ _ _)) (br_cj (zt_cj (hQ _ _)) (zt_cj (hQ _ _)))) (br_cj (zt_cj (hQ _ _)) (br_cj (br_cj (zt_cj (hQ _ _)) (br_cj (zt_cj (hQ _ _)) (zt_cj (hQ _ _)))) (br_cj (br_cj (zt_cj (hQ _ _)) (br_cj (zt_cj (hQ _ _)) (zt_cj (hQ _ _)))) (br_cj (zt_cj (hQ _ _)) (br_cj (zt_cj (hQ _ _)) (br_cj (br_cj (zt_cj (hQ _ _)) (br_cj (zt_cj (hQ _ _)) (zt_cj (hQ _ _)))) (br_cj (br_cj (zt_cj (hQ _ _)) (br_cj (zt_cj (hQ _ _)) (zt_cj (hQ _ _)))) (br_cj (zt_cj (hQ _ _)) (br_cj (zt_cj (hQ _ _)) (br_cj (br_cj (zt_cj (hQ _ _)) (br_cj (zt_cj (hQ _ _)) (zt_cj (hQ _ _)))) (br_cj (zt_cj (hQ _ _)) (br_cj (zt_cj (hQ _ _)) (br_cj (zt_cj (hQ _ _)) (zt_cj (hQ _ _)))))))))))))))))
theorem mn_v_10_isBoolean_23 {Q1 Q2 : Int → iST → Prop}  {x1 : Int} {y0 : Int} {u : iST} (hQ : ∀ r0 r1, Q1 r0 r1 → Q2 r0 r1) : pv_10_isBoolean_23 Q1 x1 y0 u → pv_10_isBoolean_23 Q2 x1 y0 u := (br_mn (zt_mn (hQ _ _)) (br_mn (br_mn (zt_mn (hQ _ _)) (br_mn (zt_mn (hQ _ _)) (zt_mn (hQ _ _)))) (br_mn (zt_mn (hQ _ _)) (br_mn (br_mn (zt_mn (hQ _ _)) (br_mn (zt_mn (hQ _ _)) (zt_mn (hQ _ _)))) (br_mn (br_mn (zt_mn (hQ _ _)) (br_mn (zt_mn (hQ _ _)) (zt_mn (hQ _ _)))) (br_mn (zt_mn (hQ _ _)) (br_mn (zt_mn (hQ _ _)) (br_mn (br_mn (zt_mn (hQ _ _)) (br_mn (zt_mn (hQ _ _)) (zt_mn (hQ _ _)))) (br_mn (br_mn (zt_mn (hQ _ _)) (br_mn (zt_mn (hQ _ _)) (zt_mn (hQ _ _)))) (br_mn (zt_mn (hQ _ _)) (br_mn (zt_mn (hQ _ _)) (br_mn (br_mn (zt_mn (hQ _ _)) (br_mn (zt_mn (hQ _ _)) (zt_mn (hQ _ _)))) (br_mn (zt_mn (hQ _ _)) (br_mn (zt_mn (hQ _ _)) (br_mn (zt_mn (hQ _ _)) (zt_mn (hQ _ _)))))))))))))))))
theorem wp_v_10_isBoolean_23 {Q1 Q2 : Int → iST → Prop}  {x1 : Int} {y0 : Int} {u : iST} (hQ : ∀ r0 r1, Q1 r0 r1 → Q2 r0 r1) : v_10_isBoolean_23 Q1 x1 y0 u → pv_10_isBoolean_23 Q2 x1 y0 u := (br_wp (zt_wp (hQ _ _)) (br_wp (br_wp (zt_wp (hQ _ _)) (br_wp (zt_wp (hQ _ _)) (zt_wp (hQ _ _)))) (br_wp (zt_wp (hQ _ _)) (br_wp (br_wp (zt_wp (hQ _ _)) (br_wp (zt_wp (hQ _ _)) (zt_wp (hQ _ _)))) (br_wp (br_wp (zt_wp (hQ _ _)) (br_wp (zt_wp (hQ _ _)) (zt_wp (hQ _ _)))) (br_wp (zt_wp (hQ _ _)) (br_wp (zt_wp (hQ _ _)) (br_wp (br_wp (zt_wp (hQ _ _)) (br_wp (zt_wp (hQ _ _)) (zt_wp (hQ _ _)))) (br_wp (br_wp (zt_wp (hQ _ _)) (br_wp (zt_wp (hQ _ _)) (zt_wp (hQ _ _)))) (br_wp (zt_wp (hQ _ _)) (br_wp (zt_wp (hQ _ _)) (br_wp (br_wp (zt_wp (hQ _ _)) (br_wp (zt_wp (hQ _ _)) (zt_wp (hQ _ _)))) (br_wp (zt_wp (hQ _ _)) (br_wp (zt_wp (hQ _ _)) (br_wp (zt_wp (hQ _ _)) (zt_wp (hQ _ _)))))))))))))))))
def pv_10_isBoolean (a0 : Int) (Q : Int → iST → Prop) (u : iST) : Prop :=
  pv_7_isCall a0 (fun v1 u => 
  br (v1 = 0) (
    pv_10_isBoolean_23 Q a0 (-1) u) (
    pv_7_left a0 (fun v15 u => 
    pv_10_isBoolean_23 Q a0 v15 u) u)) u
theorem cj_v_10_isBoolean {Q1 Q2 Q3 : Int → iST → Prop}  {a0 : Int} {u : iST} (hQ : ∀ r0 r1, Q1 r0 r1 → Q2 r0 r1 → Q3 r0 r1) : v_10_isBoolean a0 Q1 u → pv_10_isBoolean a0 Q2 u → v_10_isBoolean a0 Q3 u := (cj_v_7_isCall (fun _ _ => (br_cj (cj_v_10_isBoolean_23  hQ) (cj_v_7_left (fun _ _ => (cj_v_10_isBoolean_23  hQ))))))
theorem mn_v_10_isBoolean {Q1 Q2 : Int → iST → Prop}  {a0 : Int} {u : iST} (hQ : ∀ r0 r1, Q1 r0 r1 → Q2 r0 r1) : pv_10_isBoolean a0 Q1 u → pv_10_isBoolean a0 Q2 u := (mn_v_7_isCall (fun _ _ => (br_mn (mn_v_10_isBoolean_23  hQ) (mn_v_7_left (fun _ _ => (mn_v_10_isBoolean_23  hQ))))))
theorem wp_v_10_isBoolean {Q1 Q2 : Int → iST → Prop}  {a0 : Int} {u : iST} (hQ : ∀ r0 r1, Q1 r0 r1 → Q2 r0 r1) : v_10_isBoolean a0 Q1 u → pv_10_isBoolean a0 Q2 u := (wp_v_7_isCall (fun _ _ => (br_wp (wp_v_10_isBoolean_23  hQ) (wp_v_7_left (fun _ _ => (wp_v_10_isBoolean_23  hQ))))))
def pv_6_lookedUp_209 (Q : Int → iST → Prop) (x1 : Int) (x5 : Int) (x6 : Int) (u : iST) : Prop :=
  br (x5 = 0) (
    br (x6 = (-1)) (
      Q x1 u) (
      Q x6 u)) (
    Q 0 u)
theorem cj_v_6_lookedUp_209 {Q1 Q2 Q3 : Int → iST → Prop}  {x1 : Int} {x5 : Int} {x6 : Int} {u : iST} (hQ : ∀ r0 r1, Q1 r0 r1 → Q2 r0 r1 → Q3 r0 r1) : v_6_lookedUp_209 Q1 x1 x5 x6 u → pv_6_lookedUp_209 Q2 x1 x5 x6 u → v_6_lookedUp_209 Q3 x1 x5 x6 u := (br_cj (br_cj (hQ _ _) (hQ _ _)) (hQ _ _))
theorem mn_v_6_lookedUp_209 {Q1 Q2 : Int → iST → Prop}  {x1 : Int} {x5 : Int} {x6 : Int} {u : iST} (hQ : ∀ r0 r1, Q1 r0 r1 → Q2 r0 r1) : pv_6_lookedUp_209 Q1 x1 x5 x6 u → pv_6_lookedUp_209 Q2 x1 x5 x6 u := (br_mn (br_mn (hQ _ _) (hQ _ _)) (hQ _ _))
theorem wp_v_6_lookedUp_209 {Q1 Q2 : Int → iST → Prop}  {x1 : Int} {x5 : Int} {x6 : Int} {u : iST} (hQ : ∀ r0 r1, Q1 r0 r1 → Q2 r0 r1) : v_6_lookedUp_209 Q1 x1 x5 x6 u → pv_6_lookedUp_209 Q2 x1 x5 x6 u := (br_wp (br_wp (hQ _ _) (hQ _ _)) (hQ _ _))
def pv_6_lookedUp_172 (R12 : Int → Int → Int → Int → Int → Int → iST → Prop) (Q : Int → iST → Prop) (x1 : Int) (x2 : Int) (x4 : Int) (x5 : Int) (x6 : Int) (x7 : Int) (u : iST) : Prop :=
  pv_7_right x7 (fun v7 u => 
  R12 x1 x2 x4 x5 x6 v7 u) u
theorem cj_v_6_lookedUp_172 {Q1 Q2 Q3 : Int → iST → Prop} {R121 R122 R123 : Int → Int → Int → Int → Int → Int → iST → Prop} {x1 : Int} {x2 : Int} {x4 : Int} {x5 : Int} {x6 : Int} {x7 : Int} {u : iST} (hR12 : ∀ r0 r1 r2 r3 r4 r5 r6, R121 r0 r1 r2 r3 r4 r5 r6 → R122 r0 r1 r2 r3 r4 r5 r6 → R123 r0 r1 r2 r3 r4 r5 r6) (hQ : ∀ r0 r1, Q1 r0 r1 → Q2 r0 r1 → Q3 r0 r1) : v_6_lookedUp_172 R121 Q1 x1 x2 x4 x5 x6 x7 u → pv_6_lookedUp_172 R122 Q2 x1 x2 x4 x5 x6 x7 u → v_6_lookedUp_172 R123 Q3 x1 x2 x4 x5 x6 x7 u := (cj_v_7_right (fun _ _ => (hR12 _ _ _ _ _ _ _)))
theorem mn_v_6_lookedUp_172 {Q1 Q2 : Int → iST → Prop} {R121 R122 : Int → Int → Int → Int → Int → Int → iST → Prop} {x1 : Int} {x2 : Int} {x4 : Int} {x5 : Int} {x6 : Int} {x7 : Int} {u : iST} (hR12 : ∀ r0 r1 r2 r3 r4 r5 r6, R121 r0 r1 r2 r3 r4 r5 r6 → R122 r0 r1 r2 r3 r4 r5 r6) (hQ : ∀ r0 r1, Q1 r0 r1 → Q2 r0 r1) : pv_6_lookedUp_172 R121 Q1 x1 x2 x4 x5 x6 x7 u → pv_6_lookedUp_172 R122 Q2 x1 x2 x4 x5 x6 x7 u := (mn_v_7_right (fun _ _ => (hR12 _ _ _ _ _ _ _)))
theorem wp_v_6_lookedUp_172 {Q1 Q2 : Int → iST → Prop} {R121 R122 : Int → Int → Int → Int → Int → Int → iST → Prop} {x1 : Int} {x2 : Int} {x4 : Int} {x5 : Int} {x6 : Int} {x7 : Int} {u : iST} (hR12 : ∀ r0 r1 r2 r3 r4 r5 r6, R121 r0 r1 r2 r3 r4 r5 r6 → R122 r0 r1 r2 r3 r4 r5 r6) (hQ : ∀ r0 r1, Q1 r0 r1 → Q2 r0 r1) : v_6_lookedUp_172 R121 Q1 x1 x2 x4 x5 x6 x7 u → pv_6_lookedUp_172 R122 Q2 x1 x2 x4 x5 x6 x7 u := (wp_v_7_right (fun _ _ => (hR12 _ _ _ _ _ _ _)))
def pv_6_lookedUp_150 (R12 : Int → Int → Int → Int → Int → Int → iST → Prop) (Q : Int → iST → Prop) (x1 : Int) (x2 : Int) (x4 : Int) (x5 : Int) (x6 : Int) (x7 : Int) (x9 : Int) (x10 : Int) (u : iST) : Prop :=
  br (x10 ≠ x1) (
    pv_6_lookedUp_172 R12 Q x1 x2 x4 x5 x6 x7 u) (
    pv_7_isConstant x9 (fun v9 u => 
    br (v9 = 0) (
      pv_6_lookedUp_172 R12 Q x1 x2 x4 x5 x6 x7 u) (
      pv_6_lookedUp_172 R12 Q x1 x2 x4 x5 x9 x7 u)) u)
theorem cj_v_6_lookedUp_150 {Q1 Q2 Q3 : Int → iST → Prop} {R121 R122 R123 : Int → Int → Int → Int → Int → Int → iST → Prop} {x1 : Int} {x2 : Int} {x4 : Int} {x5 : Int} {x6 : Int} {x7 : Int} {x9 : Int} {x10 : Int} {u : iST} (hR12 : ∀ r0 r1 r2 r3 r4 r5 r6, R121 r0 r1 r2 r3 r4 r5 r6 → R122 r0 r1 r2 r3 r4 r5 r6 → R123 r0 r1 r2 r3 r4 r5 r6) (hQ : ∀ r0 r1, Q1 r0 r1 → Q2 r0 r1 → Q3 r0 r1) : v_6_lookedUp_150 R121 Q1 x1 x2 x4 x5 x6 x7 x9 x10 u → pv_6_lookedUp_150 R122 Q2 x1 x2 x4 x5 x6 x7 x9 x10 u → v_6_lookedUp_150 R123 Q3 x1 x2 x4 x5 x6 x7 x9 x10 u := (br_cj (cj_v_6_lookedUp_172 hR12 hQ) (cj_v_7_isConstant (fun _ _ => (br_cj (cj_v_6_lookedUp_172 hR12 hQ) (cj_v_6_lookedUp_172 hR12 hQ)))))
theorem mn_v_6_lookedUp_150 {Q1 Q2 : Int → iST → Prop} {R121 R122 : Int → Int → Int → Int → Int → Int → iST → Prop} {x1 : Int} {x2 : Int} {x4 : Int} {x5 : Int} {x6 : Int} {x7 : Int} {x9 : Int} {x10 : Int} {u : iST} (hR12 : ∀ r0 r1 r2 r3 r4 r5 r6, R121 r0 r1 r2 r3 r4 r5 r6 → R122 r0 r1 r2 r3 r4 r5 r6) (hQ : ∀ r0 r1, Q1 r0 r1 → Q2 r0 r1) : pv_6_lookedUp_150 R121 Q1 x1 x2 x4 x5 x6 x7 x9 x10 u → pv_6_lookedUp_150 R122 Q2 x1 x2 x4 x5 x6 x7 x9 x10 u := (br_mn (mn_v_6_lookedUp_172 hR12 hQ) (mn_v_7_isConstant (fun _ _ => (br_mn (mn_v_6_lookedUp_172 hR12 hQ) (mn_v_6_lookedUp_172 hR12 hQ)))))
theorem wp_v_6_lookedUp_150 {Q1 Q2 : Int → iST → Prop} {R121 R122 : Int → Int → Int → Int → Int → Int → iST → Prop} {x1 : Int} {x2 : Int} {x4 : Int} {x5 : Int} {x6 : Int} {x7 : Int} {x9 : Int} {x10 : Int} {u : iST} (hR12 : ∀ r0 r1 r2 r3 r4 r5 r6, R121 r0 r1 r2 r3 r4 r5 r6 → R122 r0 r1 r2 r3 r4 r5 r6) (hQ : ∀ r0 r1, Q1 r0 r1 → Q2 r0 r1) : v_6_lookedUp_150 R121 Q1 x1 x2 x4 x5 x6 x7 x9 x10 u → pv_6_lookedUp_150 R122 Q2 x1 x2 x4 x5 x6 x7 x9 x10 u := (br_wp (wp_v_6_lookedUp_172 hR12 hQ) (wp_v_7_isConstant (fun _ _ => (br_wp (wp_v_6_lookedUp_172 hR12 hQ) (wp_v_6_lookedUp_172 hR12 hQ)))))
def pv_6_lookedUp_95 (R12 : Int → Int → Int → Int → Int → Int → iST → Prop) (Q : Int → iST → Prop) (x1 : Int) (x2 : Int) (x4 : Int) (x6 : Int) (x7 : Int) (y0 : Int) (u : iST) : Prop :=
  pv_6_lookedUp_172 R12 Q x1 x2 x4 y0 x6 x7 u
theorem cj_v_6_lookedUp_95 {Q1 Q2 Q3 : Int → iST → Prop} {R121 R122 R123 : Int → Int → Int → Int → Int → Int → iST → Prop} {x1 : Int} {x2 : Int} {x4 : Int} {x6 : Int} {x7 : Int} {y0 : Int} {u : iST} (hR12 : ∀ r0 r1 r2 r3 r4 r5 r6, R121 r0 r1 r2 r3 r4 r5 r6 → R122 r0 r1 r2 r3 r4 r5 r6 → R123 r0 r1 r2 r3 r4 r5 r6) (hQ : ∀ r0 r1, Q1 r0 r1 → Q2 r0 r1 → Q3 r0 r1) : v_6_lookedUp_95 R121 Q1 x1 x2 x4 x6 x7 y0 u → pv_6_lookedUp_95 R122 Q2 x1 x2 x4 x6 x7 y0 u → v_6_lookedUp_95 R123 Q3 x1 x2 x4 x6 x7 y0 u := (cj_v_6_lookedUp_172 hR12 hQ)
theorem mn_v_6_lookedUp_95 {Q1 Q2 : Int → iST → Prop} {R121 R122 : Int → Int → Int → Int → Int → Int → iST → Prop} {x1 : Int} {x2 : Int} {x4 : Int} {x6 : Int} {x7 : Int} {y0 : Int} {u : iST} (hR12 : ∀ r0 r1 r2 r3 r4 r5 r6, R121 r0 r1 r2 r3 r4 r5 r6 → R122 r0 r1 r2 r3 r4 r5 r6) (hQ : ∀ r0 r1, Q1 r0 r1 → Q2 r0 r1) : pv_6_lookedUp_95 R121 Q1 x1 x2 x4 x6 x7 y0 u → pv_6_lookedUp_95 R122 Q2 x1 x2 x4 x6 x7 y0 u := (mn_v_6_lookedUp_172 hR12 hQ)
theorem wp_v_6_lookedUp_95 {Q1 Q2 : Int → iST → Prop} {R121 R122 : Int → Int → Int → Int → Int → Int → iST → Prop} {x1 : Int} {x2 : Int} {x4 : Int} {x6 : Int} {x7 : Int} {y0 : Int} {u : iST} (hR12 : ∀ r0 r1 r2 r3 r4 r5 r6, R121 r0 r1 r2 r3 r4 r5 r6 → R122 r0 r1 r2 r3 r4 r5 r6) (hQ : ∀ r0 r1, Q1 r0 r1 → Q2 r0 r1) : v_6_lookedUp_95 R121 Q1 x1 x2 x4 x6 x7 y0 u → pv_6_lookedUp_95 R122 Q2 x1 x2 x4 x6 x7 y0 u := (wp_v_6_lookedUp_172 hR12 hQ)
def pv_6_lookedUp_90 (R12 : Int → Int → Int → Int → Int → Int → iST → Prop) (Q : Int → iST → Prop) (x1 : Int) (x2 : Int) (x4 : Int) (x6 : Int) (x7 : Int) (u : iST) : Prop :=
  pv_6_lookedUp_95 R12 Q x1 x2 x4 x6 x7 1 u
theorem cj_v_6_lookedUp_90 {Q1 Q2 Q3 : Int → iST → Prop} {R121 R122 R123 : Int → Int → Int → Int → Int → Int → iST → Prop} {x1 : Int} {x2 : Int} {x4 : Int} {x6 : Int} {x7 : Int} {u : iST} (hR12 : ∀ r0 r1 r2 r3 r4 r5 r6, R121 r0 r1 r2 r3 r4 r5 r6 → R122 r0 r1 r2 r3 r4 r5 r6 → R123 r0 r1 r2 r3 r4 r5 r6) (hQ : ∀ r0 r1, Q1 r0 r1 → Q2 r0 r1 → Q3 r0 r1) : v_6_lookedUp_90 R121 Q1 x1 x2 x4 x6 x7 u → pv_6_lookedUp_90 R122 Q2 x1 x2 x4 x6 x7 u → v_6_lookedUp_90 R123 Q3 x1 x2 x4 x6 x7 u := (cj_v_6_lookedUp_95 hR12 hQ)
theorem mn_v_6_lookedUp_90 {Q1 Q2 : Int → iST → Prop} {R121 R122 : Int → Int → Int → Int → Int → Int → iST → Prop} {x1 : Int} {x2 : Int} {x4 : Int} {x6 : Int} {x7 : Int} {u : iST} (hR12 : ∀ r0 r1 r2 r3 r4 r5 r6, R121 r0 r1 r2 r3 r4 r5 r6 → R122 r0 r1 r2 r3 r4 r5 r6) (hQ : ∀ r0 r1, Q1 r0 r1 → Q2 r0 r1) : pv_6_lookedUp_90 R121 Q1 x1 x2 x4 x6 x7 u → pv_6_lookedUp_90 R122 Q2 x1 x2 x4 x6 x7 u := (mn_v_6_lookedUp_95 hR12 hQ)
theorem wp_v_6_lookedUp_90 {Q1 Q2 : Int → iST → Prop} {R121 R122 : Int → Int → Int → Int → Int → Int → iST → Prop} {x1 : Int} {x2 : Int} {x4 : Int} {x6 : Int} {x7 : Int} {u : iST} (hR12 : ∀ r0 r1 r2 r3 r4 r5 r6, R121 r0 r1 r2 r3 r4 r5 r6 → R122 r0 r1 r2 r3 r4 r5 r6) (hQ : ∀ r0 r1, Q1 r0 r1 → Q2 r0 r1) : v_6_lookedUp_90 R121 Q1 x1 x2 x4 x6 x7 u → pv_6_lookedUp_90 R122 Q2 x1 x2 x4 x6 x7 u := (wp_v_6_lookedUp_95 hR12 hQ)
def pv_6_lookedUp_63 (R12 : Int → Int → Int → Int → Int → Int → iST → Prop) (Q : Int → iST → Prop) (x1 : Int) (x2 : Int) (x5 : Int) (x6 : Int) (x7 : Int) (x8 : Int) (x9 : Int) (y0 : Int) (u : iST) : Prop :=
  pv_7_isCallOf x8 16 (fun v5 u => 
  br (v5 = 0) (
    pv_7_isCallOf x8 4 (fun v6 u => 
    br (v6 = 0) (
      pv_6_lookedUp_172 R12 Q x1 x2 y0 x5 x6 x7 u) (
      pv_7_item x8 2 (fun v8 u => 
      br (x9 ≠ x1) (
        pv_6_lookedUp_150 R12 Q x1 x2 y0 x5 x6 x7 x9 v8 u) (
        pv_7_isConstant v8 (fun v10 u => 
        br (v10 = 0) (
          pv_6_lookedUp_150 R12 Q x1 x2 y0 x5 x6 x7 x9 v8 u) (
          pv_6_lookedUp_172 R12 Q x1 x2 y0 x5 v8 x7 u)) u)) u)) u) (
    br (x5 ≠ 0) (
      pv_6_lookedUp_90 R12 Q x1 x2 y0 x6 x7 u) (
      br (x9 ≠ x1) (
        pv_6_lookedUp_95 R12 Q x1 x2 y0 x6 x7 0 u) (
        pv_6_lookedUp_90 R12 Q x1 x2 y0 x6 x7 u)))) u
theorem cj_v_6_lookedUp_63 {Q1 Q2 Q3 : Int → iST → Prop} {R121 R122 R123 : Int → Int → Int → Int → Int → Int → iST → Prop} {x1 : Int} {x2 : Int} {x5 : Int} {x6 : Int} {x7 : Int} {x8 : Int} {x9 : Int} {y0 : Int} {u : iST} (hR12 : ∀ r0 r1 r2 r3 r4 r5 r6, R121 r0 r1 r2 r3 r4 r5 r6 → R122 r0 r1 r2 r3 r4 r5 r6 → R123 r0 r1 r2 r3 r4 r5 r6) (hQ : ∀ r0 r1, Q1 r0 r1 → Q2 r0 r1 → Q3 r0 r1) : v_6_lookedUp_63 R121 Q1 x1 x2 x5 x6 x7 x8 x9 y0 u → pv_6_lookedUp_63 R122 Q2 x1 x2 x5 x6 x7 x8 x9 y0 u → v_6_lookedUp_63 R123 Q3 x1 x2 x5 x6 x7 x8 x9 y0 u := (cj_v_7_isCallOf (fun _ _ => (br_cj (cj_v_7_isCallOf (fun _ _ => (br_cj (cj_v_6_lookedUp_172 hR12 hQ) (cj_v_7_item (fun _ _ => (br_cj (cj_v_6_lookedUp_150 hR12 hQ) (cj_v_7_isConstant (fun _ _ => (br_cj (cj_v_6_lookedUp_150 hR12 hQ) (cj_v_6_lookedUp_172 hR12 hQ)))))))))) (br_cj (cj_v_6_lookedUp_90 hR12 hQ) (br_cj (cj_v_6_lookedUp_95 hR12 hQ) (cj_v_6_lookedUp_90 hR12 hQ))))))
theorem mn_v_6_lookedUp_63 {Q1 Q2 : Int → iST → Prop} {R121 R122 : Int → Int → Int → Int → Int → Int → iST → Prop} {x1 : Int} {x2 : Int} {x5 : Int} {x6 : Int} {x7 : Int} {x8 : Int} {x9 : Int} {y0 : Int} {u : iST} (hR12 : ∀ r0 r1 r2 r3 r4 r5 r6, R121 r0 r1 r2 r3 r4 r5 r6 → R122 r0 r1 r2 r3 r4 r5 r6) (hQ : ∀ r0 r1, Q1 r0 r1 → Q2 r0 r1) : pv_6_lookedUp_63 R121 Q1 x1 x2 x5 x6 x7 x8 x9 y0 u → pv_6_lookedUp_63 R122 Q2 x1 x2 x5 x6 x7 x8 x9 y0 u := (mn_v_7_isCallOf (fun _ _ => (br_mn (mn_v_7_isCallOf (fun _ _ => (br_mn (mn_v_6_lookedUp_172 hR12 hQ) (mn_v_7_item (fun _ _ => (br_mn (mn_v_6_lookedUp_150 hR12 hQ) (mn_v_7_isConstant (fun _ _ => (br_mn (mn_v_6_lookedUp_150 hR12 hQ) (mn_v_6_lookedUp_172 hR12 hQ)))))))))) (br_mn (mn_v_6_lookedUp_90 hR12 hQ) (br_mn (mn_v_6_lookedUp_95 hR12 hQ) (mn_v_6_lookedUp_90 hR12 hQ))))))
theorem wp_v_6_lookedUp_63 {Q1 Q2 : Int → iST → Prop} {R121 R122 : Int → Int → Int → Int → Int → Int → iST → Prop} {x1 : Int} {x2 : Int} {x5 : Int} {x6 : Int} {x7 : Int} {x8 : Int} {x9 : Int} {y0 : Int} {u : iST} (hR12 : ∀ r0 r1 r2 r3 r4 r5 r6, R121 r0 r1 r2 r3 r4 r5 r6 → R122 r0 r1 r2 r3 r4 r5 r6) (hQ : ∀ r0 r1, Q1 r0 r1 → Q2 r0 r1) : v_6_lookedUp_63 R121 Q1 x1 x2 x5 x6 x7 x8 x9 y0 u → pv_6_lookedUp_63 R122 Q2 x1 x2 x5 x6 x7 x8 x9 y0 u := (wp_v_7_isCallOf (fun _ _ => (br_wp (wp_v_7_isCallOf (fun _ _ => (br_wp (wp_v_6_lookedUp_172 hR12 hQ) (wp_v_7_item (fun _ _ => (br_wp (wp_v_6_lookedUp_150 hR12 hQ) (wp_v_7_isConstant (fun _ _ => (br_wp (wp_v_6_lookedUp_150 hR12 hQ) (wp_v_6_lookedUp_172 hR12 hQ)))))))))) (br_wp (wp_v_6_lookedUp_90 hR12 hQ) (br_wp (wp_v_6_lookedUp_95 hR12 hQ) (wp_v_6_lookedUp_90 hR12 hQ))))))
def pv_6_lookedUp_58 (R12 : Int → Int → Int → Int → Int → Int → iST → Prop) (Q : Int → iST → Prop) (x1 : Int) (x2 : Int) (x5 : Int) (x6 : Int) (x7 : Int) (x8 : Int) (x9 : Int) (u : iST) : Prop :=
  pv_6_lookedUp_63 R12 Q x1 x2 x5 x6 x7 x8 x9 1 u
theorem cj_v_6_lookedUp_58 {Q1 Q2 Q3 : Int → iST → Prop} {R121 R122 R123 : Int → Int → Int → Int → Int → Int → iST → Prop} {x1 : Int} {x2 : Int} {x5 : Int} {x6 : Int} {x7 : Int} {x8 : Int} {x9 : Int} {u : iST} (hR12 : ∀ r0 r1 r2 r3 r4 r5 r6, R121 r0 r1 r2 r3 r4 r5 r6 → R122 r0 r1 r2 r3 r4 r5 r6 → R123 r0 r1 r2 r3 r4 r5 r6) (hQ : ∀ r0 r1, Q1 r0 r1 → Q2 r0 r1 → Q3 r0 r1) : v_6_lookedUp_58 R121 Q1 x1 x2 x5 x6 x7 x8 x9 u → pv_6_lookedUp_58 R122 Q2 x1 x2 x5 x6 x7 x8 x9 u → v_6_lookedUp_58 R123 Q3 x1 x2 x5 x6 x7 x8 x9 u := (cj_v_6_lookedUp_63 hR12 hQ)
theorem mn_v_6_lookedUp_58 {Q1 Q2 : Int → iST → Prop} {R121 R122 : Int → Int → Int → Int → Int → Int → iST → Prop} {x1 : Int} {x2 : Int} {x5 : Int} {x6 : Int} {x7 : Int} {x8 : Int} {x9 : Int} {u : iST} (hR12 : ∀ r0 r1 r2 r3 r4 r5 r6, R121 r0 r1 r2 r3 r4 r5 r6 → R122 r0 r1 r2 r3 r4 r5 r6) (hQ : ∀ r0 r1, Q1 r0 r1 → Q2 r0 r1) : pv_6_lookedUp_58 R121 Q1 x1 x2 x5 x6 x7 x8 x9 u → pv_6_lookedUp_58 R122 Q2 x1 x2 x5 x6 x7 x8 x9 u := (mn_v_6_lookedUp_63 hR12 hQ)
theorem wp_v_6_lookedUp_58 {Q1 Q2 : Int → iST → Prop} {R121 R122 : Int → Int → Int → Int → Int → Int → iST → Prop} {x1 : Int} {x2 : Int} {x5 : Int} {x6 : Int} {x7 : Int} {x8 : Int} {x9 : Int} {u : iST} (hR12 : ∀ r0 r1 r2 r3 r4 r5 r6, R121 r0 r1 r2 r3 r4 r5 r6 → R122 r0 r1 r2 r3 r4 r5 r6) (hQ : ∀ r0 r1, Q1 r0 r1 → Q2 r0 r1) : v_6_lookedUp_58 R121 Q1 x1 x2 x5 x6 x7 x8 x9 u → pv_6_lookedUp_58 R122 Q2 x1 x2 x5 x6 x7 x8 x9 u := (wp_v_6_lookedUp_63 hR12 hQ)
def pv_6_lookedUp_12b (R12 : Int → Int → Int → Int → Int → Int → iST → Prop) (Q : Int → iST → Prop) (x1 : Int) (x2 : Int) (x4 : Int) (x5 : Int) (x6 : Int) (x7 : Int) (u : iST) : Prop :=
  pv_7_isPair x7 (fun v1 u => 
  br (v1 = 0) (
    br (x4 = 0) (
      pv_6_lookedUp_209 Q x1 x5 x6 u) (
      br (x2 = 1) (
        Q 1 u) (
        pv_10_isBoolean x1 (fun v2 u => 
        br (v2 = 0) (
          pv_6_lookedUp_209 Q x1 x5 x6 u) (
          Q 1 u)) u))) (
    pv_7_left x7 (fun v3 u => 
    pv_7_item v3 1 (fun v4 u => 
    br (x4 ≠ 0) (
      pv_6_lookedUp_58 R12 Q x1 x2 x5 x6 x7 v3 v4 u) (
      br (v3 ≠ x1) (
        pv_6_lookedUp_63 R12 Q x1 x2 x5 x6 x7 v3 v4 0 u) (
        pv_6_lookedUp_58 R12 Q x1 x2 x5 x6 x7 v3 v4 u))) u) u)) u
theorem cj_v_6_lookedUp_12b {Q1 Q2 Q3 : Int → iST → Prop} {R121 R122 R123 : Int → Int → Int → Int → Int → Int → iST → Prop} {x1 : Int} {x2 : Int} {x4 : Int} {x5 : Int} {x6 : Int} {x7 : Int} {u : iST} (hR12 : ∀ r0 r1 r2 r3 r4 r5 r6, R121 r0 r1 r2 r3 r4 r5 r6 → R122 r0 r1 r2 r3 r4 r5 r6 → R123 r0 r1 r2 r3 r4 r5 r6) (hQ : ∀ r0 r1, Q1 r0 r1 → Q2 r0 r1 → Q3 r0 r1) : v_6_lookedUp_12b R121 Q1 x1 x2 x4 x5 x6 x7 u → pv_6_lookedUp_12b R122 Q2 x1 x2 x4 x5 x6 x7 u → v_6_lookedUp_12b R123 Q3 x1 x2 x4 x5 x6 x7 u := (cj_v_7_isPair (fun _ _ => (br_cj (br_cj (cj_v_6_lookedUp_209  hQ) (br_cj (hQ _ _) (cj_v_10_isBoolean (fun _ _ => (br_cj (cj_v_6_lookedUp_209  hQ) (hQ _ _)))))) (cj_v_7_left (fun _ _ => (cj_v_7_item (fun _ _ => (br_cj (cj_v_6_lookedUp_58 hR12 hQ) (br_cj (cj_v_6_lookedUp_63 hR12 hQ) (cj_v_6_lookedUp_58 hR12 hQ))))))))))
theorem mn_v_6_lookedUp_12b {Q1 Q2 : Int → iST → Prop} {R121 R122 : Int → Int → Int → Int → Int → Int → iST → Prop} {x1 : Int} {x2 : Int} {x4 : Int} {x5 : Int} {x6 : Int} {x7 : Int} {u : iST} (hR12 : ∀ r0 r1 r2 r3 r4 r5 r6, R121 r0 r1 r2 r3 r4 r5 r6 → R122 r0 r1 r2 r3 r4 r5 r6) (hQ : ∀ r0 r1, Q1 r0 r1 → Q2 r0 r1) : pv_6_lookedUp_12b R121 Q1 x1 x2 x4 x5 x6 x7 u → pv_6_lookedUp_12b R122 Q2 x1 x2 x4 x5 x6 x7 u := (mn_v_7_isPair (fun _ _ => (br_mn (br_mn (mn_v_6_lookedUp_209  hQ) (br_mn (hQ _ _) (mn_v_10_isBoolean (fun _ _ => (br_mn (mn_v_6_lookedUp_209  hQ) (hQ _ _)))))) (mn_v_7_left (fun _ _ => (mn_v_7_item (fun _ _ => (br_mn (mn_v_6_lookedUp_58 hR12 hQ) (br_mn (mn_v_6_lookedUp_63 hR12 hQ) (mn_v_6_lookedUp_58 hR12 hQ))))))))))
theorem wp_v_6_lookedUp_12b {Q1 Q2 : Int → iST → Prop} {R121 R122 : Int → Int → Int → Int → Int → Int → iST → Prop} {x1 : Int} {x2 : Int} {x4 : Int} {x5 : Int} {x6 : Int} {x7 : Int} {u : iST} (hR12 : ∀ r0 r1 r2 r3 r4 r5 r6, R121 r0 r1 r2 r3 r4 r5 r6 → R122 r0 r1 r2 r3 r4 r5 r6) (hQ : ∀ r0 r1, Q1 r0 r1 → Q2 r0 r1) : v_6_lookedUp_12b R121 Q1 x1 x2 x4 x5 x6 x7 u → pv_6_lookedUp_12b R122 Q2 x1 x2 x4 x5 x6 x7 u := (wp_v_7_isPair (fun _ _ => (br_wp (br_wp (wp_v_6_lookedUp_209  hQ) (br_wp (hQ _ _) (wp_v_10_isBoolean (fun _ _ => (br_wp (wp_v_6_lookedUp_209  hQ) (hQ _ _)))))) (wp_v_7_left (fun _ _ => (wp_v_7_item (fun _ _ => (br_wp (wp_v_6_lookedUp_58 hR12 hQ) (br_wp (wp_v_6_lookedUp_63 hR12 hQ) (wp_v_6_lookedUp_58 hR12 hQ))))))))))
def pv_6_lookedUp_12 (Q : Int → iST → Prop) (x1 : Int) (x2 : Int) (x4 : Int) (x5 : Int) (x6 : Int) (x7 : Int) (u : iST) : Prop := ∃ R12 : Int → Int → Int → Int → Int → Int → iST → Prop, (∀ (x1 : Int) (x2 : Int) (x4 : Int) (x5 : Int) (x6 : Int) (x7 : Int) (u : iST), R12 x1 x2 x4 x5 x6 x7 u → pv_6_lookedUp_12b R12 Q x1 x2 x4 x5 x6 x7 u) ∧ R12 x1 x2 x4 x5 x6 x7 u
theorem cj_v_6_lookedUp_12 {Q1 Q2 Q3 : Int → iST → Prop}  {x1 : Int} {x2 : Int} {x4 : Int} {x5 : Int} {x6 : Int} {x7 : Int} {u : iST} (hQ : ∀ r0 r1, Q1 r0 r1 → Q2 r0 r1 → Q3 r0 r1) : v_6_lookedUp_12 Q1 x1 x2 x4 x5 x6 x7 u → pv_6_lookedUp_12 Q2 x1 x2 x4 x5 x6 x7 u → v_6_lookedUp_12 Q3 x1 x2 x4 x5 x6 x7 u := by
  intro a b R3 c3
  obtain ⟨R2, c2, b2⟩ := b
  exact a (fun r0 r1 r2 r3 r4 r5 r6 => R2 r0 r1 r2 r3 r4 r5 r6 → R3 r0 r1 r2 r3 r4 r5 r6) (fun r0 r1 r2 r3 r4 r5 r6 a b => c3 r0 r1 r2 r3 r4 r5 r6 (cj_v_6_lookedUp_12b (fun r0 r1 r2 r3 r4 r5 r6 a b => a b) hQ a (c2 r0 r1 r2 r3 r4 r5 r6 b))) b2
theorem pv_6_lookedUp_12_i  {Q : Int → iST → Prop} {x1 : Int} {x2 : Int} {x4 : Int} {x5 : Int} {x6 : Int} {x7 : Int} {u : iST} (I : Int → Int → Int → Int → Int → Int → iST → Prop) (s : ∀ (x1 : Int) (x2 : Int) (x4 : Int) (x5 : Int) (x6 : Int) (x7 : Int) (u : iST), I x1 x2 x4 x5 x6 x7 u → pv_6_lookedUp_12b I Q x1 x2 x4 x5 x6 x7 u) (h : I x1 x2 x4 x5 x6 x7 u) : pv_6_lookedUp_12 Q x1 x2 x4 x5 x6 x7 u := ⟨I, s, h⟩
theorem mn_v_6_lookedUp_12 {Q1 Q2 : Int → iST → Prop}  {x1 : Int} {x2 : Int} {x4 : Int} {x5 : Int} {x6 : Int} {x7 : Int} {u : iST} (hQ : ∀ r0 r1, Q1 r0 r1 → Q2 r0 r1) : pv_6_lookedUp_12 Q1 x1 x2 x4 x5 x6 x7 u → pv_6_lookedUp_12 Q2 x1 x2 x4 x5 x6 x7 u := fun ⟨R, s, h⟩ => ⟨R, fun r0 r1 r2 r3 r4 r5 r6 a => mn_v_6_lookedUp_12b (fun r0 r1 r2 r3 r4 r5 r6 a => a) hQ (s r0 r1 r2 r3 r4 r5 r6 a), h⟩
theorem un_v_6_lookedUp_12  {Q : Int → iST → Prop} {x1 : Int} {x2 : Int} {x4 : Int} {x5 : Int} {x6 : Int} {x7 : Int} {u : iST} : pv_6_lookedUp_12 Q x1 x2 x4 x5 x6 x7 u → pv_6_lookedUp_12b (fun x1 x2 x4 x5 x6 x7 u => pv_6_lookedUp_12 Q x1 x2 x4 x5 x6 x7 u) Q x1 x2 x4 x5 x6 x7 u := fun ⟨R, s, h⟩ => mn_v_6_lookedUp_12b (fun r0 r1 r2 r3 r4 r5 r6 a => ⟨R, s, a⟩) (fun _ _ h => h) (s _ _ _ _ _ _ _ h)
theorem fo_v_6_lookedUp_12  {Q : Int → iST → Prop} {x1 : Int} {x2 : Int} {x4 : Int} {x5 : Int} {x6 : Int} {x7 : Int} {u : iST} : pv_6_lookedUp_12b (fun x1 x2 x4 x5 x6 x7 u => pv_6_lookedUp_12 Q x1 x2 x4 x5 x6 x7 u) Q x1 x2 x4 x5 x6 x7 u → pv_6_lookedUp_12 Q x1 x2 x4 x5 x6 x7 u := fun h => ⟨fun x1 x2 x4 x5 x6 x7 u => pv_6_lookedUp_12b (fun x1 x2 x4 x5 x6 x7 u => pv_6_lookedUp_12 Q x1 x2 x4 x5 x6 x7 u) Q x1 x2 x4 x5 x6 x7 u, fun r0 r1 r2 r3 r4 r5 r6 a => mn_v_6_lookedUp_12b (fun r0 r1 r2 r3 r4 r5 r6 a => un_v_6_lookedUp_12 a) (fun _ _ h => h) a, h⟩
theorem wp_v_6_lookedUp_12 {Q1 Q2 : Int → iST → Prop}  {x1 : Int} {x2 : Int} {x4 : Int} {x5 : Int} {x6 : Int} {x7 : Int} {u : iST} (hQ : ∀ r0 r1, Q1 r0 r1 → Q2 r0 r1) : v_6_lookedUp_12 Q1 x1 x2 x4 x5 x6 x7 u → pv_6_lookedUp_12 Q2 x1 x2 x4 x5 x6 x7 u := fun a => a (fun x1 x2 x4 x5 x6 x7 u => pv_6_lookedUp_12 Q2 x1 x2 x4 x5 x6 x7 u) (fun x1 x2 x4 x5 x6 x7 u b => fo_v_6_lookedUp_12 (wp_v_6_lookedUp_12b (fun r0 r1 r2 r3 r4 r5 r6 a => a) hQ b))
def pv_6_lookedUp (a0 : Int) (a1 : Int) (a2 : Int) (Q : Int → iST → Prop) (u : iST) : Prop :=
  pv_6_lookedUp_12 Q a0 a1 0 0 (-1) a2 u
theorem cj_v_6_lookedUp {Q1 Q2 Q3 : Int → iST → Prop}  {a0 : Int} {a1 : Int} {a2 : Int} {u : iST} (hQ : ∀ r0 r1, Q1 r0 r1 → Q2 r0 r1 → Q3 r0 r1) : v_6_lookedUp a0 a1 a2 Q1 u → pv_6_lookedUp a0 a1 a2 Q2 u → v_6_lookedUp a0 a1 a2 Q3 u := (cj_v_6_lookedUp_12  hQ)
theorem mn_v_6_lookedUp {Q1 Q2 : Int → iST → Prop}  {a0 : Int} {a1 : Int} {a2 : Int} {u : iST} (hQ : ∀ r0 r1, Q1 r0 r1 → Q2 r0 r1) : pv_6_lookedUp a0 a1 a2 Q1 u → pv_6_lookedUp a0 a1 a2 Q2 u := (mn_v_6_lookedUp_12  hQ)
theorem wp_v_6_lookedUp {Q1 Q2 : Int → iST → Prop}  {a0 : Int} {a1 : Int} {a2 : Int} {u : iST} (hQ : ∀ r0 r1, Q1 r0 r1 → Q2 r0 r1) : v_6_lookedUp a0 a1 a2 Q1 u → pv_6_lookedUp a0 a1 a2 Q2 u := (wp_v_6_lookedUp_12  hQ)
def pv_6_askInstead (a0 : Int) (a1 : Int) (Q : iST → Prop) (u : iST) : Prop :=
  bdp 3 17 (sw (iA u 51 (17 * a0 + 3) 1) (fun u => 
  rd (u.1 32) (fun v1 => 
  br (v1 ≠ 0) (
    Q u) (
    bdp 1 17 (rd (u.2.1 51 (17 * a0 + 1)) (fun v2 => 
    bdp 2 17 (rd (u.2.1 51 (17 * a0 + 2)) (fun v3 => 
    pv_6_ask a1 v2 v3 (fun u => 
    Q u) u))))))))
theorem cj_v_6_askInstead {Q1 Q2 Q3 : iST → Prop}  {a0 : Int} {a1 : Int} {u : iST} (hQ : ∀ r0, Q1 r0 → Q2 r0 → Q3 r0) : v_6_askInstead a0 a1 Q1 u → pv_6_askInstead a0 a1 Q2 u → v_6_askInstead a0 a1 Q3 u := (bd_cj (sw_cj fun _ => (rd_cj fun _ => (br_cj (hQ _) (bd_cj (rd_cj fun _ => (bd_cj (rd_cj fun _ => (cj_v_6_ask (fun _ => (hQ _)))))))))))
theorem mn_v_6_askInstead {Q1 Q2 : iST → Prop}  {a0 : Int} {a1 : Int} {u : iST} (hQ : ∀ r0, Q1 r0 → Q2 r0) : pv_6_askInstead a0 a1 Q1 u → pv_6_askInstead a0 a1 Q2 u := (bd_mn (sw_mn fun _ => (rd_mn fun _ => (br_mn (hQ _) (bd_mn (rd_mn fun _ => (bd_mn (rd_mn fun _ => (mn_v_6_ask (fun _ => (hQ _)))))))))))
theorem wp_v_6_askInstead {Q1 Q2 : iST → Prop}  {a0 : Int} {a1 : Int} {u : iST} (hQ : ∀ r0, Q1 r0 → Q2 r0) : v_6_askInstead a0 a1 Q1 u → pv_6_askInstead a0 a1 Q2 u := (bd_wp (sw_wp fun _ => (rd_wp fun _ => (br_wp (hQ _) (bd_wp (rd_wp fun _ => (bd_wp (rd_wp fun _ => (wp_v_6_ask (fun _ => (hQ _)))))))))))
