def pw_feed_3b (R3 : Int → Int → Int → Int → Int → Int → iST → Prop) (Q : iST → Prop) (x1 : Int) (x2 : Int) (x3 : Int) (x4 : Int) (x5 : Int) (x6 : Int) (u : iST) : Prop :=
  br (4 ≤ x6) (
    Q u) (
    ovp (8 * x6) (
    ovp (24 - (8 * x6)) (
    rd (wshr x1 (24 - (8 * x6))) (fun v3 => 
    rd (wand v3 255) (fun v4 => 
    bdp x6 20 (sw (iA u 12 x6 v4) (fun u => 
    ovp (4 + x6) (
    ovp (8 * x6) (
    ovp (24 - (8 * x6)) (
    rd (wshr x2 (24 - (8 * x6))) (fun v8 => 
    rd (wand v8 255) (fun v9 => 
    bdp (4 + x6) 20 (sw (iA u 12 (4 + x6) v9) (fun u => 
    ovp (8 + x6) (
    ovp (8 * x6) (
    ovp (24 - (8 * x6)) (
    rd (wshr x3 (24 - (8 * x6))) (fun v13 => 
    rd (wand v13 255) (fun v14 => 
    bdp (8 + x6) 20 (sw (iA u 12 (8 + x6) v14) (fun u => 
    ovp (12 + x6) (
    ovp (8 * x6) (
    ovp (24 - (8 * x6)) (
    rd (wshr x4 (24 - (8 * x6))) (fun v18 => 
    rd (wand v18 255) (fun v19 => 
    bdp (12 + x6) 20 (sw (iA u 12 (12 + x6) v19) (fun u => 
    ovp (16 + x6) (
    ovp (8 * x6) (
    ovp (24 - (8 * x6)) (
    rd (wshr x5 (24 - (8 * x6))) (fun v23 => 
    rd (wand v23 255) (fun v24 => 
    bdp (16 + x6) 20 (sw (iA u 12 (16 + x6) v24) (fun u => 
    ovp (x6 + 1) (
    R3 x1 x2 x3 x4 x5 (x6 + 1) u))))))))))))))))))))))))))))))))))))
theorem cj_w_feed_3b {Q1 Q2 Q3 : iST → Prop} {R31 R32 R33 : Int → Int → Int → Int → Int → Int → iST → Prop} {x1 : Int} {x2 : Int} {x3 : Int} {x4 : Int} {x5 : Int} {x6 : Int} {u : iST} (hR3 : ∀ r0 r1 r2 r3 r4 r5 r6, R31 r0 r1 r2 r3 r4 r5 r6 → R32 r0 r1 r2 r3 r4 r5 r6 → R33 r0 r1 r2 r3 r4 r5 r6) (hQ : ∀ r0, Q1 r0 → Q2 r0 → Q3 r0) : w_feed_3b R31 Q1 x1 x2 x3 x4 x5 x6 u → pw_feed_3b R32 Q2 x1 x2 x3 x4 x5 x6 u → w_feed_3b R33 Q3 x1 x2 x3 x4 x5 x6 u := (br_cj (hQ _) (ov_cj (ov_cj (rd_cj fun _ => (rd_cj fun _ => (bd_cj (sw_cj fun _ => (ov_cj (ov_cj (ov_cj (rd_cj fun _ => (rd_cj fun _ => (bd_cj (sw_cj fun _ => (ov_cj (ov_cj (ov_cj (rd_cj fun _ => (rd_cj fun _ => (bd_cj (sw_cj fun _ => (ov_cj (ov_cj (ov_cj (rd_cj fun _ => (rd_cj fun _ => (bd_cj (sw_cj fun _ => (ov_cj (ov_cj (ov_cj (rd_cj fun _ => (rd_cj fun _ => (bd_cj (sw_cj fun _ => (ov_cj (hR3 _ _ _ _ _ _ _)))))))))))))))))))))))))))))))))))))
theorem mn_w_feed_3b {Q1 Q2 : iST → Prop} {R31 R32 : Int → Int → Int → Int → Int → Int → iST → Prop} {x1 : Int} {x2 : Int} {x3 : Int} {x4 : Int} {x5 : Int} {x6 : Int} {u : iST} (hR3 : ∀ r0 r1 r2 r3 r4 r5 r6, R31 r0 r1 r2 r3 r4 r5 r6 → R32 r0 r1 r2 r3 r4 r5 r6) (hQ : ∀ r0, Q1 r0 → Q2 r0) : pw_feed_3b R31 Q1 x1 x2 x3 x4 x5 x6 u → pw_feed_3b R32 Q2 x1 x2 x3 x4 x5 x6 u := (br_mn (hQ _) (ov_mn (ov_mn (rd_mn fun _ => (rd_mn fun _ => (bd_mn (sw_mn fun _ => (ov_mn (ov_mn (ov_mn (rd_mn fun _ => (rd_mn fun _ => (bd_mn (sw_mn fun _ => (ov_mn (ov_mn (ov_mn (rd_mn fun _ => (rd_mn fun _ => (bd_mn (sw_mn fun _ => (ov_mn (ov_mn (ov_mn (rd_mn fun _ => (rd_mn fun _ => (bd_mn (sw_mn fun _ => (ov_mn (ov_mn (ov_mn (rd_mn fun _ => (rd_mn fun _ => (bd_mn (sw_mn fun _ => (ov_mn (hR3 _ _ _ _ _ _ _)))))))))))))))))))))))))))))))))))))
theorem wp_w_feed_3b {Q1 Q2 : iST → Prop} {R31 R32 : Int → Int → Int → Int → Int → Int → iST → Prop} {x1 : Int} {x2 : Int} {x3 : Int} {x4 : Int} {x5 : Int} {x6 : Int} {u : iST} (hR3 : ∀ r0 r1 r2 r3 r4 r5 r6, R31 r0 r1 r2 r3 r4 r5 r6 → R32 r0 r1 r2 r3 r4 r5 r6) (hQ : ∀ r0, Q1 r0 → Q2 r0) : w_feed_3b R31 Q1 x1 x2 x3 x4 x5 x6 u → pw_feed_3b R32 Q2 x1 x2 x3 x4 x5 x6 u := (br_wp (hQ _) (ov_wp (ov_wp (rd_wp fun _ => (rd_wp fun _ => (bd_wp (sw_wp fun _ => (ov_wp (ov_wp (ov_wp (rd_wp fun _ => (rd_wp fun _ => (bd_wp (sw_wp fun _ => (ov_wp (ov_wp (ov_wp (rd_wp fun _ => (rd_wp fun _ => (bd_wp (sw_wp fun _ => (ov_wp (ov_wp (ov_wp (rd_wp fun _ => (rd_wp fun _ => (bd_wp (sw_wp fun _ => (ov_wp (ov_wp (ov_wp (rd_wp fun _ => (rd_wp fun _ => (bd_wp (sw_wp fun _ => (ov_wp (hR3 _ _ _ _ _ _ _)))))))))))))))))))))))))))))))))))))
def pw_feed_3 (Q : iST → Prop) (x1 : Int) (x2 : Int) (x3 : Int) (x4 : Int) (x5 : Int) (x6 : Int) (u : iST) : Prop := ∃ R3 : Int → Int → Int → Int → Int → Int → iST → Prop, (∀ (x1 : Int) (x2 : Int) (x3 : Int) (x4 : Int) (x5 : Int) (x6 : Int) (u : iST), R3 x1 x2 x3 x4 x5 x6 u → pw_feed_3b R3 Q x1 x2 x3 x4 x5 x6 u) ∧ R3 x1 x2 x3 x4 x5 x6 u
theorem cj_w_feed_3 {Q1 Q2 Q3 : iST → Prop}  {x1 : Int} {x2 : Int} {x3 : Int} {x4 : Int} {x5 : Int} {x6 : Int} {u : iST} (hQ : ∀ r0, Q1 r0 → Q2 r0 → Q3 r0) : w_feed_3 Q1 x1 x2 x3 x4 x5 x6 u → pw_feed_3 Q2 x1 x2 x3 x4 x5 x6 u → w_feed_3 Q3 x1 x2 x3 x4 x5 x6 u := by
  intro a b R3 c3
  obtain ⟨R2, c2, b2⟩ := b
  exact a (fun r0 r1 r2 r3 r4 r5 r6 => R2 r0 r1 r2 r3 r4 r5 r6 → R3 r0 r1 r2 r3 r4 r5 r6) (fun r0 r1 r2 r3 r4 r5 r6 a b => c3 r0 r1 r2 r3 r4 r5 r6 (cj_w_feed_3b (fun r0 r1 r2 r3 r4 r5 r6 a b => a b) hQ a (c2 r0 r1 r2 r3 r4 r5 r6 b))) b2
theorem pw_feed_3_i  {Q : iST → Prop} {x1 : Int} {x2 : Int} {x3 : Int} {x4 : Int} {x5 : Int} {x6 : Int} {u : iST} (I : Int → Int → Int → Int → Int → Int → iST → Prop) (s : ∀ (x1 : Int) (x2 : Int) (x3 : Int) (x4 : Int) (x5 : Int) (x6 : Int) (u : iST), I x1 x2 x3 x4 x5 x6 u → pw_feed_3b I Q x1 x2 x3 x4 x5 x6 u) (h : I x1 x2 x3 x4 x5 x6 u) : pw_feed_3 Q x1 x2 x3 x4 x5 x6 u := ⟨I, s, h⟩
theorem mn_w_feed_3 {Q1 Q2 : iST → Prop}  {x1 : Int} {x2 : Int} {x3 : Int} {x4 : Int} {x5 : Int} {x6 : Int} {u : iST} (hQ : ∀ r0, Q1 r0 → Q2 r0) : pw_feed_3 Q1 x1 x2 x3 x4 x5 x6 u → pw_feed_3 Q2 x1 x2 x3 x4 x5 x6 u := fun ⟨R, s, h⟩ => ⟨R, fun r0 r1 r2 r3 r4 r5 r6 a => mn_w_feed_3b (fun r0 r1 r2 r3 r4 r5 r6 a => a) hQ (s r0 r1 r2 r3 r4 r5 r6 a), h⟩
theorem un_w_feed_3  {Q : iST → Prop} {x1 : Int} {x2 : Int} {x3 : Int} {x4 : Int} {x5 : Int} {x6 : Int} {u : iST} : pw_feed_3 Q x1 x2 x3 x4 x5 x6 u → pw_feed_3b (fun x1 x2 x3 x4 x5 x6 u => pw_feed_3 Q x1 x2 x3 x4 x5 x6 u) Q x1 x2 x3 x4 x5 x6 u := fun ⟨R, s, h⟩ => mn_w_feed_3b (fun r0 r1 r2 r3 r4 r5 r6 a => ⟨R, s, a⟩) (fun _ h => h) (s _ _ _ _ _ _ _ h)
theorem fo_w_feed_3  {Q : iST → Prop} {x1 : Int} {x2 : Int} {x3 : Int} {x4 : Int} {x5 : Int} {x6 : Int} {u : iST} : pw_feed_3b (fun x1 x2 x3 x4 x5 x6 u => pw_feed_3 Q x1 x2 x3 x4 x5 x6 u) Q x1 x2 x3 x4 x5 x6 u → pw_feed_3 Q x1 x2 x3 x4 x5 x6 u := fun h => ⟨fun x1 x2 x3 x4 x5 x6 u => pw_feed_3b (fun x1 x2 x3 x4 x5 x6 u => pw_feed_3 Q x1 x2 x3 x4 x5 x6 u) Q x1 x2 x3 x4 x5 x6 u, fun r0 r1 r2 r3 r4 r5 r6 a => mn_w_feed_3b (fun r0 r1 r2 r3 r4 r5 r6 a => un_w_feed_3 a) (fun _ h => h) a, h⟩
theorem wp_w_feed_3 {Q1 Q2 : iST → Prop}  {x1 : Int} {x2 : Int} {x3 : Int} {x4 : Int} {x5 : Int} {x6 : Int} {u : iST} (hQ : ∀ r0, Q1 r0 → Q2 r0) : w_feed_3 Q1 x1 x2 x3 x4 x5 x6 u → pw_feed_3 Q2 x1 x2 x3 x4 x5 x6 u := fun a => a (fun x1 x2 x3 x4 x5 x6 u => pw_feed_3 Q2 x1 x2 x3 x4 x5 x6 u) (fun x1 x2 x3 x4 x5 x6 u b => fo_w_feed_3 (wp_w_feed_3b (fun r0 r1 r2 r3 r4 r5 r6 a => a) hQ b))
def pw_feed (a0 : Int) (a1 : Int) (a2 : Int) (a3 : Int) (a4 : Int) (Q : iST → Prop) (u : iST) : Prop :=
  pw_feed_3 Q a0 a1 a2 a3 a4 0 u
theorem cj_w_feed {Q1 Q2 Q3 : iST → Prop}  {a0 : Int} {a1 : Int} {a2 : Int} {a3 : Int} {a4 : Int} {u : iST} (hQ : ∀ r0, Q1 r0 → Q2 r0 → Q3 r0) : w_feed a0 a1 a2 a3 a4 Q1 u → pw_feed a0 a1 a2 a3 a4 Q2 u → w_feed a0 a1 a2 a3 a4 Q3 u := (cj_w_feed_3  hQ)
theorem mn_w_feed {Q1 Q2 : iST → Prop}  {a0 : Int} {a1 : Int} {a2 : Int} {a3 : Int} {a4 : Int} {u : iST} (hQ : ∀ r0, Q1 r0 → Q2 r0) : pw_feed a0 a1 a2 a3 a4 Q1 u → pw_feed a0 a1 a2 a3 a4 Q2 u := (mn_w_feed_3  hQ)
theorem wp_w_feed {Q1 Q2 : iST → Prop}  {a0 : Int} {a1 : Int} {a2 : Int} {a3 : Int} {a4 : Int} {u : iST} (hQ : ∀ r0, Q1 r0 → Q2 r0) : w_feed a0 a1 a2 a3 a4 Q1 u → pw_feed a0 a1 a2 a3 a4 Q2 u := (wp_w_feed_3  hQ)
def pw_end_66b (R66 : Int → iST → Prop) (Q : Int → iST → Prop) (x2 : Int) (u : iST) : Prop :=
  br (20 ≤ x2) (
    rd (u.1 14) (fun v5 => 
    Q v5 u)) (
    bdp x2 20 (sw (iA u 12 x2 0) (fun u => 
    ovp (x2 + 1) (
    R66 (x2 + 1) u))))
theorem cj_w_end_66b {Q1 Q2 Q3 : Int → iST → Prop} {R661 R662 R663 : Int → iST → Prop} {x2 : Int} {u : iST} (hR66 : ∀ r0 r1, R661 r0 r1 → R662 r0 r1 → R663 r0 r1) (hQ : ∀ r0 r1, Q1 r0 r1 → Q2 r0 r1 → Q3 r0 r1) : w_end_66b R661 Q1 x2 u → pw_end_66b R662 Q2 x2 u → w_end_66b R663 Q3 x2 u := (br_cj (rd_cj fun _ => (hQ _ _)) (bd_cj (sw_cj fun _ => (ov_cj (hR66 _ _)))))
theorem mn_w_end_66b {Q1 Q2 : Int → iST → Prop} {R661 R662 : Int → iST → Prop} {x2 : Int} {u : iST} (hR66 : ∀ r0 r1, R661 r0 r1 → R662 r0 r1) (hQ : ∀ r0 r1, Q1 r0 r1 → Q2 r0 r1) : pw_end_66b R661 Q1 x2 u → pw_end_66b R662 Q2 x2 u := (br_mn (rd_mn fun _ => (hQ _ _)) (bd_mn (sw_mn fun _ => (ov_mn (hR66 _ _)))))
theorem wp_w_end_66b {Q1 Q2 : Int → iST → Prop} {R661 R662 : Int → iST → Prop} {x2 : Int} {u : iST} (hR66 : ∀ r0 r1, R661 r0 r1 → R662 r0 r1) (hQ : ∀ r0 r1, Q1 r0 r1 → Q2 r0 r1) : w_end_66b R661 Q1 x2 u → pw_end_66b R662 Q2 x2 u := (br_wp (rd_wp fun _ => (hQ _ _)) (bd_wp (sw_wp fun _ => (ov_wp (hR66 _ _)))))
def pw_end_66 (Q : Int → iST → Prop) (x2 : Int) (u : iST) : Prop := ∃ R66 : Int → iST → Prop, (∀ (x2 : Int) (u : iST), R66 x2 u → pw_end_66b R66 Q x2 u) ∧ R66 x2 u
theorem cj_w_end_66 {Q1 Q2 Q3 : Int → iST → Prop}  {x2 : Int} {u : iST} (hQ : ∀ r0 r1, Q1 r0 r1 → Q2 r0 r1 → Q3 r0 r1) : w_end_66 Q1 x2 u → pw_end_66 Q2 x2 u → w_end_66 Q3 x2 u := by
  intro a b R3 c3
  obtain ⟨R2, c2, b2⟩ := b
  exact a (fun r0 r1 => R2 r0 r1 → R3 r0 r1) (fun r0 r1 a b => c3 r0 r1 (cj_w_end_66b (fun r0 r1 a b => a b) hQ a (c2 r0 r1 b))) b2
theorem pw_end_66_i  {Q : Int → iST → Prop} {x2 : Int} {u : iST} (I : Int → iST → Prop) (s : ∀ (x2 : Int) (u : iST), I x2 u → pw_end_66b I Q x2 u) (h : I x2 u) : pw_end_66 Q x2 u := ⟨I, s, h⟩
theorem mn_w_end_66 {Q1 Q2 : Int → iST → Prop}  {x2 : Int} {u : iST} (hQ : ∀ r0 r1, Q1 r0 r1 → Q2 r0 r1) : pw_end_66 Q1 x2 u → pw_end_66 Q2 x2 u := fun ⟨R, s, h⟩ => ⟨R, fun r0 r1 a => mn_w_end_66b (fun r0 r1 a => a) hQ (s r0 r1 a), h⟩
theorem un_w_end_66  {Q : Int → iST → Prop} {x2 : Int} {u : iST} : pw_end_66 Q x2 u → pw_end_66b (fun x2 u => pw_end_66 Q x2 u) Q x2 u := fun ⟨R, s, h⟩ => mn_w_end_66b (fun r0 r1 a => ⟨R, s, a⟩) (fun _ _ h => h) (s _ _ h)
theorem fo_w_end_66  {Q : Int → iST → Prop} {x2 : Int} {u : iST} : pw_end_66b (fun x2 u => pw_end_66 Q x2 u) Q x2 u → pw_end_66 Q x2 u := fun h => ⟨fun x2 u => pw_end_66b (fun x2 u => pw_end_66 Q x2 u) Q x2 u, fun r0 r1 a => mn_w_end_66b (fun r0 r1 a => un_w_end_66 a) (fun _ _ h => h) a, h⟩
theorem wp_w_end_66 {Q1 Q2 : Int → iST → Prop}  {x2 : Int} {u : iST} (hQ : ∀ r0 r1, Q1 r0 r1 → Q2 r0 r1) : w_end_66 Q1 x2 u → pw_end_66 Q2 x2 u := fun a => a (fun x2 u => pw_end_66 Q2 x2 u) (fun x2 u b => fo_w_end_66 (wp_w_end_66b (fun r0 r1 a => a) hQ b))
def pw_end_26b (R26 : Int → Int → iST → Prop) (Q : Int → iST → Prop) (x1 : Int) (x2 : Int) (u : iST) : Prop :=
  br (x1 ≤ x2) (
    rd (u.1 14) (fun v3 => 
    ovp (v3 + x1) (
    sw (iI u 14 (v3 + x1)) (fun u => 
    pw_end_66 Q 0 u)))) (
    rd (u.1 14) (fun v7 => 
    ovp (v7 + x2) (
    bdp x2 20 (rd (u.2.1 12 x2) (fun v9 => 
    bdp (v7 + x2) 3000 (sw (iA u 13 (v7 + x2) v9) (fun u => 
    ovp (x2 + 1) (
    R26 x1 (x2 + 1) u))))))))
theorem cj_w_end_26b {Q1 Q2 Q3 : Int → iST → Prop} {R261 R262 R263 : Int → Int → iST → Prop} {x1 : Int} {x2 : Int} {u : iST} (hR26 : ∀ r0 r1 r2, R261 r0 r1 r2 → R262 r0 r1 r2 → R263 r0 r1 r2) (hQ : ∀ r0 r1, Q1 r0 r1 → Q2 r0 r1 → Q3 r0 r1) : w_end_26b R261 Q1 x1 x2 u → pw_end_26b R262 Q2 x1 x2 u → w_end_26b R263 Q3 x1 x2 u := (br_cj (rd_cj fun _ => (ov_cj (sw_cj fun _ => (cj_w_end_66  hQ)))) (rd_cj fun _ => (ov_cj (bd_cj (rd_cj fun _ => (bd_cj (sw_cj fun _ => (ov_cj (hR26 _ _ _)))))))))
theorem mn_w_end_26b {Q1 Q2 : Int → iST → Prop} {R261 R262 : Int → Int → iST → Prop} {x1 : Int} {x2 : Int} {u : iST} (hR26 : ∀ r0 r1 r2, R261 r0 r1 r2 → R262 r0 r1 r2) (hQ : ∀ r0 r1, Q1 r0 r1 → Q2 r0 r1) : pw_end_26b R261 Q1 x1 x2 u → pw_end_26b R262 Q2 x1 x2 u := (br_mn (rd_mn fun _ => (ov_mn (sw_mn fun _ => (mn_w_end_66  hQ)))) (rd_mn fun _ => (ov_mn (bd_mn (rd_mn fun _ => (bd_mn (sw_mn fun _ => (ov_mn (hR26 _ _ _)))))))))
theorem wp_w_end_26b {Q1 Q2 : Int → iST → Prop} {R261 R262 : Int → Int → iST → Prop} {x1 : Int} {x2 : Int} {u : iST} (hR26 : ∀ r0 r1 r2, R261 r0 r1 r2 → R262 r0 r1 r2) (hQ : ∀ r0 r1, Q1 r0 r1 → Q2 r0 r1) : w_end_26b R261 Q1 x1 x2 u → pw_end_26b R262 Q2 x1 x2 u := (br_wp (rd_wp fun _ => (ov_wp (sw_wp fun _ => (wp_w_end_66  hQ)))) (rd_wp fun _ => (ov_wp (bd_wp (rd_wp fun _ => (bd_wp (sw_wp fun _ => (ov_wp (hR26 _ _ _)))))))))
def pw_end_26 (Q : Int → iST → Prop) (x1 : Int) (x2 : Int) (u : iST) : Prop := ∃ R26 : Int → Int → iST → Prop, (∀ (x1 : Int) (x2 : Int) (u : iST), R26 x1 x2 u → pw_end_26b R26 Q x1 x2 u) ∧ R26 x1 x2 u
theorem cj_w_end_26 {Q1 Q2 Q3 : Int → iST → Prop}  {x1 : Int} {x2 : Int} {u : iST} (hQ : ∀ r0 r1, Q1 r0 r1 → Q2 r0 r1 → Q3 r0 r1) : w_end_26 Q1 x1 x2 u → pw_end_26 Q2 x1 x2 u → w_end_26 Q3 x1 x2 u := by
  intro a b R3 c3
  obtain ⟨R2, c2, b2⟩ := b
  exact a (fun r0 r1 r2 => R2 r0 r1 r2 → R3 r0 r1 r2) (fun r0 r1 r2 a b => c3 r0 r1 r2 (cj_w_end_26b (fun r0 r1 r2 a b => a b) hQ a (c2 r0 r1 r2 b))) b2
theorem pw_end_26_i  {Q : Int → iST → Prop} {x1 : Int} {x2 : Int} {u : iST} (I : Int → Int → iST → Prop) (s : ∀ (x1 : Int) (x2 : Int) (u : iST), I x1 x2 u → pw_end_26b I Q x1 x2 u) (h : I x1 x2 u) : pw_end_26 Q x1 x2 u := ⟨I, s, h⟩
theorem mn_w_end_26 {Q1 Q2 : Int → iST → Prop}  {x1 : Int} {x2 : Int} {u : iST} (hQ : ∀ r0 r1, Q1 r0 r1 → Q2 r0 r1) : pw_end_26 Q1 x1 x2 u → pw_end_26 Q2 x1 x2 u := fun ⟨R, s, h⟩ => ⟨R, fun r0 r1 r2 a => mn_w_end_26b (fun r0 r1 r2 a => a) hQ (s r0 r1 r2 a), h⟩
theorem un_w_end_26  {Q : Int → iST → Prop} {x1 : Int} {x2 : Int} {u : iST} : pw_end_26 Q x1 x2 u → pw_end_26b (fun x1 x2 u => pw_end_26 Q x1 x2 u) Q x1 x2 u := fun ⟨R, s, h⟩ => mn_w_end_26b (fun r0 r1 r2 a => ⟨R, s, a⟩) (fun _ _ h => h) (s _ _ _ h)
theorem fo_w_end_26  {Q : Int → iST → Prop} {x1 : Int} {x2 : Int} {u : iST} : pw_end_26b (fun x1 x2 u => pw_end_26 Q x1 x2 u) Q x1 x2 u → pw_end_26 Q x1 x2 u := fun h => ⟨fun x1 x2 u => pw_end_26b (fun x1 x2 u => pw_end_26 Q x1 x2 u) Q x1 x2 u, fun r0 r1 r2 a => mn_w_end_26b (fun r0 r1 r2 a => un_w_end_26 a) (fun _ _ h => h) a, h⟩
theorem wp_w_end_26 {Q1 Q2 : Int → iST → Prop}  {x1 : Int} {x2 : Int} {u : iST} (hQ : ∀ r0 r1, Q1 r0 r1 → Q2 r0 r1) : w_end_26 Q1 x1 x2 u → pw_end_26 Q2 x1 x2 u := fun a => a (fun x1 x2 u => pw_end_26 Q2 x1 x2 u) (fun x1 x2 u b => fo_w_end_26 (wp_w_end_26b (fun r0 r1 r2 a => a) hQ b))
def pw_end (a0 : Int) (Q : Int → iST → Prop) (u : iST) : Prop :=
  br (a0 < 0) (
    Q (-1) u) (
    br (20 < a0) (
      Q (-1) u) (
      rd (u.1 14) (fun v1 => 
      ovp (v1 + a0) (
      br ((v1 + a0) ≤ 3000) (
        pw_end_26 Q a0 0 u) (
        Q (-1) u)))))
theorem cj_w_end {Q1 Q2 Q3 : Int → iST → Prop}  {a0 : Int} {u : iST} (hQ : ∀ r0 r1, Q1 r0 r1 → Q2 r0 r1 → Q3 r0 r1) : w_end a0 Q1 u → pw_end a0 Q2 u → w_end a0 Q3 u := (br_cj (hQ _ _) (br_cj (hQ _ _) (rd_cj fun _ => (ov_cj (br_cj (cj_w_end_26  hQ) (hQ _ _))))))
theorem mn_w_end {Q1 Q2 : Int → iST → Prop}  {a0 : Int} {u : iST} (hQ : ∀ r0 r1, Q1 r0 r1 → Q2 r0 r1) : pw_end a0 Q1 u → pw_end a0 Q2 u := (br_mn (hQ _ _) (br_mn (hQ _ _) (rd_mn fun _ => (ov_mn (br_mn (mn_w_end_26  hQ) (hQ _ _))))))
theorem wp_w_end {Q1 Q2 : Int → iST → Prop}  {a0 : Int} {u : iST} (hQ : ∀ r0 r1, Q1 r0 r1 → Q2 r0 r1) : w_end a0 Q1 u → pw_end a0 Q2 u := (br_wp (hQ _ _) (br_wp (hQ _ _) (rd_wp fun _ => (ov_wp (br_wp (wp_w_end_26  hQ) (hQ _ _))))))
def pw_fuel (a0 : Int) (Q : Int → iST → Prop) (u : iST) : Prop :=
  br (a0 < 1) (
    Q (-1) u) (
    br (a0 ≤ 1000) (
      rd (u.1 59) (fun v1 => 
      sw (iI u 59 a0) (fun u => 
      Q v1 u))) (
      Q (-1) u))
theorem cj_w_fuel {Q1 Q2 Q3 : Int → iST → Prop}  {a0 : Int} {u : iST} (hQ : ∀ r0 r1, Q1 r0 r1 → Q2 r0 r1 → Q3 r0 r1) : w_fuel a0 Q1 u → pw_fuel a0 Q2 u → w_fuel a0 Q3 u := (br_cj (hQ _ _) (br_cj (rd_cj fun _ => (sw_cj fun _ => (hQ _ _))) (hQ _ _)))
theorem mn_w_fuel {Q1 Q2 : Int → iST → Prop}  {a0 : Int} {u : iST} (hQ : ∀ r0 r1, Q1 r0 r1 → Q2 r0 r1) : pw_fuel a0 Q1 u → pw_fuel a0 Q2 u := (br_mn (hQ _ _) (br_mn (rd_mn fun _ => (sw_mn fun _ => (hQ _ _))) (hQ _ _)))
theorem wp_w_fuel {Q1 Q2 : Int → iST → Prop}  {a0 : Int} {u : iST} (hQ : ∀ r0 r1, Q1 r0 r1 → Q2 r0 r1) : w_fuel a0 Q1 u → pw_fuel a0 Q2 u := (br_wp (hQ _ _) (br_wp (rd_wp fun _ => (sw_wp fun _ => (hQ _ _))) (hQ _ _)))
def pw_run_94 (Q : Int → iST → Prop) (x1 : Int) (x2 : Int) (u : iST) : Prop :=
  rd (u.1 54) (fun v7 => 
  br (x1 < v7) (
    Q x2 u) (
    rd (u.1 132) (fun v8 => 
    pw_forget v8 (fun u => 
    Q x2 u) u)))
theorem cj_w_run_94 {Q1 Q2 Q3 : Int → iST → Prop}  {x1 : Int} {x2 : Int} {u : iST} (hQ : ∀ r0 r1, Q1 r0 r1 → Q2 r0 r1 → Q3 r0 r1) : w_run_94 Q1 x1 x2 u → pw_run_94 Q2 x1 x2 u → w_run_94 Q3 x1 x2 u := (rd_cj fun _ => (br_cj (hQ _ _) (rd_cj fun _ => (cj_w_forget (fun _ => (hQ _ _))))))
theorem mn_w_run_94 {Q1 Q2 : Int → iST → Prop}  {x1 : Int} {x2 : Int} {u : iST} (hQ : ∀ r0 r1, Q1 r0 r1 → Q2 r0 r1) : pw_run_94 Q1 x1 x2 u → pw_run_94 Q2 x1 x2 u := (rd_mn fun _ => (br_mn (hQ _ _) (rd_mn fun _ => (mn_w_forget (fun _ => (hQ _ _))))))
theorem wp_w_run_94 {Q1 Q2 : Int → iST → Prop}  {x1 : Int} {x2 : Int} {u : iST} (hQ : ∀ r0 r1, Q1 r0 r1 → Q2 r0 r1) : w_run_94 Q1 x1 x2 u → pw_run_94 Q2 x1 x2 u := (rd_wp fun _ => (br_wp (hQ _ _) (rd_wp fun _ => (wp_w_forget (fun _ => (hQ _ _))))))
def pw_run (Q : Int → iST → Prop) (u : iST) : Prop :=
  sw (iI u 60 0) (fun u => 
  sw (iI u 61 0) (fun u => 
  ztp 0 (sw (iI u 62 0) (fun u => 
  sw (iI u 63 0) (fun u => 
  sw (iI u 16 0) (fun u => 
  rd (u.1 8) (fun v1 => 
  sw (iI u 132 v1) (fun u => 
  sw (iI u 117 0) (fun u => 
  pw_allRulesIn (fun u => 
  pw_reads (fun v3 u => 
  br (v3 ≠ 0) (
    rd (u.1 54) (fun v4 => 
    rd (u.1 33) (fun v5 => 
    pw_command v5 (fun v6 u => 
    sw (iI u 57 (-1)) (fun u => 
    br (v6 = 5) (
      pw_run_94 Q v4 v6 u) (
      br (v6 = 6) (
        pw_run_94 Q v4 v6 u) (
        sw (iI u 63 0) (fun u => 
        pw_run_94 Q v4 v6 u))))) u))) (
    rd (u.1 132) (fun v10 => 
    pw_forget v10 (fun u => 
    Q 1 u) u))) u) u)))))))))
theorem cj_w_run {Q1 Q2 Q3 : Int → iST → Prop}  {u : iST} (hQ : ∀ r0 r1, Q1 r0 r1 → Q2 r0 r1 → Q3 r0 r1) : w_run Q1 u → pw_run Q2 u → w_run Q3 u := (sw_cj fun _ => (sw_cj fun _ => (zt_cj (sw_cj fun _ => (sw_cj fun _ => (sw_cj fun _ => (rd_cj fun _ => (sw_cj fun _ => (sw_cj fun _ => (cj_w_allRulesIn (fun _ => (cj_w_reads (fun _ _ => (br_cj (rd_cj fun _ => (rd_cj fun _ => (cj_w_command (fun _ _ => (sw_cj fun _ => (br_cj (cj_w_run_94  hQ) (br_cj (cj_w_run_94  hQ) (sw_cj fun _ => (cj_w_run_94  hQ))))))))) (rd_cj fun _ => (cj_w_forget (fun _ => (hQ _ _))))))))))))))))))
theorem mn_w_run {Q1 Q2 : Int → iST → Prop}  {u : iST} (hQ : ∀ r0 r1, Q1 r0 r1 → Q2 r0 r1) : pw_run Q1 u → pw_run Q2 u := (sw_mn fun _ => (sw_mn fun _ => (zt_mn (sw_mn fun _ => (sw_mn fun _ => (sw_mn fun _ => (rd_mn fun _ => (sw_mn fun _ => (sw_mn fun _ => (mn_w_allRulesIn (fun _ => (mn_w_reads (fun _ _ => (br_mn (rd_mn fun _ => (rd_mn fun _ => (mn_w_command (fun _ _ => (sw_mn fun _ => (br_mn (mn_w_run_94  hQ) (br_mn (mn_w_run_94  hQ) (sw_mn fun _ => (mn_w_run_94  hQ))))))))) (rd_mn fun _ => (mn_w_forget (fun _ => (hQ _ _))))))))))))))))))
theorem wp_w_run {Q1 Q2 : Int → iST → Prop}  {u : iST} (hQ : ∀ r0 r1, Q1 r0 r1 → Q2 r0 r1) : w_run Q1 u → pw_run Q2 u := (sw_wp fun _ => (sw_wp fun _ => (zt_wp (sw_wp fun _ => (sw_wp fun _ => (sw_wp fun _ => (rd_wp fun _ => (sw_wp fun _ => (sw_wp fun _ => (wp_w_allRulesIn (fun _ => (wp_w_reads (fun _ _ => (br_wp (rd_wp fun _ => (rd_wp fun _ => (wp_w_command (fun _ _ => (sw_wp fun _ => (br_wp (wp_w_run_94  hQ) (br_wp (wp_w_run_94  hQ) (sw_wp fun _ => (wp_w_run_94  hQ))))))))) (rd_wp fun _ => (wp_w_forget (fun _ => (hQ _ _))))))))))))))))))
def pw_fault (a0 : Int) (Q : Int → iST → Prop) (u : iST) : Prop :=
  br (a0 ≠ 0) (
    br (a0 ≠ 1) (
      br (a0 ≠ 2) (
        Q (-1) u) (
        rd (u.1 61) (fun v1 => 
        Q v1 u))) (
      rd (u.1 25) (fun v2 => 
      Q v2 u))) (
    rd (u.1 24) (fun v3 => 
    Q v3 u))
theorem cj_w_fault {Q1 Q2 Q3 : Int → iST → Prop}  {a0 : Int} {u : iST} (hQ : ∀ r0 r1, Q1 r0 r1 → Q2 r0 r1 → Q3 r0 r1) : w_fault a0 Q1 u → pw_fault a0 Q2 u → w_fault a0 Q3 u := (br_cj (br_cj (br_cj (hQ _ _) (rd_cj fun _ => (hQ _ _))) (rd_cj fun _ => (hQ _ _))) (rd_cj fun _ => (hQ _ _)))
theorem mn_w_fault {Q1 Q2 : Int → iST → Prop}  {a0 : Int} {u : iST} (hQ : ∀ r0 r1, Q1 r0 r1 → Q2 r0 r1) : pw_fault a0 Q1 u → pw_fault a0 Q2 u := (br_mn (br_mn (br_mn (hQ _ _) (rd_mn fun _ => (hQ _ _))) (rd_mn fun _ => (hQ _ _))) (rd_mn fun _ => (hQ _ _)))
theorem wp_w_fault {Q1 Q2 : Int → iST → Prop}  {a0 : Int} {u : iST} (hQ : ∀ r0 r1, Q1 r0 r1 → Q2 r0 r1) : w_fault a0 Q1 u → pw_fault a0 Q2 u := (br_wp (br_wp (br_wp (hQ _ _) (rd_wp fun _ => (hQ _ _))) (rd_wp fun _ => (hQ _ _))) (rd_wp fun _ => (hQ _ _)))
def pw_steps (Q : Int → iST → Prop) (u : iST) : Prop :=
  rd (u.1 60) (fun v1 => 
  Q v1 u)
theorem cj_w_steps {Q1 Q2 Q3 : Int → iST → Prop}  {u : iST} (hQ : ∀ r0 r1, Q1 r0 r1 → Q2 r0 r1 → Q3 r0 r1) : w_steps Q1 u → pw_steps Q2 u → w_steps Q3 u := (rd_cj fun _ => (hQ _ _))
theorem mn_w_steps {Q1 Q2 : Int → iST → Prop}  {u : iST} (hQ : ∀ r0 r1, Q1 r0 r1 → Q2 r0 r1) : pw_steps Q1 u → pw_steps Q2 u := (rd_mn fun _ => (hQ _ _))
theorem wp_w_steps {Q1 Q2 : Int → iST → Prop}  {u : iST} (hQ : ∀ r0 r1, Q1 r0 r1 → Q2 r0 r1) : w_steps Q1 u → pw_steps Q2 u := (rd_wp fun _ => (hQ _ _))
def pw_count_61 (R7 : Int → Int → Int → Int → iST → Prop) (Q : Int → iST → Prop) (x1 : Int) (x2 : Int) (x4 : Int) (y0 : Int) (u : iST) : Prop :=
  ovp (y0 + 0) (
  ovp (x4 + 1) (
  R7 x1 x2 (y0 + 0) (x4 + 1) u))
theorem cj_w_count_61 {Q1 Q2 Q3 : Int → iST → Prop} {R71 R72 R73 : Int → Int → Int → Int → iST → Prop} {x1 : Int} {x2 : Int} {x4 : Int} {y0 : Int} {u : iST} (hR7 : ∀ r0 r1 r2 r3 r4, R71 r0 r1 r2 r3 r4 → R72 r0 r1 r2 r3 r4 → R73 r0 r1 r2 r3 r4) (hQ : ∀ r0 r1, Q1 r0 r1 → Q2 r0 r1 → Q3 r0 r1) : w_count_61 R71 Q1 x1 x2 x4 y0 u → pw_count_61 R72 Q2 x1 x2 x4 y0 u → w_count_61 R73 Q3 x1 x2 x4 y0 u := (ov_cj (ov_cj (hR7 _ _ _ _ _)))
theorem mn_w_count_61 {Q1 Q2 : Int → iST → Prop} {R71 R72 : Int → Int → Int → Int → iST → Prop} {x1 : Int} {x2 : Int} {x4 : Int} {y0 : Int} {u : iST} (hR7 : ∀ r0 r1 r2 r3 r4, R71 r0 r1 r2 r3 r4 → R72 r0 r1 r2 r3 r4) (hQ : ∀ r0 r1, Q1 r0 r1 → Q2 r0 r1) : pw_count_61 R71 Q1 x1 x2 x4 y0 u → pw_count_61 R72 Q2 x1 x2 x4 y0 u := (ov_mn (ov_mn (hR7 _ _ _ _ _)))
theorem wp_w_count_61 {Q1 Q2 : Int → iST → Prop} {R71 R72 : Int → Int → Int → Int → iST → Prop} {x1 : Int} {x2 : Int} {x4 : Int} {y0 : Int} {u : iST} (hR7 : ∀ r0 r1 r2 r3 r4, R71 r0 r1 r2 r3 r4 → R72 r0 r1 r2 r3 r4) (hQ : ∀ r0 r1, Q1 r0 r1 → Q2 r0 r1) : w_count_61 R71 Q1 x1 x2 x4 y0 u → pw_count_61 R72 Q2 x1 x2 x4 y0 u := (ov_wp (ov_wp (hR7 _ _ _ _ _)))
def pw_count_33 (R7 : Int → Int → Int → Int → iST → Prop) (Q : Int → iST → Prop) (x1 : Int) (x3 : Int) (x4 : Int) (y0 : Int) (y1 : Int) (u : iST) : Prop :=
  ovp (y0 + y1) (
  bdp x4 60 (rd (u.2.1 46 x4) (fun v7 => 
  br (v7 = (-1)) (
    pw_count_61 R7 Q x1 (y0 + y1) x4 x3 u) (
    bdp x4 60 (rz (u.2.1 52 x4) (fun v10 => 
    br (v10 = 0) (
      pw_count_61 R7 Q x1 (y0 + y1) x4 x3 u) (
      ovp (x3 + 1) (
      ovp (x4 + 1) (
      R7 x1 (y0 + y1) (x3 + 1) (x4 + 1) u)))))))))
theorem cj_w_count_33 {Q1 Q2 Q3 : Int → iST → Prop} {R71 R72 R73 : Int → Int → Int → Int → iST → Prop} {x1 : Int} {x3 : Int} {x4 : Int} {y0 : Int} {y1 : Int} {u : iST} (hR7 : ∀ r0 r1 r2 r3 r4, R71 r0 r1 r2 r3 r4 → R72 r0 r1 r2 r3 r4 → R73 r0 r1 r2 r3 r4) (hQ : ∀ r0 r1, Q1 r0 r1 → Q2 r0 r1 → Q3 r0 r1) : w_count_33 R71 Q1 x1 x3 x4 y0 y1 u → pw_count_33 R72 Q2 x1 x3 x4 y0 y1 u → w_count_33 R73 Q3 x1 x3 x4 y0 y1 u := (ov_cj (bd_cj (rd_cj fun _ => (br_cj (cj_w_count_61 hR7 hQ) (bd_cj (rz_cj fun _ => (br_cj (cj_w_count_61 hR7 hQ) (ov_cj (ov_cj (hR7 _ _ _ _ _))))))))))
theorem mn_w_count_33 {Q1 Q2 : Int → iST → Prop} {R71 R72 : Int → Int → Int → Int → iST → Prop} {x1 : Int} {x3 : Int} {x4 : Int} {y0 : Int} {y1 : Int} {u : iST} (hR7 : ∀ r0 r1 r2 r3 r4, R71 r0 r1 r2 r3 r4 → R72 r0 r1 r2 r3 r4) (hQ : ∀ r0 r1, Q1 r0 r1 → Q2 r0 r1) : pw_count_33 R71 Q1 x1 x3 x4 y0 y1 u → pw_count_33 R72 Q2 x1 x3 x4 y0 y1 u := (ov_mn (bd_mn (rd_mn fun _ => (br_mn (mn_w_count_61 hR7 hQ) (bd_mn (rz_mn fun _ => (br_mn (mn_w_count_61 hR7 hQ) (ov_mn (ov_mn (hR7 _ _ _ _ _))))))))))
theorem wp_w_count_33 {Q1 Q2 : Int → iST → Prop} {R71 R72 : Int → Int → Int → Int → iST → Prop} {x1 : Int} {x3 : Int} {x4 : Int} {y0 : Int} {y1 : Int} {u : iST} (hR7 : ∀ r0 r1 r2 r3 r4, R71 r0 r1 r2 r3 r4 → R72 r0 r1 r2 r3 r4) (hQ : ∀ r0 r1, Q1 r0 r1 → Q2 r0 r1) : w_count_33 R71 Q1 x1 x3 x4 y0 y1 u → pw_count_33 R72 Q2 x1 x3 x4 y0 y1 u := (ov_wp (bd_wp (rd_wp fun _ => (br_wp (wp_w_count_61 hR7 hQ) (bd_wp (rz_wp fun _ => (br_wp (wp_w_count_61 hR7 hQ) (ov_wp (ov_wp (hR7 _ _ _ _ _))))))))))
def pw_count_7b (R7 : Int → Int → Int → Int → iST → Prop) (Q : Int → iST → Prop) (x1 : Int) (x2 : Int) (x3 : Int) (x4 : Int) (u : iST) : Prop :=
  rd (u.1 42) (fun v1 => 
  br (v1 ≤ x4) (
    br (x1 ≠ 0) (
      br (x1 ≠ 1) (
        br (x1 ≠ 2) (
          br (x1 ≠ 3) (
            br (x1 ≠ 4) (
              Q (-1) u) (
              rd (u.1 63) (fun v2 => 
              Q v2 u))) (
            Q x3 u)) (
          Q x2 u)) (
        rd (u.1 42) (fun v3 => 
        Q v3 u))) (
      rd (u.1 35) (fun v4 => 
      Q v4 u))) (
    bdp x4 60 (rd (u.2.1 46 x4) (fun v5 => 
    br (v5 = (-1)) (
      pw_count_33 R7 Q x1 x3 x4 x2 0 u) (
      pw_count_33 R7 Q x1 x3 x4 x2 1 u)))))
theorem cj_w_count_7b {Q1 Q2 Q3 : Int → iST → Prop} {R71 R72 R73 : Int → Int → Int → Int → iST → Prop} {x1 : Int} {x2 : Int} {x3 : Int} {x4 : Int} {u : iST} (hR7 : ∀ r0 r1 r2 r3 r4, R71 r0 r1 r2 r3 r4 → R72 r0 r1 r2 r3 r4 → R73 r0 r1 r2 r3 r4) (hQ : ∀ r0 r1, Q1 r0 r1 → Q2 r0 r1 → Q3 r0 r1) : w_count_7b R71 Q1 x1 x2 x3 x4 u → pw_count_7b R72 Q2 x1 x2 x3 x4 u → w_count_7b R73 Q3 x1 x2 x3 x4 u := (rd_cj fun _ => (br_cj (br_cj (br_cj (br_cj (br_cj (br_cj (hQ _ _) (rd_cj fun _ => (hQ _ _))) (hQ _ _)) (hQ _ _)) (rd_cj fun _ => (hQ _ _))) (rd_cj fun _ => (hQ _ _))) (bd_cj (rd_cj fun _ => (br_cj (cj_w_count_33 hR7 hQ) (cj_w_count_33 hR7 hQ))))))
theorem mn_w_count_7b {Q1 Q2 : Int → iST → Prop} {R71 R72 : Int → Int → Int → Int → iST → Prop} {x1 : Int} {x2 : Int} {x3 : Int} {x4 : Int} {u : iST} (hR7 : ∀ r0 r1 r2 r3 r4, R71 r0 r1 r2 r3 r4 → R72 r0 r1 r2 r3 r4) (hQ : ∀ r0 r1, Q1 r0 r1 → Q2 r0 r1) : pw_count_7b R71 Q1 x1 x2 x3 x4 u → pw_count_7b R72 Q2 x1 x2 x3 x4 u := (rd_mn fun _ => (br_mn (br_mn (br_mn (br_mn (br_mn (br_mn (hQ _ _) (rd_mn fun _ => (hQ _ _))) (hQ _ _)) (hQ _ _)) (rd_mn fun _ => (hQ _ _))) (rd_mn fun _ => (hQ _ _))) (bd_mn (rd_mn fun _ => (br_mn (mn_w_count_33 hR7 hQ) (mn_w_count_33 hR7 hQ))))))
theorem wp_w_count_7b {Q1 Q2 : Int → iST → Prop} {R71 R72 : Int → Int → Int → Int → iST → Prop} {x1 : Int} {x2 : Int} {x3 : Int} {x4 : Int} {u : iST} (hR7 : ∀ r0 r1 r2 r3 r4, R71 r0 r1 r2 r3 r4 → R72 r0 r1 r2 r3 r4) (hQ : ∀ r0 r1, Q1 r0 r1 → Q2 r0 r1) : w_count_7b R71 Q1 x1 x2 x3 x4 u → pw_count_7b R72 Q2 x1 x2 x3 x4 u := (rd_wp fun _ => (br_wp (br_wp (br_wp (br_wp (br_wp (br_wp (hQ _ _) (rd_wp fun _ => (hQ _ _))) (hQ _ _)) (hQ _ _)) (rd_wp fun _ => (hQ _ _))) (rd_wp fun _ => (hQ _ _))) (bd_wp (rd_wp fun _ => (br_wp (wp_w_count_33 hR7 hQ) (wp_w_count_33 hR7 hQ))))))
def pw_count_7 (Q : Int → iST → Prop) (x1 : Int) (x2 : Int) (x3 : Int) (x4 : Int) (u : iST) : Prop := ∃ R7 : Int → Int → Int → Int → iST → Prop, (∀ (x1 : Int) (x2 : Int) (x3 : Int) (x4 : Int) (u : iST), R7 x1 x2 x3 x4 u → pw_count_7b R7 Q x1 x2 x3 x4 u) ∧ R7 x1 x2 x3 x4 u
theorem cj_w_count_7 {Q1 Q2 Q3 : Int → iST → Prop}  {x1 : Int} {x2 : Int} {x3 : Int} {x4 : Int} {u : iST} (hQ : ∀ r0 r1, Q1 r0 r1 → Q2 r0 r1 → Q3 r0 r1) : w_count_7 Q1 x1 x2 x3 x4 u → pw_count_7 Q2 x1 x2 x3 x4 u → w_count_7 Q3 x1 x2 x3 x4 u := by
  intro a b R3 c3
  obtain ⟨R2, c2, b2⟩ := b
  exact a (fun r0 r1 r2 r3 r4 => R2 r0 r1 r2 r3 r4 → R3 r0 r1 r2 r3 r4) (fun r0 r1 r2 r3 r4 a b => c3 r0 r1 r2 r3 r4 (cj_w_count_7b (fun r0 r1 r2 r3 r4 a b => a b) hQ a (c2 r0 r1 r2 r3 r4 b))) b2
theorem pw_count_7_i  {Q : Int → iST → Prop} {x1 : Int} {x2 : Int} {x3 : Int} {x4 : Int} {u : iST} (I : Int → Int → Int → Int → iST → Prop) (s : ∀ (x1 : Int) (x2 : Int) (x3 : Int) (x4 : Int) (u : iST), I x1 x2 x3 x4 u → pw_count_7b I Q x1 x2 x3 x4 u) (h : I x1 x2 x3 x4 u) : pw_count_7 Q x1 x2 x3 x4 u := ⟨I, s, h⟩
theorem mn_w_count_7 {Q1 Q2 : Int → iST → Prop}  {x1 : Int} {x2 : Int} {x3 : Int} {x4 : Int} {u : iST} (hQ : ∀ r0 r1, Q1 r0 r1 → Q2 r0 r1) : pw_count_7 Q1 x1 x2 x3 x4 u → pw_count_7 Q2 x1 x2 x3 x4 u := fun ⟨R, s, h⟩ => ⟨R, fun r0 r1 r2 r3 r4 a => mn_w_count_7b (fun r0 r1 r2 r3 r4 a => a) hQ (s r0 r1 r2 r3 r4 a), h⟩
theorem un_w_count_7  {Q : Int → iST → Prop} {x1 : Int} {x2 : Int} {x3 : Int} {x4 : Int} {u : iST} : pw_count_7 Q x1 x2 x3 x4 u → pw_count_7b (fun x1 x2 x3 x4 u => pw_count_7 Q x1 x2 x3 x4 u) Q x1 x2 x3 x4 u := fun ⟨R, s, h⟩ => mn_w_count_7b (fun r0 r1 r2 r3 r4 a => ⟨R, s, a⟩) (fun _ _ h => h) (s _ _ _ _ _ h)
theorem fo_w_count_7  {Q : Int → iST → Prop} {x1 : Int} {x2 : Int} {x3 : Int} {x4 : Int} {u : iST} : pw_count_7b (fun x1 x2 x3 x4 u => pw_count_7 Q x1 x2 x3 x4 u) Q x1 x2 x3 x4 u → pw_count_7 Q x1 x2 x3 x4 u := fun h => ⟨fun x1 x2 x3 x4 u => pw_count_7b (fun x1 x2 x3 x4 u => pw_count_7 Q x1 x2 x3 x4 u) Q x1 x2 x3 x4 u, fun r0 r1 r2 r3 r4 a => mn_w_count_7b (fun r0 r1 r2 r3 r4 a => un_w_count_7 a) (fun _ _ h => h) a, h⟩
theorem wp_w_count_7 {Q1 Q2 : Int → iST → Prop}  {x1 : Int} {x2 : Int} {x3 : Int} {x4 : Int} {u : iST} (hQ : ∀ r0 r1, Q1 r0 r1 → Q2 r0 r1) : w_count_7 Q1 x1 x2 x3 x4 u → pw_count_7 Q2 x1 x2 x3 x4 u := fun a => a (fun x1 x2 x3 x4 u => pw_count_7 Q2 x1 x2 x3 x4 u) (fun x1 x2 x3 x4 u b => fo_w_count_7 (wp_w_count_7b (fun r0 r1 r2 r3 r4 a => a) hQ b))
def pw_count (a0 : Int) (Q : Int → iST → Prop) (u : iST) : Prop :=
  pw_count_7 Q a0 0 0 0 u
theorem cj_w_count {Q1 Q2 Q3 : Int → iST → Prop}  {a0 : Int} {u : iST} (hQ : ∀ r0 r1, Q1 r0 r1 → Q2 r0 r1 → Q3 r0 r1) : w_count a0 Q1 u → pw_count a0 Q2 u → w_count a0 Q3 u := (cj_w_count_7  hQ)
theorem mn_w_count {Q1 Q2 : Int → iST → Prop}  {a0 : Int} {u : iST} (hQ : ∀ r0 r1, Q1 r0 r1 → Q2 r0 r1) : pw_count a0 Q1 u → pw_count a0 Q2 u := (mn_w_count_7  hQ)
theorem wp_w_count {Q1 Q2 : Int → iST → Prop}  {a0 : Int} {u : iST} (hQ : ∀ r0 r1, Q1 r0 r1 → Q2 r0 r1) : w_count a0 Q1 u → pw_count a0 Q2 u := (wp_w_count_7  hQ)
def pw_size (Q : Int → iST → Prop) (u : iST) : Prop :=
  rd (u.1 16) (fun v1 => 
  Q v1 u)
theorem cj_w_size {Q1 Q2 Q3 : Int → iST → Prop}  {u : iST} (hQ : ∀ r0 r1, Q1 r0 r1 → Q2 r0 r1 → Q3 r0 r1) : w_size Q1 u → pw_size Q2 u → w_size Q3 u := (rd_cj fun _ => (hQ _ _))
theorem mn_w_size {Q1 Q2 : Int → iST → Prop}  {u : iST} (hQ : ∀ r0 r1, Q1 r0 r1 → Q2 r0 r1) : pw_size Q1 u → pw_size Q2 u := (rd_mn fun _ => (hQ _ _))
theorem wp_w_size {Q1 Q2 : Int → iST → Prop}  {u : iST} (hQ : ∀ r0 r1, Q1 r0 r1 → Q2 r0 r1) : w_size Q1 u → pw_size Q2 u := (rd_wp fun _ => (hQ _ _))
def pw_letter (a0 : Int) (Q : Int → iST → Prop) (u : iST) : Prop :=
  br (a0 < 0) (
    Q (-1) u) (
    rd (u.1 16) (fun v1 => 
    br (v1 ≤ a0) (
      Q (-1) u) (
      bdp a0 2000 (rd (u.2.1 15 a0) (fun v2 => 
      Q v2 u)))))
theorem cj_w_letter {Q1 Q2 Q3 : Int → iST → Prop}  {a0 : Int} {u : iST} (hQ : ∀ r0 r1, Q1 r0 r1 → Q2 r0 r1 → Q3 r0 r1) : w_letter a0 Q1 u → pw_letter a0 Q2 u → w_letter a0 Q3 u := (br_cj (hQ _ _) (rd_cj fun _ => (br_cj (hQ _ _) (bd_cj (rd_cj fun _ => (hQ _ _))))))
theorem mn_w_letter {Q1 Q2 : Int → iST → Prop}  {a0 : Int} {u : iST} (hQ : ∀ r0 r1, Q1 r0 r1 → Q2 r0 r1) : pw_letter a0 Q1 u → pw_letter a0 Q2 u := (br_mn (hQ _ _) (rd_mn fun _ => (br_mn (hQ _ _) (bd_mn (rd_mn fun _ => (hQ _ _))))))
theorem wp_w_letter {Q1 Q2 : Int → iST → Prop}  {a0 : Int} {u : iST} (hQ : ∀ r0 r1, Q1 r0 r1 → Q2 r0 r1) : w_letter a0 Q1 u → pw_letter a0 Q2 u := (br_wp (hQ _ _) (rd_wp fun _ => (br_wp (hQ _ _) (bd_wp (rd_wp fun _ => (hQ _ _))))))
def pw_taken (a0 : Int) (Q : Int → iST → Prop) (u : iST) : Prop :=
  br (a0 < 0) (
    Q 0 u) (
    rd (u.1 54) (fun v1 => 
    br (v1 ≤ a0) (
      Q 0 u) (
      bdp a0 100 (rd (u.2.1 55 a0) (fun v2 => 
      Q v2 u)))))
theorem cj_w_taken {Q1 Q2 Q3 : Int → iST → Prop}  {a0 : Int} {u : iST} (hQ : ∀ r0 r1, Q1 r0 r1 → Q2 r0 r1 → Q3 r0 r1) : w_taken a0 Q1 u → pw_taken a0 Q2 u → w_taken a0 Q3 u := (br_cj (hQ _ _) (rd_cj fun _ => (br_cj (hQ _ _) (bd_cj (rd_cj fun _ => (hQ _ _))))))
theorem mn_w_taken {Q1 Q2 : Int → iST → Prop}  {a0 : Int} {u : iST} (hQ : ∀ r0 r1, Q1 r0 r1 → Q2 r0 r1) : pw_taken a0 Q1 u → pw_taken a0 Q2 u := (br_mn (hQ _ _) (rd_mn fun _ => (br_mn (hQ _ _) (bd_mn (rd_mn fun _ => (hQ _ _))))))
theorem wp_w_taken {Q1 Q2 : Int → iST → Prop}  {a0 : Int} {u : iST} (hQ : ∀ r0 r1, Q1 r0 r1 → Q2 r0 r1) : w_taken a0 Q1 u → pw_taken a0 Q2 u := (br_wp (hQ _ _) (rd_wp fun _ => (br_wp (hQ _ _) (bd_wp (rd_wp fun _ => (hQ _ _))))))
def pw_tell_225 (Q : Int → iST → Prop) (x2 : Int) (u : iST) : Prop :=
  pw_forget x2 (fun u => 
  rd (u.1 16) (fun v9 => 
  Q v9 u)) u
theorem cj_w_tell_225 {Q1 Q2 Q3 : Int → iST → Prop}  {x2 : Int} {u : iST} (hQ : ∀ r0 r1, Q1 r0 r1 → Q2 r0 r1 → Q3 r0 r1) : w_tell_225 Q1 x2 u → pw_tell_225 Q2 x2 u → w_tell_225 Q3 x2 u := (cj_w_forget (fun _ => (rd_cj fun _ => (hQ _ _))))
theorem mn_w_tell_225 {Q1 Q2 : Int → iST → Prop}  {x2 : Int} {u : iST} (hQ : ∀ r0 r1, Q1 r0 r1 → Q2 r0 r1) : pw_tell_225 Q1 x2 u → pw_tell_225 Q2 x2 u := (mn_w_forget (fun _ => (rd_mn fun _ => (hQ _ _))))
theorem wp_w_tell_225 {Q1 Q2 : Int → iST → Prop}  {x2 : Int} {u : iST} (hQ : ∀ r0 r1, Q1 r0 r1 → Q2 r0 r1) : w_tell_225 Q1 x2 u → pw_tell_225 Q2 x2 u := (wp_w_forget (fun _ => (rd_wp fun _ => (hQ _ _))))
def pw_tell_170 (Q : Int → iST → Prop) (x2 : Int) (x3 : Int) (x4 : Int) (y0 : Int) (u : iST) : Prop :=
  bdp x3 40 (rd (u.2.1 36 x3) (fun v15 => 
  pw_pair x4 y0 (fun v16 u => 
  pw_pair v15 v16 (fun v17 u => 
  pw_pair 17 v17 (fun v18 u => 
  pw_tellOut v18 (fun u => 
  pw_tell_225 Q x2 u) u) u) u) u))
theorem cj_w_tell_170 {Q1 Q2 Q3 : Int → iST → Prop}  {x2 : Int} {x3 : Int} {x4 : Int} {y0 : Int} {u : iST} (hQ : ∀ r0 r1, Q1 r0 r1 → Q2 r0 r1 → Q3 r0 r1) : w_tell_170 Q1 x2 x3 x4 y0 u → pw_tell_170 Q2 x2 x3 x4 y0 u → w_tell_170 Q3 x2 x3 x4 y0 u := (bd_cj (rd_cj fun _ => (cj_w_pair (fun _ _ => (cj_w_pair (fun _ _ => (cj_w_pair (fun _ _ => (cj_w_tellOut (fun _ => (cj_w_tell_225  hQ)))))))))))
theorem mn_w_tell_170 {Q1 Q2 : Int → iST → Prop}  {x2 : Int} {x3 : Int} {x4 : Int} {y0 : Int} {u : iST} (hQ : ∀ r0 r1, Q1 r0 r1 → Q2 r0 r1) : pw_tell_170 Q1 x2 x3 x4 y0 u → pw_tell_170 Q2 x2 x3 x4 y0 u := (bd_mn (rd_mn fun _ => (mn_w_pair (fun _ _ => (mn_w_pair (fun _ _ => (mn_w_pair (fun _ _ => (mn_w_tellOut (fun _ => (mn_w_tell_225  hQ)))))))))))
theorem wp_w_tell_170 {Q1 Q2 : Int → iST → Prop}  {x2 : Int} {x3 : Int} {x4 : Int} {y0 : Int} {u : iST} (hQ : ∀ r0 r1, Q1 r0 r1 → Q2 r0 r1) : w_tell_170 Q1 x2 x3 x4 y0 u → pw_tell_170 Q2 x2 x3 x4 y0 u := (bd_wp (rd_wp fun _ => (wp_w_pair (fun _ _ => (wp_w_pair (fun _ _ => (wp_w_pair (fun _ _ => (wp_w_tellOut (fun _ => (wp_w_tell_225  hQ)))))))))))
def pw_tell_101b (R101 : Int → Int → Int → Int → iST → Prop) (Q : Int → iST → Prop) (x2 : Int) (x3 : Int) (x4 : Int) (x5 : Int) (u : iST) : Prop :=
  br (x5 < 0) (
    bdp x3 40 (rz (u.2.1 41 x3) (fun v12 => 
    br (v12 = 0) (
      bdp x3 40 (rd (u.2.1 39 x3) (fun v13 => 
      pw_list1 v13 (fun v14 u => 
      pw_tell_170 Q x2 x3 x4 v14 u) u))) (
      bdp x3 40 (rd (u.2.1 39 x3) (fun v20 => 
      bdp x3 40 (rd (u.2.1 40 x3) (fun v21 => 
      pw_list2 v20 v21 (fun v22 u => 
      pw_tell_170 Q x2 x3 x4 v22 u) u)))))))) (
    ovp (6 * x3) (
    ovp ((6 * x3) + x5) (
    bdp ((6 * x3) + x5) 240 (rd (u.2.1 38 ((6 * x3) + x5)) (fun v25 => 
    pw_pair v25 x4 (fun v26 u => 
    ovp (x5 + (-1)) (
    R101 x2 x3 v26 (x5 + (-1)) u)) u)))))
theorem cj_w_tell_101b {Q1 Q2 Q3 : Int → iST → Prop} {R1011 R1012 R1013 : Int → Int → Int → Int → iST → Prop} {x2 : Int} {x3 : Int} {x4 : Int} {x5 : Int} {u : iST} (hR101 : ∀ r0 r1 r2 r3 r4, R1011 r0 r1 r2 r3 r4 → R1012 r0 r1 r2 r3 r4 → R1013 r0 r1 r2 r3 r4) (hQ : ∀ r0 r1, Q1 r0 r1 → Q2 r0 r1 → Q3 r0 r1) : w_tell_101b R1011 Q1 x2 x3 x4 x5 u → pw_tell_101b R1012 Q2 x2 x3 x4 x5 u → w_tell_101b R1013 Q3 x2 x3 x4 x5 u := (br_cj (bd_cj (rz_cj fun _ => (br_cj (bd_cj (rd_cj fun _ => (cj_w_list1 (fun _ _ => (cj_w_tell_170  hQ))))) (bd_cj (rd_cj fun _ => (bd_cj (rd_cj fun _ => (cj_w_list2 (fun _ _ => (cj_w_tell_170  hQ)))))))))) (ov_cj (ov_cj (bd_cj (rd_cj fun _ => (cj_w_pair (fun _ _ => (ov_cj (hR101 _ _ _ _ _)))))))))
theorem mn_w_tell_101b {Q1 Q2 : Int → iST → Prop} {R1011 R1012 : Int → Int → Int → Int → iST → Prop} {x2 : Int} {x3 : Int} {x4 : Int} {x5 : Int} {u : iST} (hR101 : ∀ r0 r1 r2 r3 r4, R1011 r0 r1 r2 r3 r4 → R1012 r0 r1 r2 r3 r4) (hQ : ∀ r0 r1, Q1 r0 r1 → Q2 r0 r1) : pw_tell_101b R1011 Q1 x2 x3 x4 x5 u → pw_tell_101b R1012 Q2 x2 x3 x4 x5 u := (br_mn (bd_mn (rz_mn fun _ => (br_mn (bd_mn (rd_mn fun _ => (mn_w_list1 (fun _ _ => (mn_w_tell_170  hQ))))) (bd_mn (rd_mn fun _ => (bd_mn (rd_mn fun _ => (mn_w_list2 (fun _ _ => (mn_w_tell_170  hQ)))))))))) (ov_mn (ov_mn (bd_mn (rd_mn fun _ => (mn_w_pair (fun _ _ => (ov_mn (hR101 _ _ _ _ _)))))))))
theorem wp_w_tell_101b {Q1 Q2 : Int → iST → Prop} {R1011 R1012 : Int → Int → Int → Int → iST → Prop} {x2 : Int} {x3 : Int} {x4 : Int} {x5 : Int} {u : iST} (hR101 : ∀ r0 r1 r2 r3 r4, R1011 r0 r1 r2 r3 r4 → R1012 r0 r1 r2 r3 r4) (hQ : ∀ r0 r1, Q1 r0 r1 → Q2 r0 r1) : w_tell_101b R1011 Q1 x2 x3 x4 x5 u → pw_tell_101b R1012 Q2 x2 x3 x4 x5 u := (br_wp (bd_wp (rz_wp fun _ => (br_wp (bd_wp (rd_wp fun _ => (wp_w_list1 (fun _ _ => (wp_w_tell_170  hQ))))) (bd_wp (rd_wp fun _ => (bd_wp (rd_wp fun _ => (wp_w_list2 (fun _ _ => (wp_w_tell_170  hQ)))))))))) (ov_wp (ov_wp (bd_wp (rd_wp fun _ => (wp_w_pair (fun _ _ => (ov_wp (hR101 _ _ _ _ _)))))))))
def pw_tell_101 (Q : Int → iST → Prop) (x2 : Int) (x3 : Int) (x4 : Int) (x5 : Int) (u : iST) : Prop := ∃ R101 : Int → Int → Int → Int → iST → Prop, (∀ (x2 : Int) (x3 : Int) (x4 : Int) (x5 : Int) (u : iST), R101 x2 x3 x4 x5 u → pw_tell_101b R101 Q x2 x3 x4 x5 u) ∧ R101 x2 x3 x4 x5 u
theorem cj_w_tell_101 {Q1 Q2 Q3 : Int → iST → Prop}  {x2 : Int} {x3 : Int} {x4 : Int} {x5 : Int} {u : iST} (hQ : ∀ r0 r1, Q1 r0 r1 → Q2 r0 r1 → Q3 r0 r1) : w_tell_101 Q1 x2 x3 x4 x5 u → pw_tell_101 Q2 x2 x3 x4 x5 u → w_tell_101 Q3 x2 x3 x4 x5 u := by
  intro a b R3 c3
  obtain ⟨R2, c2, b2⟩ := b
  exact a (fun r0 r1 r2 r3 r4 => R2 r0 r1 r2 r3 r4 → R3 r0 r1 r2 r3 r4) (fun r0 r1 r2 r3 r4 a b => c3 r0 r1 r2 r3 r4 (cj_w_tell_101b (fun r0 r1 r2 r3 r4 a b => a b) hQ a (c2 r0 r1 r2 r3 r4 b))) b2
theorem pw_tell_101_i  {Q : Int → iST → Prop} {x2 : Int} {x3 : Int} {x4 : Int} {x5 : Int} {u : iST} (I : Int → Int → Int → Int → iST → Prop) (s : ∀ (x2 : Int) (x3 : Int) (x4 : Int) (x5 : Int) (u : iST), I x2 x3 x4 x5 u → pw_tell_101b I Q x2 x3 x4 x5 u) (h : I x2 x3 x4 x5 u) : pw_tell_101 Q x2 x3 x4 x5 u := ⟨I, s, h⟩
theorem mn_w_tell_101 {Q1 Q2 : Int → iST → Prop}  {x2 : Int} {x3 : Int} {x4 : Int} {x5 : Int} {u : iST} (hQ : ∀ r0 r1, Q1 r0 r1 → Q2 r0 r1) : pw_tell_101 Q1 x2 x3 x4 x5 u → pw_tell_101 Q2 x2 x3 x4 x5 u := fun ⟨R, s, h⟩ => ⟨R, fun r0 r1 r2 r3 r4 a => mn_w_tell_101b (fun r0 r1 r2 r3 r4 a => a) hQ (s r0 r1 r2 r3 r4 a), h⟩
theorem un_w_tell_101  {Q : Int → iST → Prop} {x2 : Int} {x3 : Int} {x4 : Int} {x5 : Int} {u : iST} : pw_tell_101 Q x2 x3 x4 x5 u → pw_tell_101b (fun x2 x3 x4 x5 u => pw_tell_101 Q x2 x3 x4 x5 u) Q x2 x3 x4 x5 u := fun ⟨R, s, h⟩ => mn_w_tell_101b (fun r0 r1 r2 r3 r4 a => ⟨R, s, a⟩) (fun _ _ h => h) (s _ _ _ _ _ h)
theorem fo_w_tell_101  {Q : Int → iST → Prop} {x2 : Int} {x3 : Int} {x4 : Int} {x5 : Int} {u : iST} : pw_tell_101b (fun x2 x3 x4 x5 u => pw_tell_101 Q x2 x3 x4 x5 u) Q x2 x3 x4 x5 u → pw_tell_101 Q x2 x3 x4 x5 u := fun h => ⟨fun x2 x3 x4 x5 u => pw_tell_101b (fun x2 x3 x4 x5 u => pw_tell_101 Q x2 x3 x4 x5 u) Q x2 x3 x4 x5 u, fun r0 r1 r2 r3 r4 a => mn_w_tell_101b (fun r0 r1 r2 r3 r4 a => un_w_tell_101 a) (fun _ _ h => h) a, h⟩
theorem wp_w_tell_101 {Q1 Q2 : Int → iST → Prop}  {x2 : Int} {x3 : Int} {x4 : Int} {x5 : Int} {u : iST} (hQ : ∀ r0 r1, Q1 r0 r1 → Q2 r0 r1) : w_tell_101 Q1 x2 x3 x4 x5 u → pw_tell_101 Q2 x2 x3 x4 x5 u := fun a => a (fun x2 x3 x4 x5 u => pw_tell_101 Q2 x2 x3 x4 x5 u) (fun x2 x3 x4 x5 u b => fo_w_tell_101 (wp_w_tell_101b (fun r0 r1 r2 r3 r4 a => a) hQ b))
def pw_tell_62 (R24 : Int → Int → Int → Int → iST → Prop) (Q : Int → iST → Prop) (x1 : Int) (x2 : Int) (x4 : Int) (y0 : Int) (y1 : Int) (y2 : Int) (u : iST) : Prop :=
  br (y1 ≠ y2) (
    ovp (y0 + 0) (
    ovp (x4 + 1) (
    R24 x1 x2 (y0 + 0) (x4 + 1) u))) (
    ovp (y0 + 1) (
    ovp (x4 + 1) (
    R24 x1 x2 (y0 + 1) (x4 + 1) u)))
theorem cj_w_tell_62 {Q1 Q2 Q3 : Int → iST → Prop} {R241 R242 R243 : Int → Int → Int → Int → iST → Prop} {x1 : Int} {x2 : Int} {x4 : Int} {y0 : Int} {y1 : Int} {y2 : Int} {u : iST} (hR24 : ∀ r0 r1 r2 r3 r4, R241 r0 r1 r2 r3 r4 → R242 r0 r1 r2 r3 r4 → R243 r0 r1 r2 r3 r4) (hQ : ∀ r0 r1, Q1 r0 r1 → Q2 r0 r1 → Q3 r0 r1) : w_tell_62 R241 Q1 x1 x2 x4 y0 y1 y2 u → pw_tell_62 R242 Q2 x1 x2 x4 y0 y1 y2 u → w_tell_62 R243 Q3 x1 x2 x4 y0 y1 y2 u := (br_cj (ov_cj (ov_cj (hR24 _ _ _ _ _))) (ov_cj (ov_cj (hR24 _ _ _ _ _))))
theorem mn_w_tell_62 {Q1 Q2 : Int → iST → Prop} {R241 R242 : Int → Int → Int → Int → iST → Prop} {x1 : Int} {x2 : Int} {x4 : Int} {y0 : Int} {y1 : Int} {y2 : Int} {u : iST} (hR24 : ∀ r0 r1 r2 r3 r4, R241 r0 r1 r2 r3 r4 → R242 r0 r1 r2 r3 r4) (hQ : ∀ r0 r1, Q1 r0 r1 → Q2 r0 r1) : pw_tell_62 R241 Q1 x1 x2 x4 y0 y1 y2 u → pw_tell_62 R242 Q2 x1 x2 x4 y0 y1 y2 u := (br_mn (ov_mn (ov_mn (hR24 _ _ _ _ _))) (ov_mn (ov_mn (hR24 _ _ _ _ _))))
theorem wp_w_tell_62 {Q1 Q2 : Int → iST → Prop} {R241 R242 : Int → Int → Int → Int → iST → Prop} {x1 : Int} {x2 : Int} {x4 : Int} {y0 : Int} {y1 : Int} {y2 : Int} {u : iST} (hR24 : ∀ r0 r1 r2 r3 r4, R241 r0 r1 r2 r3 r4 → R242 r0 r1 r2 r3 r4) (hQ : ∀ r0 r1, Q1 r0 r1 → Q2 r0 r1) : w_tell_62 R241 Q1 x1 x2 x4 y0 y1 y2 u → pw_tell_62 R242 Q2 x1 x2 x4 y0 y1 y2 u := (br_wp (ov_wp (ov_wp (hR24 _ _ _ _ _))) (ov_wp (ov_wp (hR24 _ _ _ _ _))))
def pw_tell_47 (R24 : Int → Int → Int → Int → iST → Prop) (Q : Int → iST → Prop) (x1 : Int) (x2 : Int) (x4 : Int) (y0 : Int) (y1 : Int) (u : iST) : Prop :=
  bdp x1 100 (rd (u.2.1 55 x1) (fun v29 => 
  br (v29 ≠ 1) (
    pw_tell_62 R24 Q x1 x2 x4 y0 y1 0 u) (
    pw_tell_62 R24 Q x1 x2 x4 y0 y1 1 u)))
theorem cj_w_tell_47 {Q1 Q2 Q3 : Int → iST → Prop} {R241 R242 R243 : Int → Int → Int → Int → iST → Prop} {x1 : Int} {x2 : Int} {x4 : Int} {y0 : Int} {y1 : Int} {u : iST} (hR24 : ∀ r0 r1 r2 r3 r4, R241 r0 r1 r2 r3 r4 → R242 r0 r1 r2 r3 r4 → R243 r0 r1 r2 r3 r4) (hQ : ∀ r0 r1, Q1 r0 r1 → Q2 r0 r1 → Q3 r0 r1) : w_tell_47 R241 Q1 x1 x2 x4 y0 y1 u → pw_tell_47 R242 Q2 x1 x2 x4 y0 y1 u → w_tell_47 R243 Q3 x1 x2 x4 y0 y1 u := (bd_cj (rd_cj fun _ => (br_cj (cj_w_tell_62 hR24 hQ) (cj_w_tell_62 hR24 hQ))))
theorem mn_w_tell_47 {Q1 Q2 : Int → iST → Prop} {R241 R242 : Int → Int → Int → Int → iST → Prop} {x1 : Int} {x2 : Int} {x4 : Int} {y0 : Int} {y1 : Int} {u : iST} (hR24 : ∀ r0 r1 r2 r3 r4, R241 r0 r1 r2 r3 r4 → R242 r0 r1 r2 r3 r4) (hQ : ∀ r0 r1, Q1 r0 r1 → Q2 r0 r1) : pw_tell_47 R241 Q1 x1 x2 x4 y0 y1 u → pw_tell_47 R242 Q2 x1 x2 x4 y0 y1 u := (bd_mn (rd_mn fun _ => (br_mn (mn_w_tell_62 hR24 hQ) (mn_w_tell_62 hR24 hQ))))
theorem wp_w_tell_47 {Q1 Q2 : Int → iST → Prop} {R241 R242 : Int → Int → Int → Int → iST → Prop} {x1 : Int} {x2 : Int} {x4 : Int} {y0 : Int} {y1 : Int} {u : iST} (hR24 : ∀ r0 r1 r2 r3 r4, R241 r0 r1 r2 r3 r4 → R242 r0 r1 r2 r3 r4) (hQ : ∀ r0 r1, Q1 r0 r1 → Q2 r0 r1) : w_tell_47 R241 Q1 x1 x2 x4 y0 y1 u → pw_tell_47 R242 Q2 x1 x2 x4 y0 y1 u := (bd_wp (rd_wp fun _ => (br_wp (wp_w_tell_62 hR24 hQ) (wp_w_tell_62 hR24 hQ))))
def pw_tell_24b (R24 : Int → Int → Int → Int → iST → Prop) (Q : Int → iST → Prop) (x1 : Int) (x2 : Int) (x3 : Int) (x4 : Int) (u : iST) : Prop :=
  br (x1 ≤ x4) (
    bdp x1 100 (rd (u.2.1 55 x1) (fun v3 => 
    br (v3 ≠ 1) (
      bdp x3 60 (rd (u.2.1 43 x3) (fun v4 => 
      bdp x3 60 (rd (u.2.1 44 x3) (fun v5 => 
      pw_list3 18 v4 v5 (fun v6 u => 
      pw_tellOut v6 (fun u => 
      pw_tell_225 Q x2 u) u) u))))) (
      bdp x3 40 (rd (u.2.1 37 x3) (fun v10 => 
      ovp (v10 - 1) (
      pw_tell_101 Q x2 x3 0 (v10 - 1) u))))))) (
    bdp x4 100 (rd (u.2.1 55 x4) (fun v28 => 
    br (v28 ≠ 1) (
      pw_tell_47 R24 Q x1 x2 x4 x3 0 u) (
      pw_tell_47 R24 Q x1 x2 x4 x3 1 u))))
theorem cj_w_tell_24b {Q1 Q2 Q3 : Int → iST → Prop} {R241 R242 R243 : Int → Int → Int → Int → iST → Prop} {x1 : Int} {x2 : Int} {x3 : Int} {x4 : Int} {u : iST} (hR24 : ∀ r0 r1 r2 r3 r4, R241 r0 r1 r2 r3 r4 → R242 r0 r1 r2 r3 r4 → R243 r0 r1 r2 r3 r4) (hQ : ∀ r0 r1, Q1 r0 r1 → Q2 r0 r1 → Q3 r0 r1) : w_tell_24b R241 Q1 x1 x2 x3 x4 u → pw_tell_24b R242 Q2 x1 x2 x3 x4 u → w_tell_24b R243 Q3 x1 x2 x3 x4 u := (br_cj (bd_cj (rd_cj fun _ => (br_cj (bd_cj (rd_cj fun _ => (bd_cj (rd_cj fun _ => (cj_w_list3 (fun _ _ => (cj_w_tellOut (fun _ => (cj_w_tell_225  hQ))))))))) (bd_cj (rd_cj fun _ => (ov_cj (cj_w_tell_101  hQ))))))) (bd_cj (rd_cj fun _ => (br_cj (cj_w_tell_47 hR24 hQ) (cj_w_tell_47 hR24 hQ)))))
theorem mn_w_tell_24b {Q1 Q2 : Int → iST → Prop} {R241 R242 : Int → Int → Int → Int → iST → Prop} {x1 : Int} {x2 : Int} {x3 : Int} {x4 : Int} {u : iST} (hR24 : ∀ r0 r1 r2 r3 r4, R241 r0 r1 r2 r3 r4 → R242 r0 r1 r2 r3 r4) (hQ : ∀ r0 r1, Q1 r0 r1 → Q2 r0 r1) : pw_tell_24b R241 Q1 x1 x2 x3 x4 u → pw_tell_24b R242 Q2 x1 x2 x3 x4 u := (br_mn (bd_mn (rd_mn fun _ => (br_mn (bd_mn (rd_mn fun _ => (bd_mn (rd_mn fun _ => (mn_w_list3 (fun _ _ => (mn_w_tellOut (fun _ => (mn_w_tell_225  hQ))))))))) (bd_mn (rd_mn fun _ => (ov_mn (mn_w_tell_101  hQ))))))) (bd_mn (rd_mn fun _ => (br_mn (mn_w_tell_47 hR24 hQ) (mn_w_tell_47 hR24 hQ)))))
theorem wp_w_tell_24b {Q1 Q2 : Int → iST → Prop} {R241 R242 : Int → Int → Int → Int → iST → Prop} {x1 : Int} {x2 : Int} {x3 : Int} {x4 : Int} {u : iST} (hR24 : ∀ r0 r1 r2 r3 r4, R241 r0 r1 r2 r3 r4 → R242 r0 r1 r2 r3 r4) (hQ : ∀ r0 r1, Q1 r0 r1 → Q2 r0 r1) : w_tell_24b R241 Q1 x1 x2 x3 x4 u → pw_tell_24b R242 Q2 x1 x2 x3 x4 u := (br_wp (bd_wp (rd_wp fun _ => (br_wp (bd_wp (rd_wp fun _ => (bd_wp (rd_wp fun _ => (wp_w_list3 (fun _ _ => (wp_w_tellOut (fun _ => (wp_w_tell_225  hQ))))))))) (bd_wp (rd_wp fun _ => (ov_wp (wp_w_tell_101  hQ))))))) (bd_wp (rd_wp fun _ => (br_wp (wp_w_tell_47 hR24 hQ) (wp_w_tell_47 hR24 hQ)))))
def pw_tell_24 (Q : Int → iST → Prop) (x1 : Int) (x2 : Int) (x3 : Int) (x4 : Int) (u : iST) : Prop := ∃ R24 : Int → Int → Int → Int → iST → Prop, (∀ (x1 : Int) (x2 : Int) (x3 : Int) (x4 : Int) (u : iST), R24 x1 x2 x3 x4 u → pw_tell_24b R24 Q x1 x2 x3 x4 u) ∧ R24 x1 x2 x3 x4 u
theorem cj_w_tell_24 {Q1 Q2 Q3 : Int → iST → Prop}  {x1 : Int} {x2 : Int} {x3 : Int} {x4 : Int} {u : iST} (hQ : ∀ r0 r1, Q1 r0 r1 → Q2 r0 r1 → Q3 r0 r1) : w_tell_24 Q1 x1 x2 x3 x4 u → pw_tell_24 Q2 x1 x2 x3 x4 u → w_tell_24 Q3 x1 x2 x3 x4 u := by
  intro a b R3 c3
  obtain ⟨R2, c2, b2⟩ := b
  exact a (fun r0 r1 r2 r3 r4 => R2 r0 r1 r2 r3 r4 → R3 r0 r1 r2 r3 r4) (fun r0 r1 r2 r3 r4 a b => c3 r0 r1 r2 r3 r4 (cj_w_tell_24b (fun r0 r1 r2 r3 r4 a b => a b) hQ a (c2 r0 r1 r2 r3 r4 b))) b2
theorem pw_tell_24_i  {Q : Int → iST → Prop} {x1 : Int} {x2 : Int} {x3 : Int} {x4 : Int} {u : iST} (I : Int → Int → Int → Int → iST → Prop) (s : ∀ (x1 : Int) (x2 : Int) (x3 : Int) (x4 : Int) (u : iST), I x1 x2 x3 x4 u → pw_tell_24b I Q x1 x2 x3 x4 u) (h : I x1 x2 x3 x4 u) : pw_tell_24 Q x1 x2 x3 x4 u := ⟨I, s, h⟩
theorem mn_w_tell_24 {Q1 Q2 : Int → iST → Prop}  {x1 : Int} {x2 : Int} {x3 : Int} {x4 : Int} {u : iST} (hQ : ∀ r0 r1, Q1 r0 r1 → Q2 r0 r1) : pw_tell_24 Q1 x1 x2 x3 x4 u → pw_tell_24 Q2 x1 x2 x3 x4 u := fun ⟨R, s, h⟩ => ⟨R, fun r0 r1 r2 r3 r4 a => mn_w_tell_24b (fun r0 r1 r2 r3 r4 a => a) hQ (s r0 r1 r2 r3 r4 a), h⟩
theorem un_w_tell_24  {Q : Int → iST → Prop} {x1 : Int} {x2 : Int} {x3 : Int} {x4 : Int} {u : iST} : pw_tell_24 Q x1 x2 x3 x4 u → pw_tell_24b (fun x1 x2 x3 x4 u => pw_tell_24 Q x1 x2 x3 x4 u) Q x1 x2 x3 x4 u := fun ⟨R, s, h⟩ => mn_w_tell_24b (fun r0 r1 r2 r3 r4 a => ⟨R, s, a⟩) (fun _ _ h => h) (s _ _ _ _ _ h)
theorem fo_w_tell_24  {Q : Int → iST → Prop} {x1 : Int} {x2 : Int} {x3 : Int} {x4 : Int} {u : iST} : pw_tell_24b (fun x1 x2 x3 x4 u => pw_tell_24 Q x1 x2 x3 x4 u) Q x1 x2 x3 x4 u → pw_tell_24 Q x1 x2 x3 x4 u := fun h => ⟨fun x1 x2 x3 x4 u => pw_tell_24b (fun x1 x2 x3 x4 u => pw_tell_24 Q x1 x2 x3 x4 u) Q x1 x2 x3 x4 u, fun r0 r1 r2 r3 r4 a => mn_w_tell_24b (fun r0 r1 r2 r3 r4 a => un_w_tell_24 a) (fun _ _ h => h) a, h⟩
theorem wp_w_tell_24 {Q1 Q2 : Int → iST → Prop}  {x1 : Int} {x2 : Int} {x3 : Int} {x4 : Int} {u : iST} (hQ : ∀ r0 r1, Q1 r0 r1 → Q2 r0 r1) : w_tell_24 Q1 x1 x2 x3 x4 u → pw_tell_24 Q2 x1 x2 x3 x4 u := fun a => a (fun x1 x2 x3 x4 u => pw_tell_24 Q2 x1 x2 x3 x4 u) (fun x1 x2 x3 x4 u b => fo_w_tell_24 (wp_w_tell_24b (fun r0 r1 r2 r3 r4 a => a) hQ b))
def pw_tell (a0 : Int) (Q : Int → iST → Prop) (u : iST) : Prop :=
  br (a0 < 0) (
    Q (-1) u) (
    rd (u.1 54) (fun v1 => 
    br (a0 < v1) (
      rd (u.1 8) (fun v2 => 
      pw_tell_24 Q a0 v2 0 0 u)) (
      Q (-1) u)))
theorem cj_w_tell {Q1 Q2 Q3 : Int → iST → Prop}  {a0 : Int} {u : iST} (hQ : ∀ r0 r1, Q1 r0 r1 → Q2 r0 r1 → Q3 r0 r1) : w_tell a0 Q1 u → pw_tell a0 Q2 u → w_tell a0 Q3 u := (br_cj (hQ _ _) (rd_cj fun _ => (br_cj (rd_cj fun _ => (cj_w_tell_24  hQ)) (hQ _ _))))
theorem mn_w_tell {Q1 Q2 : Int → iST → Prop}  {a0 : Int} {u : iST} (hQ : ∀ r0 r1, Q1 r0 r1 → Q2 r0 r1) : pw_tell a0 Q1 u → pw_tell a0 Q2 u := (br_mn (hQ _ _) (rd_mn fun _ => (br_mn (rd_mn fun _ => (mn_w_tell_24  hQ)) (hQ _ _))))
theorem wp_w_tell {Q1 Q2 : Int → iST → Prop}  {a0 : Int} {u : iST} (hQ : ∀ r0 r1, Q1 r0 r1 → Q2 r0 r1) : w_tell a0 Q1 u → pw_tell a0 Q2 u := (br_wp (hQ _ _) (rd_wp fun _ => (br_wp (rd_wp fun _ => (wp_w_tell_24  hQ)) (hQ _ _))))
def pw_recheck (Q : Int → iST → Prop) (u : iST) : Prop :=
  rz (u.1 62) (fun v1 => 
  ztp v1 (Q v1 u))
theorem cj_w_recheck {Q1 Q2 Q3 : Int → iST → Prop}  {u : iST} (hQ : ∀ r0 r1, Q1 r0 r1 → Q2 r0 r1 → Q3 r0 r1) : w_recheck Q1 u → pw_recheck Q2 u → w_recheck Q3 u := (rz_cj fun _ => (zt_cj (hQ _ _)))
theorem mn_w_recheck {Q1 Q2 : Int → iST → Prop}  {u : iST} (hQ : ∀ r0 r1, Q1 r0 r1 → Q2 r0 r1) : pw_recheck Q1 u → pw_recheck Q2 u := (rz_mn fun _ => (zt_mn (hQ _ _)))
theorem wp_w_recheck {Q1 Q2 : Int → iST → Prop}  {u : iST} (hQ : ∀ r0 r1, Q1 r0 r1 → Q2 r0 r1) : w_recheck Q1 u → pw_recheck Q2 u := (rz_wp fun _ => (zt_wp (hQ _ _)))
