/-! partial readings: a check is a premise -/
def bdp (i n : Int) (P : Prop) : Prop := 0 ≤ i → i < n → P
def ovp (x : Int) (P : Prop) : Prop := inR x → P
def olp (x : Int) (P : Prop) : Prop := inL x → P
def ztp (x : Int) (P : Prop) : Prop := bz x → P
def nzp (x : Int) (P : Prop) : Prop := x ≠ 0 → P
theorem bd_cj {i n : Int} {A B C : Prop} (h : A → B → C) (a : bd i n A) (b : bdp i n B) : bd i n C := ⟨a.1, a.2.1, h a.2.2 (b a.1 a.2.1)⟩
theorem ov_cj {x : Int} {A B C : Prop} (h : A → B → C) (a : ov x A) (b : ovp x B) : ov x C := ⟨a.1, h a.2 (b a.1)⟩
theorem ol_cj {x : Int} {A B C : Prop} (h : A → B → C) (a : ol x A) (b : olp x B) : ol x C := ⟨a.1, h a.2 (b a.1)⟩
theorem zt_cj {x : Int} {A B C : Prop} (h : A → B → C) (a : zt x A) (b : ztp x B) : zt x C := ⟨a.1, h a.2 (b a.1)⟩
theorem nz_cj {x : Int} {A B C : Prop} (h : A → B → C) (a : nz x A) (b : nzp x B) : nz x C := ⟨a.1, h a.2 (b a.1)⟩
theorem rd_cj {x : Int} {A B C : Int → Prop} (h : ∀ v, A v → B v → C v) (a : rd x A) (b : rd x B) : rd x C := fun v e i => h v (a v e i) (b v e i)
theorem rz_cj {x : Int} {A B C : Int → Prop} (h : ∀ v, A v → B v → C v) (a : rz x A) (b : rz x B) : rz x C := fun v e i => h v (a v e i) (b v e i)
theorem rl_cj {x : Int} {A B C : Int → Prop} (h : ∀ v, A v → B v → C v) (a : rl x A) (b : rl x B) : rl x C := fun v e i => h v (a v e i) (b v e i)
theorem an_cj {c A B C : Prop} (h : A → B → C) (a : c ∧ A) (b : c ∧ B) : c ∧ C := ⟨a.1, h a.2 b.2⟩
theorem br_cj {c : Prop} {A B C A' B' C' : Prop} (h : A → B → C) (h' : A' → B' → C') (a : br c A A') (b : br c B B') : br c C C' := ⟨fun x => h (a.1 x) (b.1 x), fun x => h' (a.2 x) (b.2 x)⟩
theorem sw_cj {S : Type} {u : S} {A B C : S → Prop} (h : ∀ v, A v → B v → C v) (a : sw u A) (b : sw u B) : sw u C := fun v e => h v (a v e) (b v e)
theorem bd_mn {i n : Int} {A B : Prop} (h : A → B) (a : bdp i n A) : bdp i n B := fun x y => h (a x y)
theorem ov_mn {x : Int} {A B : Prop} (h : A → B) (a : ovp x A) : ovp x B := fun y => h (a y)
theorem ol_mn {x : Int} {A B : Prop} (h : A → B) (a : olp x A) : olp x B := fun y => h (a y)
theorem zt_mn {x : Int} {A B : Prop} (h : A → B) (a : ztp x A) : ztp x B := fun y => h (a y)
theorem nz_mn {x : Int} {A B : Prop} (h : A → B) (a : nzp x A) : nzp x B := fun y => h (a y)
theorem bd_wp {i n : Int} {A B : Prop} (h : A → B) (a : bd i n A) : bdp i n B := fun _ _ => h a.2.2
theorem ov_wp {x : Int} {A B : Prop} (h : A → B) (a : ov x A) : ovp x B := fun _ => h a.2
theorem ol_wp {x : Int} {A B : Prop} (h : A → B) (a : ol x A) : olp x B := fun _ => h a.2
theorem zt_wp {x : Int} {A B : Prop} (h : A → B) (a : zt x A) : ztp x B := fun _ => h a.2
theorem nz_wp {x : Int} {A B : Prop} (h : A → B) (a : nz x A) : nzp x B := fun _ => h a.2
theorem rd_mn {x : Int} {A B : Int → Prop} (h : ∀ v, A v → B v) (a : rd x A) : rd x B := fun v e i => h v (a v e i)
theorem rz_mn {x : Int} {A B : Int → Prop} (h : ∀ v, A v → B v) (a : rz x A) : rz x B := fun v e i => h v (a v e i)
theorem rl_mn {x : Int} {A B : Int → Prop} (h : ∀ v, A v → B v) (a : rl x A) : rl x B := fun v e i => h v (a v e i)
theorem an_mn {c A B : Prop} (h : A → B) (a : c ∧ A) : c ∧ B := ⟨a.1, h a.2⟩
theorem br_mn {c : Prop} {A B A' B' : Prop} (h : A → B) (h' : A' → B') (a : br c A A') : br c B B' := ⟨fun x => h (a.1 x), fun x => h' (a.2 x)⟩
theorem sw_mn {S : Type} {u : S} {A B : S → Prop} (h : ∀ v, A v → B v) (a : sw u A) : sw u B := fun v e => h v (a v e)
theorem rd_wp {x : Int} {A B : Int → Prop} (h : ∀ v, A v → B v) (a : rd x A) : rd x B := fun v e i => h v (a v e i)
theorem rz_wp {x : Int} {A B : Int → Prop} (h : ∀ v, A v → B v) (a : rz x A) : rz x B := fun v e i => h v (a v e i)
theorem rl_wp {x : Int} {A B : Int → Prop} (h : ∀ v, A v → B v) (a : rl x A) : rl x B := fun v e i => h v (a v e i)
theorem an_wp {c A B : Prop} (h : A → B) (a : c ∧ A) : c ∧ B := ⟨a.1, h a.2⟩
theorem br_wp {c : Prop} {A B A' B' : Prop} (h : A → B) (h' : A' → B') (a : br c A A') : br c B B' := ⟨fun x => h (a.1 x), fun x => h' (a.2 x)⟩
theorem sw_wp {S : Type} {u : S} {A B : S → Prop} (h : ∀ v, A v → B v) (a : sw u A) : sw u B := fun v e => h v (a v e)
def pw_spell (a0 : Int) (Q : iST → Prop) (u : iST) : Prop :=
  br (a0 ≠ 0) (
    rd (u.1 18) (fun v1 => 
    bdp v1 12 (sw (iA u 17 v1 a0) (fun u => 
    rd (u.1 18) (fun v2 => 
    ovp (v2 + 1) (
    sw (iI u 18 (v2 + 1)) (fun u => 
    Q u))))))) (
    Q u)
theorem cj_w_spell {Q1 Q2 Q3 : iST → Prop}  {a0 : Int} {u : iST} (hQ : ∀ r0, Q1 r0 → Q2 r0 → Q3 r0) : w_spell a0 Q1 u → pw_spell a0 Q2 u → w_spell a0 Q3 u := (br_cj (rd_cj fun _ => (bd_cj (sw_cj fun _ => (rd_cj fun _ => (ov_cj (sw_cj fun _ => (hQ _))))))) (hQ _))
theorem mn_w_spell {Q1 Q2 : iST → Prop}  {a0 : Int} {u : iST} (hQ : ∀ r0, Q1 r0 → Q2 r0) : pw_spell a0 Q1 u → pw_spell a0 Q2 u := (br_mn (rd_mn fun _ => (bd_mn (sw_mn fun _ => (rd_mn fun _ => (ov_mn (sw_mn fun _ => (hQ _))))))) (hQ _))
theorem wp_w_spell {Q1 Q2 : iST → Prop}  {a0 : Int} {u : iST} (hQ : ∀ r0, Q1 r0 → Q2 r0) : w_spell a0 Q1 u → pw_spell a0 Q2 u := (br_wp (rd_wp fun _ => (bd_wp (sw_wp fun _ => (rd_wp fun _ => (ov_wp (sw_wp fun _ => (hQ _))))))) (hQ _))
def pw_spelled_6b (R6 : Int → Int → Int → Int → Int → iST → Prop) (Q : Int → iST → Prop) (x1 : Int) (x2 : Int) (x3 : Int) (x4 : Int) (x5 : Int) (u : iST) : Prop :=
  br (x2 ≤ x5) (
    rd (wand x4 8191) (fun v1 => 
    Q v1 u)) (
    rd (wmul 131 x4) (fun v2 => 
    br (x3 = 0) (
      rd (wadd x1 x5) (fun v3 => 
      bdp v3 252000 (rd (u.2.1 9 v3) (fun v4 => 
      rd (wadd v2 v4) (fun v5 => 
      ovp (x5 + 1) (
      R6 x1 x2 x3 v5 (x5 + 1) u)))))) (
      bdp x5 12 (rd (u.2.1 17 x5) (fun v7 => 
      rd (wadd v2 v7) (fun v8 => 
      ovp (x5 + 1) (
      R6 x1 x2 x3 v8 (x5 + 1) u)))))))
theorem cj_w_spelled_6b {Q1 Q2 Q3 : Int → iST → Prop} {R61 R62 R63 : Int → Int → Int → Int → Int → iST → Prop} {x1 : Int} {x2 : Int} {x3 : Int} {x4 : Int} {x5 : Int} {u : iST} (hR6 : ∀ r0 r1 r2 r3 r4 r5, R61 r0 r1 r2 r3 r4 r5 → R62 r0 r1 r2 r3 r4 r5 → R63 r0 r1 r2 r3 r4 r5) (hQ : ∀ r0 r1, Q1 r0 r1 → Q2 r0 r1 → Q3 r0 r1) : w_spelled_6b R61 Q1 x1 x2 x3 x4 x5 u → pw_spelled_6b R62 Q2 x1 x2 x3 x4 x5 u → w_spelled_6b R63 Q3 x1 x2 x3 x4 x5 u := (br_cj (rd_cj fun _ => (hQ _ _)) (rd_cj fun _ => (br_cj (rd_cj fun _ => (bd_cj (rd_cj fun _ => (rd_cj fun _ => (ov_cj (hR6 _ _ _ _ _ _)))))) (bd_cj (rd_cj fun _ => (rd_cj fun _ => (ov_cj (hR6 _ _ _ _ _ _))))))))
theorem mn_w_spelled_6b {Q1 Q2 : Int → iST → Prop} {R61 R62 : Int → Int → Int → Int → Int → iST → Prop} {x1 : Int} {x2 : Int} {x3 : Int} {x4 : Int} {x5 : Int} {u : iST} (hR6 : ∀ r0 r1 r2 r3 r4 r5, R61 r0 r1 r2 r3 r4 r5 → R62 r0 r1 r2 r3 r4 r5) (hQ : ∀ r0 r1, Q1 r0 r1 → Q2 r0 r1) : pw_spelled_6b R61 Q1 x1 x2 x3 x4 x5 u → pw_spelled_6b R62 Q2 x1 x2 x3 x4 x5 u := (br_mn (rd_mn fun _ => (hQ _ _)) (rd_mn fun _ => (br_mn (rd_mn fun _ => (bd_mn (rd_mn fun _ => (rd_mn fun _ => (ov_mn (hR6 _ _ _ _ _ _)))))) (bd_mn (rd_mn fun _ => (rd_mn fun _ => (ov_mn (hR6 _ _ _ _ _ _))))))))
theorem wp_w_spelled_6b {Q1 Q2 : Int → iST → Prop} {R61 R62 : Int → Int → Int → Int → Int → iST → Prop} {x1 : Int} {x2 : Int} {x3 : Int} {x4 : Int} {x5 : Int} {u : iST} (hR6 : ∀ r0 r1 r2 r3 r4 r5, R61 r0 r1 r2 r3 r4 r5 → R62 r0 r1 r2 r3 r4 r5) (hQ : ∀ r0 r1, Q1 r0 r1 → Q2 r0 r1) : w_spelled_6b R61 Q1 x1 x2 x3 x4 x5 u → pw_spelled_6b R62 Q2 x1 x2 x3 x4 x5 u := (br_wp (rd_wp fun _ => (hQ _ _)) (rd_wp fun _ => (br_wp (rd_wp fun _ => (bd_wp (rd_wp fun _ => (rd_wp fun _ => (ov_wp (hR6 _ _ _ _ _ _)))))) (bd_wp (rd_wp fun _ => (rd_wp fun _ => (ov_wp (hR6 _ _ _ _ _ _))))))))
def pw_spelled_6 (Q : Int → iST → Prop) (x1 : Int) (x2 : Int) (x3 : Int) (x4 : Int) (x5 : Int) (u : iST) : Prop := ∃ R6 : Int → Int → Int → Int → Int → iST → Prop, (∀ (x1 : Int) (x2 : Int) (x3 : Int) (x4 : Int) (x5 : Int) (u : iST), R6 x1 x2 x3 x4 x5 u → pw_spelled_6b R6 Q x1 x2 x3 x4 x5 u) ∧ R6 x1 x2 x3 x4 x5 u
theorem cj_w_spelled_6 {Q1 Q2 Q3 : Int → iST → Prop}  {x1 : Int} {x2 : Int} {x3 : Int} {x4 : Int} {x5 : Int} {u : iST} (hQ : ∀ r0 r1, Q1 r0 r1 → Q2 r0 r1 → Q3 r0 r1) : w_spelled_6 Q1 x1 x2 x3 x4 x5 u → pw_spelled_6 Q2 x1 x2 x3 x4 x5 u → w_spelled_6 Q3 x1 x2 x3 x4 x5 u := by
  intro a b R3 c3
  obtain ⟨R2, c2, b2⟩ := b
  exact a (fun r0 r1 r2 r3 r4 r5 => R2 r0 r1 r2 r3 r4 r5 → R3 r0 r1 r2 r3 r4 r5) (fun r0 r1 r2 r3 r4 r5 a b => c3 r0 r1 r2 r3 r4 r5 (cj_w_spelled_6b (fun r0 r1 r2 r3 r4 r5 a b => a b) hQ a (c2 r0 r1 r2 r3 r4 r5 b))) b2
theorem pw_spelled_6_i  {Q : Int → iST → Prop} {x1 : Int} {x2 : Int} {x3 : Int} {x4 : Int} {x5 : Int} {u : iST} (I : Int → Int → Int → Int → Int → iST → Prop) (s : ∀ (x1 : Int) (x2 : Int) (x3 : Int) (x4 : Int) (x5 : Int) (u : iST), I x1 x2 x3 x4 x5 u → pw_spelled_6b I Q x1 x2 x3 x4 x5 u) (h : I x1 x2 x3 x4 x5 u) : pw_spelled_6 Q x1 x2 x3 x4 x5 u := ⟨I, s, h⟩
theorem mn_w_spelled_6 {Q1 Q2 : Int → iST → Prop}  {x1 : Int} {x2 : Int} {x3 : Int} {x4 : Int} {x5 : Int} {u : iST} (hQ : ∀ r0 r1, Q1 r0 r1 → Q2 r0 r1) : pw_spelled_6 Q1 x1 x2 x3 x4 x5 u → pw_spelled_6 Q2 x1 x2 x3 x4 x5 u := fun ⟨R, s, h⟩ => ⟨R, fun r0 r1 r2 r3 r4 r5 a => mn_w_spelled_6b (fun r0 r1 r2 r3 r4 r5 a => a) hQ (s r0 r1 r2 r3 r4 r5 a), h⟩
theorem un_w_spelled_6  {Q : Int → iST → Prop} {x1 : Int} {x2 : Int} {x3 : Int} {x4 : Int} {x5 : Int} {u : iST} : pw_spelled_6 Q x1 x2 x3 x4 x5 u → pw_spelled_6b (fun x1 x2 x3 x4 x5 u => pw_spelled_6 Q x1 x2 x3 x4 x5 u) Q x1 x2 x3 x4 x5 u := fun ⟨R, s, h⟩ => mn_w_spelled_6b (fun r0 r1 r2 r3 r4 r5 a => ⟨R, s, a⟩) (fun _ _ h => h) (s _ _ _ _ _ _ h)
theorem fo_w_spelled_6  {Q : Int → iST → Prop} {x1 : Int} {x2 : Int} {x3 : Int} {x4 : Int} {x5 : Int} {u : iST} : pw_spelled_6b (fun x1 x2 x3 x4 x5 u => pw_spelled_6 Q x1 x2 x3 x4 x5 u) Q x1 x2 x3 x4 x5 u → pw_spelled_6 Q x1 x2 x3 x4 x5 u := fun h => ⟨fun x1 x2 x3 x4 x5 u => pw_spelled_6b (fun x1 x2 x3 x4 x5 u => pw_spelled_6 Q x1 x2 x3 x4 x5 u) Q x1 x2 x3 x4 x5 u, fun r0 r1 r2 r3 r4 r5 a => mn_w_spelled_6b (fun r0 r1 r2 r3 r4 r5 a => un_w_spelled_6 a) (fun _ _ h => h) a, h⟩
theorem wp_w_spelled_6 {Q1 Q2 : Int → iST → Prop}  {x1 : Int} {x2 : Int} {x3 : Int} {x4 : Int} {x5 : Int} {u : iST} (hQ : ∀ r0 r1, Q1 r0 r1 → Q2 r0 r1) : w_spelled_6 Q1 x1 x2 x3 x4 x5 u → pw_spelled_6 Q2 x1 x2 x3 x4 x5 u := fun a => a (fun x1 x2 x3 x4 x5 u => pw_spelled_6 Q2 x1 x2 x3 x4 x5 u) (fun x1 x2 x3 x4 x5 u b => fo_w_spelled_6 (wp_w_spelled_6b (fun r0 r1 r2 r3 r4 r5 a => a) hQ b))
def pw_spelled (a0 : Int) (a1 : Int) (a2 : Int) (Q : Int → iST → Prop) (u : iST) : Prop :=
  pw_spelled_6 Q a0 a1 a2 5 0 u
theorem cj_w_spelled {Q1 Q2 Q3 : Int → iST → Prop}  {a0 : Int} {a1 : Int} {a2 : Int} {u : iST} (hQ : ∀ r0 r1, Q1 r0 r1 → Q2 r0 r1 → Q3 r0 r1) : w_spelled a0 a1 a2 Q1 u → pw_spelled a0 a1 a2 Q2 u → w_spelled a0 a1 a2 Q3 u := (cj_w_spelled_6  hQ)
theorem mn_w_spelled {Q1 Q2 : Int → iST → Prop}  {a0 : Int} {a1 : Int} {a2 : Int} {u : iST} (hQ : ∀ r0 r1, Q1 r0 r1 → Q2 r0 r1) : pw_spelled a0 a1 a2 Q1 u → pw_spelled a0 a1 a2 Q2 u := (mn_w_spelled_6  hQ)
theorem wp_w_spelled {Q1 Q2 : Int → iST → Prop}  {a0 : Int} {a1 : Int} {a2 : Int} {u : iST} (hQ : ∀ r0 r1, Q1 r0 r1 → Q2 r0 r1) : w_spelled a0 a1 a2 Q1 u → pw_spelled a0 a1 a2 Q2 u := (wp_w_spelled_6  hQ)
def pw_isWord_21b (R21 : Int → Int → Int → iST → Prop) (Q : Int → iST → Prop) (x1 : Int) (x2 : Int) (x3 : Int) (u : iST) : Prop :=
  rd (u.1 18) (fun v3 => 
  br (v3 ≤ x3) (
    ztp x2 (Q x2 u)) (
    br (x2 = 0) (
      ztp x2 (Q x2 u)) (
      ovp (12 * x1) (
      ovp ((12 * x1) + x3) (
      bdp ((12 * x1) + x3) 252000 (rd (u.2.1 9 ((12 * x1) + x3)) (fun v6 => 
      bdp x3 12 (rd (u.2.1 17 x3) (fun v7 => 
      br (v6 ≠ v7) (
        ovp (x3 + 1) (
        R21 x1 0 (x3 + 1) u)) (
        ovp (x3 + 1) (
        R21 x1 1 (x3 + 1) u)))))))))))
theorem cj_w_isWord_21b {Q1 Q2 Q3 : Int → iST → Prop} {R211 R212 R213 : Int → Int → Int → iST → Prop} {x1 : Int} {x2 : Int} {x3 : Int} {u : iST} (hR21 : ∀ r0 r1 r2 r3, R211 r0 r1 r2 r3 → R212 r0 r1 r2 r3 → R213 r0 r1 r2 r3) (hQ : ∀ r0 r1, Q1 r0 r1 → Q2 r0 r1 → Q3 r0 r1) : w_isWord_21b R211 Q1 x1 x2 x3 u → pw_isWord_21b R212 Q2 x1 x2 x3 u → w_isWord_21b R213 Q3 x1 x2 x3 u := (rd_cj fun _ => (br_cj (zt_cj (hQ _ _)) (br_cj (zt_cj (hQ _ _)) (ov_cj (ov_cj (bd_cj (rd_cj fun _ => (bd_cj (rd_cj fun _ => (br_cj (ov_cj (hR21 _ _ _ _)) (ov_cj (hR21 _ _ _ _))))))))))))
theorem mn_w_isWord_21b {Q1 Q2 : Int → iST → Prop} {R211 R212 : Int → Int → Int → iST → Prop} {x1 : Int} {x2 : Int} {x3 : Int} {u : iST} (hR21 : ∀ r0 r1 r2 r3, R211 r0 r1 r2 r3 → R212 r0 r1 r2 r3) (hQ : ∀ r0 r1, Q1 r0 r1 → Q2 r0 r1) : pw_isWord_21b R211 Q1 x1 x2 x3 u → pw_isWord_21b R212 Q2 x1 x2 x3 u := (rd_mn fun _ => (br_mn (zt_mn (hQ _ _)) (br_mn (zt_mn (hQ _ _)) (ov_mn (ov_mn (bd_mn (rd_mn fun _ => (bd_mn (rd_mn fun _ => (br_mn (ov_mn (hR21 _ _ _ _)) (ov_mn (hR21 _ _ _ _))))))))))))
theorem wp_w_isWord_21b {Q1 Q2 : Int → iST → Prop} {R211 R212 : Int → Int → Int → iST → Prop} {x1 : Int} {x2 : Int} {x3 : Int} {u : iST} (hR21 : ∀ r0 r1 r2 r3, R211 r0 r1 r2 r3 → R212 r0 r1 r2 r3) (hQ : ∀ r0 r1, Q1 r0 r1 → Q2 r0 r1) : w_isWord_21b R211 Q1 x1 x2 x3 u → pw_isWord_21b R212 Q2 x1 x2 x3 u := (rd_wp fun _ => (br_wp (zt_wp (hQ _ _)) (br_wp (zt_wp (hQ _ _)) (ov_wp (ov_wp (bd_wp (rd_wp fun _ => (bd_wp (rd_wp fun _ => (br_wp (ov_wp (hR21 _ _ _ _)) (ov_wp (hR21 _ _ _ _))))))))))))
def pw_isWord_21 (Q : Int → iST → Prop) (x1 : Int) (x2 : Int) (x3 : Int) (u : iST) : Prop := ∃ R21 : Int → Int → Int → iST → Prop, (∀ (x1 : Int) (x2 : Int) (x3 : Int) (u : iST), R21 x1 x2 x3 u → pw_isWord_21b R21 Q x1 x2 x3 u) ∧ R21 x1 x2 x3 u
theorem cj_w_isWord_21 {Q1 Q2 Q3 : Int → iST → Prop}  {x1 : Int} {x2 : Int} {x3 : Int} {u : iST} (hQ : ∀ r0 r1, Q1 r0 r1 → Q2 r0 r1 → Q3 r0 r1) : w_isWord_21 Q1 x1 x2 x3 u → pw_isWord_21 Q2 x1 x2 x3 u → w_isWord_21 Q3 x1 x2 x3 u := by
  intro a b R3 c3
  obtain ⟨R2, c2, b2⟩ := b
  exact a (fun r0 r1 r2 r3 => R2 r0 r1 r2 r3 → R3 r0 r1 r2 r3) (fun r0 r1 r2 r3 a b => c3 r0 r1 r2 r3 (cj_w_isWord_21b (fun r0 r1 r2 r3 a b => a b) hQ a (c2 r0 r1 r2 r3 b))) b2
theorem pw_isWord_21_i  {Q : Int → iST → Prop} {x1 : Int} {x2 : Int} {x3 : Int} {u : iST} (I : Int → Int → Int → iST → Prop) (s : ∀ (x1 : Int) (x2 : Int) (x3 : Int) (u : iST), I x1 x2 x3 u → pw_isWord_21b I Q x1 x2 x3 u) (h : I x1 x2 x3 u) : pw_isWord_21 Q x1 x2 x3 u := ⟨I, s, h⟩
theorem mn_w_isWord_21 {Q1 Q2 : Int → iST → Prop}  {x1 : Int} {x2 : Int} {x3 : Int} {u : iST} (hQ : ∀ r0 r1, Q1 r0 r1 → Q2 r0 r1) : pw_isWord_21 Q1 x1 x2 x3 u → pw_isWord_21 Q2 x1 x2 x3 u := fun ⟨R, s, h⟩ => ⟨R, fun r0 r1 r2 r3 a => mn_w_isWord_21b (fun r0 r1 r2 r3 a => a) hQ (s r0 r1 r2 r3 a), h⟩
theorem un_w_isWord_21  {Q : Int → iST → Prop} {x1 : Int} {x2 : Int} {x3 : Int} {u : iST} : pw_isWord_21 Q x1 x2 x3 u → pw_isWord_21b (fun x1 x2 x3 u => pw_isWord_21 Q x1 x2 x3 u) Q x1 x2 x3 u := fun ⟨R, s, h⟩ => mn_w_isWord_21b (fun r0 r1 r2 r3 a => ⟨R, s, a⟩) (fun _ _ h => h) (s _ _ _ _ h)
theorem fo_w_isWord_21  {Q : Int → iST → Prop} {x1 : Int} {x2 : Int} {x3 : Int} {u : iST} : pw_isWord_21b (fun x1 x2 x3 u => pw_isWord_21 Q x1 x2 x3 u) Q x1 x2 x3 u → pw_isWord_21 Q x1 x2 x3 u := fun h => ⟨fun x1 x2 x3 u => pw_isWord_21b (fun x1 x2 x3 u => pw_isWord_21 Q x1 x2 x3 u) Q x1 x2 x3 u, fun r0 r1 r2 r3 a => mn_w_isWord_21b (fun r0 r1 r2 r3 a => un_w_isWord_21 a) (fun _ _ h => h) a, h⟩
theorem wp_w_isWord_21 {Q1 Q2 : Int → iST → Prop}  {x1 : Int} {x2 : Int} {x3 : Int} {u : iST} (hQ : ∀ r0 r1, Q1 r0 r1 → Q2 r0 r1) : w_isWord_21 Q1 x1 x2 x3 u → pw_isWord_21 Q2 x1 x2 x3 u := fun a => a (fun x1 x2 x3 u => pw_isWord_21 Q2 x1 x2 x3 u) (fun x1 x2 x3 u b => fo_w_isWord_21 (wp_w_isWord_21b (fun r0 r1 r2 r3 a => a) hQ b))
def pw_isWord_18 (Q : Int → iST → Prop) (x1 : Int) (y0 : Int) (u : iST) : Prop :=
  pw_isWord_21 Q x1 y0 0 u
theorem cj_w_isWord_18 {Q1 Q2 Q3 : Int → iST → Prop}  {x1 : Int} {y0 : Int} {u : iST} (hQ : ∀ r0 r1, Q1 r0 r1 → Q2 r0 r1 → Q3 r0 r1) : w_isWord_18 Q1 x1 y0 u → pw_isWord_18 Q2 x1 y0 u → w_isWord_18 Q3 x1 y0 u := (cj_w_isWord_21  hQ)
theorem mn_w_isWord_18 {Q1 Q2 : Int → iST → Prop}  {x1 : Int} {y0 : Int} {u : iST} (hQ : ∀ r0 r1, Q1 r0 r1 → Q2 r0 r1) : pw_isWord_18 Q1 x1 y0 u → pw_isWord_18 Q2 x1 y0 u := (mn_w_isWord_21  hQ)
theorem wp_w_isWord_18 {Q1 Q2 : Int → iST → Prop}  {x1 : Int} {y0 : Int} {u : iST} (hQ : ∀ r0 r1, Q1 r0 r1 → Q2 r0 r1) : w_isWord_18 Q1 x1 y0 u → pw_isWord_18 Q2 x1 y0 u := (wp_w_isWord_21  hQ)
def pw_isWord (a0 : Int) (Q : Int → iST → Prop) (u : iST) : Prop :=
  bdp a0 21000 (rd (u.2.1 10 a0) (fun v1 => 
  rd (u.1 18) (fun v2 => 
  br (v1 ≠ v2) (
    pw_isWord_18 Q a0 0 u) (
    pw_isWord_18 Q a0 1 u))))
theorem cj_w_isWord {Q1 Q2 Q3 : Int → iST → Prop}  {a0 : Int} {u : iST} (hQ : ∀ r0 r1, Q1 r0 r1 → Q2 r0 r1 → Q3 r0 r1) : w_isWord a0 Q1 u → pw_isWord a0 Q2 u → w_isWord a0 Q3 u := (bd_cj (rd_cj fun _ => (rd_cj fun _ => (br_cj (cj_w_isWord_18  hQ) (cj_w_isWord_18  hQ)))))
theorem mn_w_isWord {Q1 Q2 : Int → iST → Prop}  {a0 : Int} {u : iST} (hQ : ∀ r0 r1, Q1 r0 r1 → Q2 r0 r1) : pw_isWord a0 Q1 u → pw_isWord a0 Q2 u := (bd_mn (rd_mn fun _ => (rd_mn fun _ => (br_mn (mn_w_isWord_18  hQ) (mn_w_isWord_18  hQ)))))
theorem wp_w_isWord {Q1 Q2 : Int → iST → Prop}  {a0 : Int} {u : iST} (hQ : ∀ r0 r1, Q1 r0 r1 → Q2 r0 r1) : w_isWord a0 Q1 u → pw_isWord a0 Q2 u := (bd_wp (rd_wp fun _ => (rd_wp fun _ => (br_wp (wp_w_isWord_18  hQ) (wp_w_isWord_18  hQ)))))
def pw_added_93 (Q : Int → iST → Prop) (x3 : Int) (y1 : Int) (y2 : Int) (u : iST) : Prop :=
  bdp y1 452000 (sw (iA u 4 y1 y2) (fun u => 
  rd (u.1 8) (fun v11 => 
  bdp x3 8192 (sw (iA u 7 x3 v11) (fun u => 
  rd (u.1 8) (fun v12 => 
  ovp (v12 + 1) (
  sw (iI u 8 (v12 + 1)) (fun u => 
  rd (u.1 8) (fun v14 => 
  ovp (v14 - 1) (
  Q (v14 - 1) u))))))))))
theorem cj_w_added_93 {Q1 Q2 Q3 : Int → iST → Prop}  {x3 : Int} {y1 : Int} {y2 : Int} {u : iST} (hQ : ∀ r0 r1, Q1 r0 r1 → Q2 r0 r1 → Q3 r0 r1) : w_added_93 Q1 x3 y1 y2 u → pw_added_93 Q2 x3 y1 y2 u → w_added_93 Q3 x3 y1 y2 u := (bd_cj (sw_cj fun _ => (rd_cj fun _ => (bd_cj (sw_cj fun _ => (rd_cj fun _ => (ov_cj (sw_cj fun _ => (rd_cj fun _ => (ov_cj (hQ _ _)))))))))))
theorem mn_w_added_93 {Q1 Q2 : Int → iST → Prop}  {x3 : Int} {y1 : Int} {y2 : Int} {u : iST} (hQ : ∀ r0 r1, Q1 r0 r1 → Q2 r0 r1) : pw_added_93 Q1 x3 y1 y2 u → pw_added_93 Q2 x3 y1 y2 u := (bd_mn (sw_mn fun _ => (rd_mn fun _ => (bd_mn (sw_mn fun _ => (rd_mn fun _ => (ov_mn (sw_mn fun _ => (rd_mn fun _ => (ov_mn (hQ _ _)))))))))))
theorem wp_w_added_93 {Q1 Q2 : Int → iST → Prop}  {x3 : Int} {y1 : Int} {y2 : Int} {u : iST} (hQ : ∀ r0 r1, Q1 r0 r1 → Q2 r0 r1) : w_added_93 Q1 x3 y1 y2 u → pw_added_93 Q2 x3 y1 y2 u := (bd_wp (sw_wp fun _ => (rd_wp fun _ => (bd_wp (sw_wp fun _ => (rd_wp fun _ => (ov_wp (sw_wp fun _ => (rd_wp fun _ => (ov_wp (hQ _ _)))))))))))
def pw_added_92 (Q : Int → iST → Prop) (x3 : Int) (y1 : Int) (y2 : Int) (y3 : Int) (u : iST) : Prop :=
  ovp (y2 + y3) (
  pw_added_93 Q x3 y1 (y2 + y3) u)
theorem cj_w_added_92 {Q1 Q2 Q3 : Int → iST → Prop}  {x3 : Int} {y1 : Int} {y2 : Int} {y3 : Int} {u : iST} (hQ : ∀ r0 r1, Q1 r0 r1 → Q2 r0 r1 → Q3 r0 r1) : w_added_92 Q1 x3 y1 y2 y3 u → pw_added_92 Q2 x3 y1 y2 y3 u → w_added_92 Q3 x3 y1 y2 y3 u := (ov_cj (cj_w_added_93  hQ))
theorem mn_w_added_92 {Q1 Q2 : Int → iST → Prop}  {x3 : Int} {y1 : Int} {y2 : Int} {y3 : Int} {u : iST} (hQ : ∀ r0 r1, Q1 r0 r1 → Q2 r0 r1) : pw_added_92 Q1 x3 y1 y2 y3 u → pw_added_92 Q2 x3 y1 y2 y3 u := (ov_mn (mn_w_added_93  hQ))
theorem wp_w_added_92 {Q1 Q2 : Int → iST → Prop}  {x3 : Int} {y1 : Int} {y2 : Int} {y3 : Int} {u : iST} (hQ : ∀ r0 r1, Q1 r0 r1 → Q2 r0 r1) : w_added_92 Q1 x3 y1 y2 y3 u → pw_added_92 Q2 x3 y1 y2 y3 u := (ov_wp (wp_w_added_93  hQ))
def pw_added (a0 : Int) (a1 : Int) (a2 : Int) (Q : Int → iST → Prop) (u : iST) : Prop :=
  rd (u.1 8) (fun v1 => 
  bdp v1 452000 (sw (iA u 0 v1 a0) (fun u => 
  rd (u.1 8) (fun v2 => 
  bdp v2 452000 (sw (iA u 1 v2 a1) (fun u => 
  rd (u.1 8) (fun v3 => 
  bdp a2 8192 (rd (u.2.1 7 a2) (fun v4 => 
  bdp v3 452000 (sw (iA u 2 v3 v4) (fun u => 
  rd (u.1 8) (fun v5 => 
  bdp v5 452000 (sw (iA u 3 v5 0) (fun u => 
  rd (u.1 8) (fun v6 => 
  br (0 ≤ a0) (
    bdp a0 452000 (rd (u.2.1 4 a0) (fun v7 => 
    bdp a1 452000 (rd (u.2.1 4 a1) (fun v8 => 
    br (v7 ≤ v8) (
      bdp a1 452000 (rd (u.2.1 4 a1) (fun v9 => 
      pw_added_92 Q a2 v6 1 v9 u))) (
      bdp a0 452000 (rd (u.2.1 4 a0) (fun v16 => 
      pw_added_92 Q a2 v6 1 v16 u)))))))) (
    pw_added_93 Q a2 v6 0 u))))))))))))))))
theorem cj_w_added {Q1 Q2 Q3 : Int → iST → Prop}  {a0 : Int} {a1 : Int} {a2 : Int} {u : iST} (hQ : ∀ r0 r1, Q1 r0 r1 → Q2 r0 r1 → Q3 r0 r1) : w_added a0 a1 a2 Q1 u → pw_added a0 a1 a2 Q2 u → w_added a0 a1 a2 Q3 u := (rd_cj fun _ => (bd_cj (sw_cj fun _ => (rd_cj fun _ => (bd_cj (sw_cj fun _ => (rd_cj fun _ => (bd_cj (rd_cj fun _ => (bd_cj (sw_cj fun _ => (rd_cj fun _ => (bd_cj (sw_cj fun _ => (rd_cj fun _ => (br_cj (bd_cj (rd_cj fun _ => (bd_cj (rd_cj fun _ => (br_cj (bd_cj (rd_cj fun _ => (cj_w_added_92  hQ))) (bd_cj (rd_cj fun _ => (cj_w_added_92  hQ)))))))) (cj_w_added_93  hQ)))))))))))))))))
theorem mn_w_added {Q1 Q2 : Int → iST → Prop}  {a0 : Int} {a1 : Int} {a2 : Int} {u : iST} (hQ : ∀ r0 r1, Q1 r0 r1 → Q2 r0 r1) : pw_added a0 a1 a2 Q1 u → pw_added a0 a1 a2 Q2 u := (rd_mn fun _ => (bd_mn (sw_mn fun _ => (rd_mn fun _ => (bd_mn (sw_mn fun _ => (rd_mn fun _ => (bd_mn (rd_mn fun _ => (bd_mn (sw_mn fun _ => (rd_mn fun _ => (bd_mn (sw_mn fun _ => (rd_mn fun _ => (br_mn (bd_mn (rd_mn fun _ => (bd_mn (rd_mn fun _ => (br_mn (bd_mn (rd_mn fun _ => (mn_w_added_92  hQ))) (bd_mn (rd_mn fun _ => (mn_w_added_92  hQ)))))))) (mn_w_added_93  hQ)))))))))))))))))
theorem wp_w_added {Q1 Q2 : Int → iST → Prop}  {a0 : Int} {a1 : Int} {a2 : Int} {u : iST} (hQ : ∀ r0 r1, Q1 r0 r1 → Q2 r0 r1) : w_added a0 a1 a2 Q1 u → pw_added a0 a1 a2 Q2 u := (rd_wp fun _ => (bd_wp (sw_wp fun _ => (rd_wp fun _ => (bd_wp (sw_wp fun _ => (rd_wp fun _ => (bd_wp (rd_wp fun _ => (bd_wp (sw_wp fun _ => (rd_wp fun _ => (bd_wp (sw_wp fun _ => (rd_wp fun _ => (br_wp (bd_wp (rd_wp fun _ => (bd_wp (rd_wp fun _ => (br_wp (bd_wp (rd_wp fun _ => (wp_w_added_92  hQ))) (bd_wp (rd_wp fun _ => (wp_w_added_92  hQ)))))))) (wp_w_added_93  hQ)))))))))))))))))
def pw_symbol_74b (R74 : Int → Int → iST → Prop) (Q : Int → iST → Prop) (x1 : Int) (x2 : Int) (u : iST) : Prop :=
  rd (u.1 18) (fun v6 => 
  br (v6 ≤ x2) (
    rd (u.1 11) (fun v7 => 
    ovp (v7 + 1) (
    sw (iI u 11 (v7 + 1)) (fun u => 
    rd (u.1 11) (fun v9 => 
    ovp (v9 - 1) (
    pw_added (-2) (v9 - 1) x1 (fun v11 u => 
    Q v11 u) u)))))) (
    rd (u.1 11) (fun v12 => 
    ovp (12 * v12) (
    ovp ((12 * v12) + x2) (
    bdp x2 12 (rd (u.2.1 17 x2) (fun v15 => 
    bdp ((12 * v12) + x2) 252000 (sw (iA u 9 ((12 * v12) + x2) v15) (fun u => 
    ovp (x2 + 1) (
    R74 x1 (x2 + 1) u))))))))))
theorem cj_w_symbol_74b {Q1 Q2 Q3 : Int → iST → Prop} {R741 R742 R743 : Int → Int → iST → Prop} {x1 : Int} {x2 : Int} {u : iST} (hR74 : ∀ r0 r1 r2, R741 r0 r1 r2 → R742 r0 r1 r2 → R743 r0 r1 r2) (hQ : ∀ r0 r1, Q1 r0 r1 → Q2 r0 r1 → Q3 r0 r1) : w_symbol_74b R741 Q1 x1 x2 u → pw_symbol_74b R742 Q2 x1 x2 u → w_symbol_74b R743 Q3 x1 x2 u := (rd_cj fun _ => (br_cj (rd_cj fun _ => (ov_cj (sw_cj fun _ => (rd_cj fun _ => (ov_cj (cj_w_added (fun _ _ => (hQ _ _)))))))) (rd_cj fun _ => (ov_cj (ov_cj (bd_cj (rd_cj fun _ => (bd_cj (sw_cj fun _ => (ov_cj (hR74 _ _ _)))))))))))
theorem mn_w_symbol_74b {Q1 Q2 : Int → iST → Prop} {R741 R742 : Int → Int → iST → Prop} {x1 : Int} {x2 : Int} {u : iST} (hR74 : ∀ r0 r1 r2, R741 r0 r1 r2 → R742 r0 r1 r2) (hQ : ∀ r0 r1, Q1 r0 r1 → Q2 r0 r1) : pw_symbol_74b R741 Q1 x1 x2 u → pw_symbol_74b R742 Q2 x1 x2 u := (rd_mn fun _ => (br_mn (rd_mn fun _ => (ov_mn (sw_mn fun _ => (rd_mn fun _ => (ov_mn (mn_w_added (fun _ _ => (hQ _ _)))))))) (rd_mn fun _ => (ov_mn (ov_mn (bd_mn (rd_mn fun _ => (bd_mn (sw_mn fun _ => (ov_mn (hR74 _ _ _)))))))))))
theorem wp_w_symbol_74b {Q1 Q2 : Int → iST → Prop} {R741 R742 : Int → Int → iST → Prop} {x1 : Int} {x2 : Int} {u : iST} (hR74 : ∀ r0 r1 r2, R741 r0 r1 r2 → R742 r0 r1 r2) (hQ : ∀ r0 r1, Q1 r0 r1 → Q2 r0 r1) : w_symbol_74b R741 Q1 x1 x2 u → pw_symbol_74b R742 Q2 x1 x2 u := (rd_wp fun _ => (br_wp (rd_wp fun _ => (ov_wp (sw_wp fun _ => (rd_wp fun _ => (ov_wp (wp_w_added (fun _ _ => (hQ _ _)))))))) (rd_wp fun _ => (ov_wp (ov_wp (bd_wp (rd_wp fun _ => (bd_wp (sw_wp fun _ => (ov_wp (hR74 _ _ _)))))))))))
def pw_symbol_74 (Q : Int → iST → Prop) (x1 : Int) (x2 : Int) (u : iST) : Prop := ∃ R74 : Int → Int → iST → Prop, (∀ (x1 : Int) (x2 : Int) (u : iST), R74 x1 x2 u → pw_symbol_74b R74 Q x1 x2 u) ∧ R74 x1 x2 u
theorem cj_w_symbol_74 {Q1 Q2 Q3 : Int → iST → Prop}  {x1 : Int} {x2 : Int} {u : iST} (hQ : ∀ r0 r1, Q1 r0 r1 → Q2 r0 r1 → Q3 r0 r1) : w_symbol_74 Q1 x1 x2 u → pw_symbol_74 Q2 x1 x2 u → w_symbol_74 Q3 x1 x2 u := by
  intro a b R3 c3
  obtain ⟨R2, c2, b2⟩ := b
  exact a (fun r0 r1 r2 => R2 r0 r1 r2 → R3 r0 r1 r2) (fun r0 r1 r2 a b => c3 r0 r1 r2 (cj_w_symbol_74b (fun r0 r1 r2 a b => a b) hQ a (c2 r0 r1 r2 b))) b2
theorem pw_symbol_74_i  {Q : Int → iST → Prop} {x1 : Int} {x2 : Int} {u : iST} (I : Int → Int → iST → Prop) (s : ∀ (x1 : Int) (x2 : Int) (u : iST), I x1 x2 u → pw_symbol_74b I Q x1 x2 u) (h : I x1 x2 u) : pw_symbol_74 Q x1 x2 u := ⟨I, s, h⟩
theorem mn_w_symbol_74 {Q1 Q2 : Int → iST → Prop}  {x1 : Int} {x2 : Int} {u : iST} (hQ : ∀ r0 r1, Q1 r0 r1 → Q2 r0 r1) : pw_symbol_74 Q1 x1 x2 u → pw_symbol_74 Q2 x1 x2 u := fun ⟨R, s, h⟩ => ⟨R, fun r0 r1 r2 a => mn_w_symbol_74b (fun r0 r1 r2 a => a) hQ (s r0 r1 r2 a), h⟩
theorem un_w_symbol_74  {Q : Int → iST → Prop} {x1 : Int} {x2 : Int} {u : iST} : pw_symbol_74 Q x1 x2 u → pw_symbol_74b (fun x1 x2 u => pw_symbol_74 Q x1 x2 u) Q x1 x2 u := fun ⟨R, s, h⟩ => mn_w_symbol_74b (fun r0 r1 r2 a => ⟨R, s, a⟩) (fun _ _ h => h) (s _ _ _ h)
theorem fo_w_symbol_74  {Q : Int → iST → Prop} {x1 : Int} {x2 : Int} {u : iST} : pw_symbol_74b (fun x1 x2 u => pw_symbol_74 Q x1 x2 u) Q x1 x2 u → pw_symbol_74 Q x1 x2 u := fun h => ⟨fun x1 x2 u => pw_symbol_74b (fun x1 x2 u => pw_symbol_74 Q x1 x2 u) Q x1 x2 u, fun r0 r1 r2 a => mn_w_symbol_74b (fun r0 r1 r2 a => un_w_symbol_74 a) (fun _ _ h => h) a, h⟩
theorem wp_w_symbol_74 {Q1 Q2 : Int → iST → Prop}  {x1 : Int} {x2 : Int} {u : iST} (hQ : ∀ r0 r1, Q1 r0 r1 → Q2 r0 r1) : w_symbol_74 Q1 x1 x2 u → pw_symbol_74 Q2 x1 x2 u := fun a => a (fun x1 x2 u => pw_symbol_74 Q2 x1 x2 u) (fun x1 x2 u b => fo_w_symbol_74 (wp_w_symbol_74b (fun r0 r1 r2 a => a) hQ b))
def pw_symbol_49 (R18 : Int → Int → iST → Prop) (Q : Int → iST → Prop) (x1 : Int) (x2 : Int) (u : iST) : Prop :=
  bdp x2 452000 (rd (u.2.1 2 x2) (fun v18 => 
  R18 x1 v18 u))
theorem cj_w_symbol_49 {Q1 Q2 Q3 : Int → iST → Prop} {R181 R182 R183 : Int → Int → iST → Prop} {x1 : Int} {x2 : Int} {u : iST} (hR18 : ∀ r0 r1 r2, R181 r0 r1 r2 → R182 r0 r1 r2 → R183 r0 r1 r2) (hQ : ∀ r0 r1, Q1 r0 r1 → Q2 r0 r1 → Q3 r0 r1) : w_symbol_49 R181 Q1 x1 x2 u → pw_symbol_49 R182 Q2 x1 x2 u → w_symbol_49 R183 Q3 x1 x2 u := (bd_cj (rd_cj fun _ => (hR18 _ _ _)))
theorem mn_w_symbol_49 {Q1 Q2 : Int → iST → Prop} {R181 R182 : Int → Int → iST → Prop} {x1 : Int} {x2 : Int} {u : iST} (hR18 : ∀ r0 r1 r2, R181 r0 r1 r2 → R182 r0 r1 r2) (hQ : ∀ r0 r1, Q1 r0 r1 → Q2 r0 r1) : pw_symbol_49 R181 Q1 x1 x2 u → pw_symbol_49 R182 Q2 x1 x2 u := (bd_mn (rd_mn fun _ => (hR18 _ _ _)))
theorem wp_w_symbol_49 {Q1 Q2 : Int → iST → Prop} {R181 R182 : Int → Int → iST → Prop} {x1 : Int} {x2 : Int} {u : iST} (hR18 : ∀ r0 r1 r2, R181 r0 r1 r2 → R182 r0 r1 r2) (hQ : ∀ r0 r1, Q1 r0 r1 → Q2 r0 r1) : w_symbol_49 R181 Q1 x1 x2 u → pw_symbol_49 R182 Q2 x1 x2 u := (bd_wp (rd_wp fun _ => (hR18 _ _ _)))
def pw_symbol_18b (R18 : Int → Int → iST → Prop) (Q : Int → iST → Prop) (x1 : Int) (x2 : Int) (u : iST) : Prop :=
  br (x2 = (-1)) (
    rd (u.1 11) (fun v4 => 
    rd (u.1 18) (fun v5 => 
    bdp v4 21000 (sw (iA u 10 v4 v5) (fun u => 
    pw_symbol_74 Q x1 0 u))))) (
    bdp x2 452000 (rd (u.2.1 0 x2) (fun v17 => 
    br (v17 ≠ (-2)) (
      pw_symbol_49 R18 Q x1 x2 u) (
      bdp x2 452000 (rd (u.2.1 1 x2) (fun v19 => 
      pw_isWord v19 (fun v20 u => 
      br (v20 = 0) (
        pw_symbol_49 R18 Q x1 x2 u) (
        Q x2 u)) u))))))
theorem cj_w_symbol_18b {Q1 Q2 Q3 : Int → iST → Prop} {R181 R182 R183 : Int → Int → iST → Prop} {x1 : Int} {x2 : Int} {u : iST} (hR18 : ∀ r0 r1 r2, R181 r0 r1 r2 → R182 r0 r1 r2 → R183 r0 r1 r2) (hQ : ∀ r0 r1, Q1 r0 r1 → Q2 r0 r1 → Q3 r0 r1) : w_symbol_18b R181 Q1 x1 x2 u → pw_symbol_18b R182 Q2 x1 x2 u → w_symbol_18b R183 Q3 x1 x2 u := (br_cj (rd_cj fun _ => (rd_cj fun _ => (bd_cj (sw_cj fun _ => (cj_w_symbol_74  hQ))))) (bd_cj (rd_cj fun _ => (br_cj (cj_w_symbol_49 hR18 hQ) (bd_cj (rd_cj fun _ => (cj_w_isWord (fun _ _ => (br_cj (cj_w_symbol_49 hR18 hQ) (hQ _ _))))))))))
theorem mn_w_symbol_18b {Q1 Q2 : Int → iST → Prop} {R181 R182 : Int → Int → iST → Prop} {x1 : Int} {x2 : Int} {u : iST} (hR18 : ∀ r0 r1 r2, R181 r0 r1 r2 → R182 r0 r1 r2) (hQ : ∀ r0 r1, Q1 r0 r1 → Q2 r0 r1) : pw_symbol_18b R181 Q1 x1 x2 u → pw_symbol_18b R182 Q2 x1 x2 u := (br_mn (rd_mn fun _ => (rd_mn fun _ => (bd_mn (sw_mn fun _ => (mn_w_symbol_74  hQ))))) (bd_mn (rd_mn fun _ => (br_mn (mn_w_symbol_49 hR18 hQ) (bd_mn (rd_mn fun _ => (mn_w_isWord (fun _ _ => (br_mn (mn_w_symbol_49 hR18 hQ) (hQ _ _))))))))))
theorem wp_w_symbol_18b {Q1 Q2 : Int → iST → Prop} {R181 R182 : Int → Int → iST → Prop} {x1 : Int} {x2 : Int} {u : iST} (hR18 : ∀ r0 r1 r2, R181 r0 r1 r2 → R182 r0 r1 r2) (hQ : ∀ r0 r1, Q1 r0 r1 → Q2 r0 r1) : w_symbol_18b R181 Q1 x1 x2 u → pw_symbol_18b R182 Q2 x1 x2 u := (br_wp (rd_wp fun _ => (rd_wp fun _ => (bd_wp (sw_wp fun _ => (wp_w_symbol_74  hQ))))) (bd_wp (rd_wp fun _ => (br_wp (wp_w_symbol_49 hR18 hQ) (bd_wp (rd_wp fun _ => (wp_w_isWord (fun _ _ => (br_wp (wp_w_symbol_49 hR18 hQ) (hQ _ _))))))))))
def pw_symbol_18 (Q : Int → iST → Prop) (x1 : Int) (x2 : Int) (u : iST) : Prop := ∃ R18 : Int → Int → iST → Prop, (∀ (x1 : Int) (x2 : Int) (u : iST), R18 x1 x2 u → pw_symbol_18b R18 Q x1 x2 u) ∧ R18 x1 x2 u
theorem cj_w_symbol_18 {Q1 Q2 Q3 : Int → iST → Prop}  {x1 : Int} {x2 : Int} {u : iST} (hQ : ∀ r0 r1, Q1 r0 r1 → Q2 r0 r1 → Q3 r0 r1) : w_symbol_18 Q1 x1 x2 u → pw_symbol_18 Q2 x1 x2 u → w_symbol_18 Q3 x1 x2 u := by
  intro a b R3 c3
  obtain ⟨R2, c2, b2⟩ := b
  exact a (fun r0 r1 r2 => R2 r0 r1 r2 → R3 r0 r1 r2) (fun r0 r1 r2 a b => c3 r0 r1 r2 (cj_w_symbol_18b (fun r0 r1 r2 a b => a b) hQ a (c2 r0 r1 r2 b))) b2
theorem pw_symbol_18_i  {Q : Int → iST → Prop} {x1 : Int} {x2 : Int} {u : iST} (I : Int → Int → iST → Prop) (s : ∀ (x1 : Int) (x2 : Int) (u : iST), I x1 x2 u → pw_symbol_18b I Q x1 x2 u) (h : I x1 x2 u) : pw_symbol_18 Q x1 x2 u := ⟨I, s, h⟩
theorem mn_w_symbol_18 {Q1 Q2 : Int → iST → Prop}  {x1 : Int} {x2 : Int} {u : iST} (hQ : ∀ r0 r1, Q1 r0 r1 → Q2 r0 r1) : pw_symbol_18 Q1 x1 x2 u → pw_symbol_18 Q2 x1 x2 u := fun ⟨R, s, h⟩ => ⟨R, fun r0 r1 r2 a => mn_w_symbol_18b (fun r0 r1 r2 a => a) hQ (s r0 r1 r2 a), h⟩
theorem un_w_symbol_18  {Q : Int → iST → Prop} {x1 : Int} {x2 : Int} {u : iST} : pw_symbol_18 Q x1 x2 u → pw_symbol_18b (fun x1 x2 u => pw_symbol_18 Q x1 x2 u) Q x1 x2 u := fun ⟨R, s, h⟩ => mn_w_symbol_18b (fun r0 r1 r2 a => ⟨R, s, a⟩) (fun _ _ h => h) (s _ _ _ h)
theorem fo_w_symbol_18  {Q : Int → iST → Prop} {x1 : Int} {x2 : Int} {u : iST} : pw_symbol_18b (fun x1 x2 u => pw_symbol_18 Q x1 x2 u) Q x1 x2 u → pw_symbol_18 Q x1 x2 u := fun h => ⟨fun x1 x2 u => pw_symbol_18b (fun x1 x2 u => pw_symbol_18 Q x1 x2 u) Q x1 x2 u, fun r0 r1 r2 a => mn_w_symbol_18b (fun r0 r1 r2 a => un_w_symbol_18 a) (fun _ _ h => h) a, h⟩
theorem wp_w_symbol_18 {Q1 Q2 : Int → iST → Prop}  {x1 : Int} {x2 : Int} {u : iST} (hQ : ∀ r0 r1, Q1 r0 r1 → Q2 r0 r1) : w_symbol_18 Q1 x1 x2 u → pw_symbol_18 Q2 x1 x2 u := fun a => a (fun x1 x2 u => pw_symbol_18 Q2 x1 x2 u) (fun x1 x2 u b => fo_w_symbol_18 (wp_w_symbol_18b (fun r0 r1 r2 a => a) hQ b))
def pw_symbol (Q : Int → iST → Prop) (u : iST) : Prop :=
  rd (u.1 18) (fun v1 => 
  pw_spelled 0 v1 1 (fun v2 u => 
  bdp v2 8192 (rd (u.2.1 7 v2) (fun v3 => 
  pw_symbol_18 Q v2 v3 u))) u)
theorem cj_w_symbol {Q1 Q2 Q3 : Int → iST → Prop}  {u : iST} (hQ : ∀ r0 r1, Q1 r0 r1 → Q2 r0 r1 → Q3 r0 r1) : w_symbol Q1 u → pw_symbol Q2 u → w_symbol Q3 u := (rd_cj fun _ => (cj_w_spelled (fun _ _ => (bd_cj (rd_cj fun _ => (cj_w_symbol_18  hQ))))))
theorem mn_w_symbol {Q1 Q2 : Int → iST → Prop}  {u : iST} (hQ : ∀ r0 r1, Q1 r0 r1 → Q2 r0 r1) : pw_symbol Q1 u → pw_symbol Q2 u := (rd_mn fun _ => (mn_w_spelled (fun _ _ => (bd_mn (rd_mn fun _ => (mn_w_symbol_18  hQ))))))
theorem wp_w_symbol {Q1 Q2 : Int → iST → Prop}  {u : iST} (hQ : ∀ r0 r1, Q1 r0 r1 → Q2 r0 r1) : w_symbol Q1 u → pw_symbol Q2 u := (rd_wp fun _ => (wp_w_spelled (fun _ _ => (bd_wp (rd_wp fun _ => (wp_w_symbol_18  hQ))))))
def pw_slot (a0 : Int) (a1 : Int) (Q : Int → iST → Prop) (u : iST) : Prop :=
  rd (wmul a0 40503) (fun v1 => 
  rd (wmul a1 30011) (fun v2 => 
  rd (wadd v1 v2) (fun v3 => 
  rd (wadd v3 7) (fun v4 => 
  rd (wushr v4 2) (fun v5 => 
  rd (wand v5 8191) (fun v6 => 
  Q v6 u))))))
theorem cj_w_slot {Q1 Q2 Q3 : Int → iST → Prop}  {a0 : Int} {a1 : Int} {u : iST} (hQ : ∀ r0 r1, Q1 r0 r1 → Q2 r0 r1 → Q3 r0 r1) : w_slot a0 a1 Q1 u → pw_slot a0 a1 Q2 u → w_slot a0 a1 Q3 u := (rd_cj fun _ => (rd_cj fun _ => (rd_cj fun _ => (rd_cj fun _ => (rd_cj fun _ => (rd_cj fun _ => (hQ _ _)))))))
theorem mn_w_slot {Q1 Q2 : Int → iST → Prop}  {a0 : Int} {a1 : Int} {u : iST} (hQ : ∀ r0 r1, Q1 r0 r1 → Q2 r0 r1) : pw_slot a0 a1 Q1 u → pw_slot a0 a1 Q2 u := (rd_mn fun _ => (rd_mn fun _ => (rd_mn fun _ => (rd_mn fun _ => (rd_mn fun _ => (rd_mn fun _ => (hQ _ _)))))))
theorem wp_w_slot {Q1 Q2 : Int → iST → Prop}  {a0 : Int} {a1 : Int} {u : iST} (hQ : ∀ r0 r1, Q1 r0 r1 → Q2 r0 r1) : w_slot a0 a1 Q1 u → pw_slot a0 a1 Q2 u := (rd_wp fun _ => (rd_wp fun _ => (rd_wp fun _ => (rd_wp fun _ => (rd_wp fun _ => (rd_wp fun _ => (hQ _ _)))))))
def pw_value (a0 : Int) (Q : Int → iST → Prop) (u : iST) : Prop :=
  bdp a0 452000 (rd (u.2.1 1 a0) (fun v1 => 
  bdp v1 40000 (rl (u.2.2 v1) (fun v2 => 
  Q v2 u))))
theorem cj_w_value {Q1 Q2 Q3 : Int → iST → Prop}  {a0 : Int} {u : iST} (hQ : ∀ r0 r1, Q1 r0 r1 → Q2 r0 r1 → Q3 r0 r1) : w_value a0 Q1 u → pw_value a0 Q2 u → w_value a0 Q3 u := (bd_cj (rd_cj fun _ => (bd_cj (rl_cj fun _ => (hQ _ _)))))
theorem mn_w_value {Q1 Q2 : Int → iST → Prop}  {a0 : Int} {u : iST} (hQ : ∀ r0 r1, Q1 r0 r1 → Q2 r0 r1) : pw_value a0 Q1 u → pw_value a0 Q2 u := (bd_mn (rd_mn fun _ => (bd_mn (rl_mn fun _ => (hQ _ _)))))
theorem wp_w_value {Q1 Q2 : Int → iST → Prop}  {a0 : Int} {u : iST} (hQ : ∀ r0 r1, Q1 r0 r1 → Q2 r0 r1) : w_value a0 Q1 u → pw_value a0 Q2 u := (bd_wp (rd_wp fun _ => (bd_wp (rl_wp fun _ => (hQ _ _)))))
def pw_slotOf (a0 : Int) (Q : Int → iST → Prop) (u : iST) : Prop :=
  bdp a0 452000 (rd (u.2.1 0 a0) (fun v1 => 
  br (v1 ≠ (-1)) (
    bdp a0 452000 (rd (u.2.1 0 a0) (fun v2 => 
    br (v2 ≠ (-2)) (
      bdp a0 452000 (rd (u.2.1 0 a0) (fun v3 => 
      bdp a0 452000 (rd (u.2.1 1 a0) (fun v4 => 
      pw_slot v3 v4 (fun v5 u => 
      Q v5 u) u))))) (
      bdp a0 452000 (rd (u.2.1 1 a0) (fun v6 => 
      ovp (12 * v6) (
      bdp a0 452000 (rd (u.2.1 1 a0) (fun v8 => 
      bdp v8 21000 (rd (u.2.1 10 v8) (fun v9 => 
      pw_spelled (12 * v6) v9 0 (fun v10 u => 
      Q v10 u) u))))))))))) (
    pw_value a0 (fun v11 u => 
    rd (wl2i v11) (fun v12 => 
    pw_value a0 (fun v13 u => 
    rl (wlshr v13 32) (fun v14 => 
    rd (wl2i v14) (fun v15 => 
    pw_slot v12 v15 (fun v16 u => 
    Q v16 u) u))) u)) u)))
theorem cj_w_slotOf {Q1 Q2 Q3 : Int → iST → Prop}  {a0 : Int} {u : iST} (hQ : ∀ r0 r1, Q1 r0 r1 → Q2 r0 r1 → Q3 r0 r1) : w_slotOf a0 Q1 u → pw_slotOf a0 Q2 u → w_slotOf a0 Q3 u := (bd_cj (rd_cj fun _ => (br_cj (bd_cj (rd_cj fun _ => (br_cj (bd_cj (rd_cj fun _ => (bd_cj (rd_cj fun _ => (cj_w_slot (fun _ _ => (hQ _ _))))))) (bd_cj (rd_cj fun _ => (ov_cj (bd_cj (rd_cj fun _ => (bd_cj (rd_cj fun _ => (cj_w_spelled (fun _ _ => (hQ _ _))))))))))))) (cj_w_value (fun _ _ => (rd_cj fun _ => (cj_w_value (fun _ _ => (rl_cj fun _ => (rd_cj fun _ => (cj_w_slot (fun _ _ => (hQ _ _)))))))))))))
theorem mn_w_slotOf {Q1 Q2 : Int → iST → Prop}  {a0 : Int} {u : iST} (hQ : ∀ r0 r1, Q1 r0 r1 → Q2 r0 r1) : pw_slotOf a0 Q1 u → pw_slotOf a0 Q2 u := (bd_mn (rd_mn fun _ => (br_mn (bd_mn (rd_mn fun _ => (br_mn (bd_mn (rd_mn fun _ => (bd_mn (rd_mn fun _ => (mn_w_slot (fun _ _ => (hQ _ _))))))) (bd_mn (rd_mn fun _ => (ov_mn (bd_mn (rd_mn fun _ => (bd_mn (rd_mn fun _ => (mn_w_spelled (fun _ _ => (hQ _ _))))))))))))) (mn_w_value (fun _ _ => (rd_mn fun _ => (mn_w_value (fun _ _ => (rl_mn fun _ => (rd_mn fun _ => (mn_w_slot (fun _ _ => (hQ _ _)))))))))))))
theorem wp_w_slotOf {Q1 Q2 : Int → iST → Prop}  {a0 : Int} {u : iST} (hQ : ∀ r0 r1, Q1 r0 r1 → Q2 r0 r1) : w_slotOf a0 Q1 u → pw_slotOf a0 Q2 u := (bd_wp (rd_wp fun _ => (br_wp (bd_wp (rd_wp fun _ => (br_wp (bd_wp (rd_wp fun _ => (bd_wp (rd_wp fun _ => (wp_w_slot (fun _ _ => (hQ _ _))))))) (bd_wp (rd_wp fun _ => (ov_wp (bd_wp (rd_wp fun _ => (bd_wp (rd_wp fun _ => (wp_w_spelled (fun _ _ => (hQ _ _))))))))))))) (wp_w_value (fun _ _ => (rd_wp fun _ => (wp_w_value (fun _ _ => (rl_wp fun _ => (rd_wp fun _ => (wp_w_slot (fun _ _ => (hQ _ _)))))))))))))
def pw_pair_45 (R14 : Int → Int → Int → Int → iST → Prop) (Q : Int → iST → Prop) (x1 : Int) (x2 : Int) (x3 : Int) (x4 : Int) (u : iST) : Prop :=
  bdp x4 452000 (rd (u.2.1 2 x4) (fun v5 => 
  R14 x1 x2 x3 v5 u))
theorem cj_w_pair_45 {Q1 Q2 Q3 : Int → iST → Prop} {R141 R142 R143 : Int → Int → Int → Int → iST → Prop} {x1 : Int} {x2 : Int} {x3 : Int} {x4 : Int} {u : iST} (hR14 : ∀ r0 r1 r2 r3 r4, R141 r0 r1 r2 r3 r4 → R142 r0 r1 r2 r3 r4 → R143 r0 r1 r2 r3 r4) (hQ : ∀ r0 r1, Q1 r0 r1 → Q2 r0 r1 → Q3 r0 r1) : w_pair_45 R141 Q1 x1 x2 x3 x4 u → pw_pair_45 R142 Q2 x1 x2 x3 x4 u → w_pair_45 R143 Q3 x1 x2 x3 x4 u := (bd_cj (rd_cj fun _ => (hR14 _ _ _ _ _)))
theorem mn_w_pair_45 {Q1 Q2 : Int → iST → Prop} {R141 R142 : Int → Int → Int → Int → iST → Prop} {x1 : Int} {x2 : Int} {x3 : Int} {x4 : Int} {u : iST} (hR14 : ∀ r0 r1 r2 r3 r4, R141 r0 r1 r2 r3 r4 → R142 r0 r1 r2 r3 r4) (hQ : ∀ r0 r1, Q1 r0 r1 → Q2 r0 r1) : pw_pair_45 R141 Q1 x1 x2 x3 x4 u → pw_pair_45 R142 Q2 x1 x2 x3 x4 u := (bd_mn (rd_mn fun _ => (hR14 _ _ _ _ _)))
theorem wp_w_pair_45 {Q1 Q2 : Int → iST → Prop} {R141 R142 : Int → Int → Int → Int → iST → Prop} {x1 : Int} {x2 : Int} {x3 : Int} {x4 : Int} {u : iST} (hR14 : ∀ r0 r1 r2 r3 r4, R141 r0 r1 r2 r3 r4 → R142 r0 r1 r2 r3 r4) (hQ : ∀ r0 r1, Q1 r0 r1 → Q2 r0 r1) : w_pair_45 R141 Q1 x1 x2 x3 x4 u → pw_pair_45 R142 Q2 x1 x2 x3 x4 u := (bd_wp (rd_wp fun _ => (hR14 _ _ _ _ _)))
def pw_pair_14b (R14 : Int → Int → Int → Int → iST → Prop) (Q : Int → iST → Prop) (x1 : Int) (x2 : Int) (x3 : Int) (x4 : Int) (u : iST) : Prop :=
  br (x4 = (-1)) (
    pw_added x1 x2 x3 (fun v3 u => 
    Q v3 u) u) (
    bdp x4 452000 (rd (u.2.1 0 x4) (fun v4 => 
    br (v4 ≠ x1) (
      pw_pair_45 R14 Q x1 x2 x3 x4 u) (
      bdp x4 452000 (rd (u.2.1 1 x4) (fun v6 => 
      br (v6 ≠ x2) (
        pw_pair_45 R14 Q x1 x2 x3 x4 u) (
        Q x4 u)))))))
theorem cj_w_pair_14b {Q1 Q2 Q3 : Int → iST → Prop} {R141 R142 R143 : Int → Int → Int → Int → iST → Prop} {x1 : Int} {x2 : Int} {x3 : Int} {x4 : Int} {u : iST} (hR14 : ∀ r0 r1 r2 r3 r4, R141 r0 r1 r2 r3 r4 → R142 r0 r1 r2 r3 r4 → R143 r0 r1 r2 r3 r4) (hQ : ∀ r0 r1, Q1 r0 r1 → Q2 r0 r1 → Q3 r0 r1) : w_pair_14b R141 Q1 x1 x2 x3 x4 u → pw_pair_14b R142 Q2 x1 x2 x3 x4 u → w_pair_14b R143 Q3 x1 x2 x3 x4 u := (br_cj (cj_w_added (fun _ _ => (hQ _ _))) (bd_cj (rd_cj fun _ => (br_cj (cj_w_pair_45 hR14 hQ) (bd_cj (rd_cj fun _ => (br_cj (cj_w_pair_45 hR14 hQ) (hQ _ _))))))))
theorem mn_w_pair_14b {Q1 Q2 : Int → iST → Prop} {R141 R142 : Int → Int → Int → Int → iST → Prop} {x1 : Int} {x2 : Int} {x3 : Int} {x4 : Int} {u : iST} (hR14 : ∀ r0 r1 r2 r3 r4, R141 r0 r1 r2 r3 r4 → R142 r0 r1 r2 r3 r4) (hQ : ∀ r0 r1, Q1 r0 r1 → Q2 r0 r1) : pw_pair_14b R141 Q1 x1 x2 x3 x4 u → pw_pair_14b R142 Q2 x1 x2 x3 x4 u := (br_mn (mn_w_added (fun _ _ => (hQ _ _))) (bd_mn (rd_mn fun _ => (br_mn (mn_w_pair_45 hR14 hQ) (bd_mn (rd_mn fun _ => (br_mn (mn_w_pair_45 hR14 hQ) (hQ _ _))))))))
theorem wp_w_pair_14b {Q1 Q2 : Int → iST → Prop} {R141 R142 : Int → Int → Int → Int → iST → Prop} {x1 : Int} {x2 : Int} {x3 : Int} {x4 : Int} {u : iST} (hR14 : ∀ r0 r1 r2 r3 r4, R141 r0 r1 r2 r3 r4 → R142 r0 r1 r2 r3 r4) (hQ : ∀ r0 r1, Q1 r0 r1 → Q2 r0 r1) : w_pair_14b R141 Q1 x1 x2 x3 x4 u → pw_pair_14b R142 Q2 x1 x2 x3 x4 u := (br_wp (wp_w_added (fun _ _ => (hQ _ _))) (bd_wp (rd_wp fun _ => (br_wp (wp_w_pair_45 hR14 hQ) (bd_wp (rd_wp fun _ => (br_wp (wp_w_pair_45 hR14 hQ) (hQ _ _))))))))
def pw_pair_14 (Q : Int → iST → Prop) (x1 : Int) (x2 : Int) (x3 : Int) (x4 : Int) (u : iST) : Prop := ∃ R14 : Int → Int → Int → Int → iST → Prop, (∀ (x1 : Int) (x2 : Int) (x3 : Int) (x4 : Int) (u : iST), R14 x1 x2 x3 x4 u → pw_pair_14b R14 Q x1 x2 x3 x4 u) ∧ R14 x1 x2 x3 x4 u
theorem cj_w_pair_14 {Q1 Q2 Q3 : Int → iST → Prop}  {x1 : Int} {x2 : Int} {x3 : Int} {x4 : Int} {u : iST} (hQ : ∀ r0 r1, Q1 r0 r1 → Q2 r0 r1 → Q3 r0 r1) : w_pair_14 Q1 x1 x2 x3 x4 u → pw_pair_14 Q2 x1 x2 x3 x4 u → w_pair_14 Q3 x1 x2 x3 x4 u := by
  intro a b R3 c3
  obtain ⟨R2, c2, b2⟩ := b
  exact a (fun r0 r1 r2 r3 r4 => R2 r0 r1 r2 r3 r4 → R3 r0 r1 r2 r3 r4) (fun r0 r1 r2 r3 r4 a b => c3 r0 r1 r2 r3 r4 (cj_w_pair_14b (fun r0 r1 r2 r3 r4 a b => a b) hQ a (c2 r0 r1 r2 r3 r4 b))) b2
theorem pw_pair_14_i  {Q : Int → iST → Prop} {x1 : Int} {x2 : Int} {x3 : Int} {x4 : Int} {u : iST} (I : Int → Int → Int → Int → iST → Prop) (s : ∀ (x1 : Int) (x2 : Int) (x3 : Int) (x4 : Int) (u : iST), I x1 x2 x3 x4 u → pw_pair_14b I Q x1 x2 x3 x4 u) (h : I x1 x2 x3 x4 u) : pw_pair_14 Q x1 x2 x3 x4 u := ⟨I, s, h⟩
theorem mn_w_pair_14 {Q1 Q2 : Int → iST → Prop}  {x1 : Int} {x2 : Int} {x3 : Int} {x4 : Int} {u : iST} (hQ : ∀ r0 r1, Q1 r0 r1 → Q2 r0 r1) : pw_pair_14 Q1 x1 x2 x3 x4 u → pw_pair_14 Q2 x1 x2 x3 x4 u := fun ⟨R, s, h⟩ => ⟨R, fun r0 r1 r2 r3 r4 a => mn_w_pair_14b (fun r0 r1 r2 r3 r4 a => a) hQ (s r0 r1 r2 r3 r4 a), h⟩
theorem un_w_pair_14  {Q : Int → iST → Prop} {x1 : Int} {x2 : Int} {x3 : Int} {x4 : Int} {u : iST} : pw_pair_14 Q x1 x2 x3 x4 u → pw_pair_14b (fun x1 x2 x3 x4 u => pw_pair_14 Q x1 x2 x3 x4 u) Q x1 x2 x3 x4 u := fun ⟨R, s, h⟩ => mn_w_pair_14b (fun r0 r1 r2 r3 r4 a => ⟨R, s, a⟩) (fun _ _ h => h) (s _ _ _ _ _ h)
theorem fo_w_pair_14  {Q : Int → iST → Prop} {x1 : Int} {x2 : Int} {x3 : Int} {x4 : Int} {u : iST} : pw_pair_14b (fun x1 x2 x3 x4 u => pw_pair_14 Q x1 x2 x3 x4 u) Q x1 x2 x3 x4 u → pw_pair_14 Q x1 x2 x3 x4 u := fun h => ⟨fun x1 x2 x3 x4 u => pw_pair_14b (fun x1 x2 x3 x4 u => pw_pair_14 Q x1 x2 x3 x4 u) Q x1 x2 x3 x4 u, fun r0 r1 r2 r3 r4 a => mn_w_pair_14b (fun r0 r1 r2 r3 r4 a => un_w_pair_14 a) (fun _ _ h => h) a, h⟩
theorem wp_w_pair_14 {Q1 Q2 : Int → iST → Prop}  {x1 : Int} {x2 : Int} {x3 : Int} {x4 : Int} {u : iST} (hQ : ∀ r0 r1, Q1 r0 r1 → Q2 r0 r1) : w_pair_14 Q1 x1 x2 x3 x4 u → pw_pair_14 Q2 x1 x2 x3 x4 u := fun a => a (fun x1 x2 x3 x4 u => pw_pair_14 Q2 x1 x2 x3 x4 u) (fun x1 x2 x3 x4 u b => fo_w_pair_14 (wp_w_pair_14b (fun r0 r1 r2 r3 r4 a => a) hQ b))
def pw_pair (a0 : Int) (a1 : Int) (Q : Int → iST → Prop) (u : iST) : Prop :=
  pw_slot a0 a1 (fun v1 u => 
  bdp v1 8192 (rd (u.2.1 7 v1) (fun v2 => 
  pw_pair_14 Q a0 a1 v1 v2 u))) u
theorem cj_w_pair {Q1 Q2 Q3 : Int → iST → Prop}  {a0 : Int} {a1 : Int} {u : iST} (hQ : ∀ r0 r1, Q1 r0 r1 → Q2 r0 r1 → Q3 r0 r1) : w_pair a0 a1 Q1 u → pw_pair a0 a1 Q2 u → w_pair a0 a1 Q3 u := (cj_w_slot (fun _ _ => (bd_cj (rd_cj fun _ => (cj_w_pair_14  hQ)))))
theorem mn_w_pair {Q1 Q2 : Int → iST → Prop}  {a0 : Int} {a1 : Int} {u : iST} (hQ : ∀ r0 r1, Q1 r0 r1 → Q2 r0 r1) : pw_pair a0 a1 Q1 u → pw_pair a0 a1 Q2 u := (mn_w_slot (fun _ _ => (bd_mn (rd_mn fun _ => (mn_w_pair_14  hQ)))))
theorem wp_w_pair {Q1 Q2 : Int → iST → Prop}  {a0 : Int} {a1 : Int} {u : iST} (hQ : ∀ r0 r1, Q1 r0 r1 → Q2 r0 r1) : w_pair a0 a1 Q1 u → pw_pair a0 a1 Q2 u := (wp_w_slot (fun _ _ => (bd_wp (rd_wp fun _ => (wp_w_pair_14  hQ)))))
def pw_natural_50 (R19 : Int → Int → Int → iST → Prop) (Q : Int → iST → Prop) (x1 : Int) (x3 : Int) (x4 : Int) (u : iST) : Prop :=
  bdp x4 452000 (rd (u.2.1 2 x4) (fun v13 => 
  R19 x1 x3 v13 u))
theorem cj_w_natural_50 {Q1 Q2 Q3 : Int → iST → Prop} {R191 R192 R193 : Int → Int → Int → iST → Prop} {x1 : Int} {x3 : Int} {x4 : Int} {u : iST} (hR19 : ∀ r0 r1 r2 r3, R191 r0 r1 r2 r3 → R192 r0 r1 r2 r3 → R193 r0 r1 r2 r3) (hQ : ∀ r0 r1, Q1 r0 r1 → Q2 r0 r1 → Q3 r0 r1) : w_natural_50 R191 Q1 x1 x3 x4 u → pw_natural_50 R192 Q2 x1 x3 x4 u → w_natural_50 R193 Q3 x1 x3 x4 u := (bd_cj (rd_cj fun _ => (hR19 _ _ _ _)))
theorem mn_w_natural_50 {Q1 Q2 : Int → iST → Prop} {R191 R192 : Int → Int → Int → iST → Prop} {x1 : Int} {x3 : Int} {x4 : Int} {u : iST} (hR19 : ∀ r0 r1 r2 r3, R191 r0 r1 r2 r3 → R192 r0 r1 r2 r3) (hQ : ∀ r0 r1, Q1 r0 r1 → Q2 r0 r1) : pw_natural_50 R191 Q1 x1 x3 x4 u → pw_natural_50 R192 Q2 x1 x3 x4 u := (bd_mn (rd_mn fun _ => (hR19 _ _ _ _)))
theorem wp_w_natural_50 {Q1 Q2 : Int → iST → Prop} {R191 R192 : Int → Int → Int → iST → Prop} {x1 : Int} {x3 : Int} {x4 : Int} {u : iST} (hR19 : ∀ r0 r1 r2 r3, R191 r0 r1 r2 r3 → R192 r0 r1 r2 r3) (hQ : ∀ r0 r1, Q1 r0 r1 → Q2 r0 r1) : w_natural_50 R191 Q1 x1 x3 x4 u → pw_natural_50 R192 Q2 x1 x3 x4 u := (bd_wp (rd_wp fun _ => (hR19 _ _ _ _)))
def pw_natural_19b (R19 : Int → Int → Int → iST → Prop) (Q : Int → iST → Prop) (x1 : Int) (x3 : Int) (x4 : Int) (u : iST) : Prop :=
  br (x4 = (-1)) (
    rd (u.1 6) (fun v6 => 
    bdp v6 40000 (sw (iL u v6 x1) (fun u => 
    rd (u.1 6) (fun v7 => 
    ovp (v7 + 1) (
    sw (iI u 6 (v7 + 1)) (fun u => 
    rd (u.1 6) (fun v9 => 
    ovp (v9 - 1) (
    pw_added (-1) (v9 - 1) x3 (fun v11 u => 
    Q v11 u) u))))))))) (
    bdp x4 452000 (rd (u.2.1 0 x4) (fun v12 => 
    br (v12 ≠ (-1)) (
      pw_natural_50 R19 Q x1 x3 x4 u) (
      pw_value x4 (fun v14 u => 
      br (v14 ≠ x1) (
        pw_natural_50 R19 Q x1 x3 x4 u) (
        Q x4 u)) u))))
theorem cj_w_natural_19b {Q1 Q2 Q3 : Int → iST → Prop} {R191 R192 R193 : Int → Int → Int → iST → Prop} {x1 : Int} {x3 : Int} {x4 : Int} {u : iST} (hR19 : ∀ r0 r1 r2 r3, R191 r0 r1 r2 r3 → R192 r0 r1 r2 r3 → R193 r0 r1 r2 r3) (hQ : ∀ r0 r1, Q1 r0 r1 → Q2 r0 r1 → Q3 r0 r1) : w_natural_19b R191 Q1 x1 x3 x4 u → pw_natural_19b R192 Q2 x1 x3 x4 u → w_natural_19b R193 Q3 x1 x3 x4 u := (br_cj (rd_cj fun _ => (bd_cj (sw_cj fun _ => (rd_cj fun _ => (ov_cj (sw_cj fun _ => (rd_cj fun _ => (ov_cj (cj_w_added (fun _ _ => (hQ _ _))))))))))) (bd_cj (rd_cj fun _ => (br_cj (cj_w_natural_50 hR19 hQ) (cj_w_value (fun _ _ => (br_cj (cj_w_natural_50 hR19 hQ) (hQ _ _))))))))
theorem mn_w_natural_19b {Q1 Q2 : Int → iST → Prop} {R191 R192 : Int → Int → Int → iST → Prop} {x1 : Int} {x3 : Int} {x4 : Int} {u : iST} (hR19 : ∀ r0 r1 r2 r3, R191 r0 r1 r2 r3 → R192 r0 r1 r2 r3) (hQ : ∀ r0 r1, Q1 r0 r1 → Q2 r0 r1) : pw_natural_19b R191 Q1 x1 x3 x4 u → pw_natural_19b R192 Q2 x1 x3 x4 u := (br_mn (rd_mn fun _ => (bd_mn (sw_mn fun _ => (rd_mn fun _ => (ov_mn (sw_mn fun _ => (rd_mn fun _ => (ov_mn (mn_w_added (fun _ _ => (hQ _ _))))))))))) (bd_mn (rd_mn fun _ => (br_mn (mn_w_natural_50 hR19 hQ) (mn_w_value (fun _ _ => (br_mn (mn_w_natural_50 hR19 hQ) (hQ _ _))))))))
theorem wp_w_natural_19b {Q1 Q2 : Int → iST → Prop} {R191 R192 : Int → Int → Int → iST → Prop} {x1 : Int} {x3 : Int} {x4 : Int} {u : iST} (hR19 : ∀ r0 r1 r2 r3, R191 r0 r1 r2 r3 → R192 r0 r1 r2 r3) (hQ : ∀ r0 r1, Q1 r0 r1 → Q2 r0 r1) : w_natural_19b R191 Q1 x1 x3 x4 u → pw_natural_19b R192 Q2 x1 x3 x4 u := (br_wp (rd_wp fun _ => (bd_wp (sw_wp fun _ => (rd_wp fun _ => (ov_wp (sw_wp fun _ => (rd_wp fun _ => (ov_wp (wp_w_added (fun _ _ => (hQ _ _))))))))))) (bd_wp (rd_wp fun _ => (br_wp (wp_w_natural_50 hR19 hQ) (wp_w_value (fun _ _ => (br_wp (wp_w_natural_50 hR19 hQ) (hQ _ _))))))))
def pw_natural_19 (Q : Int → iST → Prop) (x1 : Int) (x3 : Int) (x4 : Int) (u : iST) : Prop := ∃ R19 : Int → Int → Int → iST → Prop, (∀ (x1 : Int) (x3 : Int) (x4 : Int) (u : iST), R19 x1 x3 x4 u → pw_natural_19b R19 Q x1 x3 x4 u) ∧ R19 x1 x3 x4 u
theorem cj_w_natural_19 {Q1 Q2 Q3 : Int → iST → Prop}  {x1 : Int} {x3 : Int} {x4 : Int} {u : iST} (hQ : ∀ r0 r1, Q1 r0 r1 → Q2 r0 r1 → Q3 r0 r1) : w_natural_19 Q1 x1 x3 x4 u → pw_natural_19 Q2 x1 x3 x4 u → w_natural_19 Q3 x1 x3 x4 u := by
  intro a b R3 c3
  obtain ⟨R2, c2, b2⟩ := b
  exact a (fun r0 r1 r2 r3 => R2 r0 r1 r2 r3 → R3 r0 r1 r2 r3) (fun r0 r1 r2 r3 a b => c3 r0 r1 r2 r3 (cj_w_natural_19b (fun r0 r1 r2 r3 a b => a b) hQ a (c2 r0 r1 r2 r3 b))) b2
theorem pw_natural_19_i  {Q : Int → iST → Prop} {x1 : Int} {x3 : Int} {x4 : Int} {u : iST} (I : Int → Int → Int → iST → Prop) (s : ∀ (x1 : Int) (x3 : Int) (x4 : Int) (u : iST), I x1 x3 x4 u → pw_natural_19b I Q x1 x3 x4 u) (h : I x1 x3 x4 u) : pw_natural_19 Q x1 x3 x4 u := ⟨I, s, h⟩
theorem mn_w_natural_19 {Q1 Q2 : Int → iST → Prop}  {x1 : Int} {x3 : Int} {x4 : Int} {u : iST} (hQ : ∀ r0 r1, Q1 r0 r1 → Q2 r0 r1) : pw_natural_19 Q1 x1 x3 x4 u → pw_natural_19 Q2 x1 x3 x4 u := fun ⟨R, s, h⟩ => ⟨R, fun r0 r1 r2 r3 a => mn_w_natural_19b (fun r0 r1 r2 r3 a => a) hQ (s r0 r1 r2 r3 a), h⟩
theorem un_w_natural_19  {Q : Int → iST → Prop} {x1 : Int} {x3 : Int} {x4 : Int} {u : iST} : pw_natural_19 Q x1 x3 x4 u → pw_natural_19b (fun x1 x3 x4 u => pw_natural_19 Q x1 x3 x4 u) Q x1 x3 x4 u := fun ⟨R, s, h⟩ => mn_w_natural_19b (fun r0 r1 r2 r3 a => ⟨R, s, a⟩) (fun _ _ h => h) (s _ _ _ _ h)
theorem fo_w_natural_19  {Q : Int → iST → Prop} {x1 : Int} {x3 : Int} {x4 : Int} {u : iST} : pw_natural_19b (fun x1 x3 x4 u => pw_natural_19 Q x1 x3 x4 u) Q x1 x3 x4 u → pw_natural_19 Q x1 x3 x4 u := fun h => ⟨fun x1 x3 x4 u => pw_natural_19b (fun x1 x3 x4 u => pw_natural_19 Q x1 x3 x4 u) Q x1 x3 x4 u, fun r0 r1 r2 r3 a => mn_w_natural_19b (fun r0 r1 r2 r3 a => un_w_natural_19 a) (fun _ _ h => h) a, h⟩
theorem wp_w_natural_19 {Q1 Q2 : Int → iST → Prop}  {x1 : Int} {x3 : Int} {x4 : Int} {u : iST} (hQ : ∀ r0 r1, Q1 r0 r1 → Q2 r0 r1) : w_natural_19 Q1 x1 x3 x4 u → pw_natural_19 Q2 x1 x3 x4 u := fun a => a (fun x1 x3 x4 u => pw_natural_19 Q2 x1 x3 x4 u) (fun x1 x3 x4 u b => fo_w_natural_19 (wp_w_natural_19b (fun r0 r1 r2 r3 a => a) hQ b))
def pw_natural (a0 : Int) (Q : Int → iST → Prop) (u : iST) : Prop :=
  rd (wl2i a0) (fun v1 => 
  rl (wlshr a0 32) (fun v2 => 
  rd (wl2i v2) (fun v3 => 
  pw_slot v1 v3 (fun v4 u => 
  bdp v4 8192 (rd (u.2.1 7 v4) (fun v5 => 
  pw_natural_19 Q a0 v4 v5 u))) u)))
theorem cj_w_natural {Q1 Q2 Q3 : Int → iST → Prop}  {a0 : Int} {u : iST} (hQ : ∀ r0 r1, Q1 r0 r1 → Q2 r0 r1 → Q3 r0 r1) : w_natural a0 Q1 u → pw_natural a0 Q2 u → w_natural a0 Q3 u := (rd_cj fun _ => (rl_cj fun _ => (rd_cj fun _ => (cj_w_slot (fun _ _ => (bd_cj (rd_cj fun _ => (cj_w_natural_19  hQ))))))))
theorem mn_w_natural {Q1 Q2 : Int → iST → Prop}  {a0 : Int} {u : iST} (hQ : ∀ r0 r1, Q1 r0 r1 → Q2 r0 r1) : pw_natural a0 Q1 u → pw_natural a0 Q2 u := (rd_mn fun _ => (rl_mn fun _ => (rd_mn fun _ => (mn_w_slot (fun _ _ => (bd_mn (rd_mn fun _ => (mn_w_natural_19  hQ))))))))
theorem wp_w_natural {Q1 Q2 : Int → iST → Prop}  {a0 : Int} {u : iST} (hQ : ∀ r0 r1, Q1 r0 r1 → Q2 r0 r1) : w_natural a0 Q1 u → pw_natural a0 Q2 u := (rd_wp fun _ => (rl_wp fun _ => (rd_wp fun _ => (wp_w_slot (fun _ _ => (bd_wp (rd_wp fun _ => (wp_w_natural_19  hQ))))))))
def pw_forget_64 (R0 : Int → iST → Prop) (Q : iST → Prop) (x1 : Int) (u : iST) : Prop :=
  rd (u.1 8) (fun v10 => 
  bdp v10 452000 (rd (u.2.1 0 v10) (fun v11 => 
  br (v11 ≠ (-1)) (
    R0 x1 u) (
    rd (u.1 6) (fun v12 => 
    ovp (v12 - 1) (
    sw (iI u 6 (v12 - 1)) (fun u => 
    R0 x1 u)))))))
theorem cj_w_forget_64 {Q1 Q2 Q3 : iST → Prop} {R01 R02 R03 : Int → iST → Prop} {x1 : Int} {u : iST} (hR0 : ∀ r0 r1, R01 r0 r1 → R02 r0 r1 → R03 r0 r1) (hQ : ∀ r0, Q1 r0 → Q2 r0 → Q3 r0) : w_forget_64 R01 Q1 x1 u → pw_forget_64 R02 Q2 x1 u → w_forget_64 R03 Q3 x1 u := (rd_cj fun _ => (bd_cj (rd_cj fun _ => (br_cj (hR0 _ _) (rd_cj fun _ => (ov_cj (sw_cj fun _ => (hR0 _ _))))))))
theorem mn_w_forget_64 {Q1 Q2 : iST → Prop} {R01 R02 : Int → iST → Prop} {x1 : Int} {u : iST} (hR0 : ∀ r0 r1, R01 r0 r1 → R02 r0 r1) (hQ : ∀ r0, Q1 r0 → Q2 r0) : pw_forget_64 R01 Q1 x1 u → pw_forget_64 R02 Q2 x1 u := (rd_mn fun _ => (bd_mn (rd_mn fun _ => (br_mn (hR0 _ _) (rd_mn fun _ => (ov_mn (sw_mn fun _ => (hR0 _ _))))))))
theorem wp_w_forget_64 {Q1 Q2 : iST → Prop} {R01 R02 : Int → iST → Prop} {x1 : Int} {u : iST} (hR0 : ∀ r0 r1, R01 r0 r1 → R02 r0 r1) (hQ : ∀ r0, Q1 r0 → Q2 r0) : w_forget_64 R01 Q1 x1 u → pw_forget_64 R02 Q2 x1 u := (rd_wp fun _ => (bd_wp (rd_wp fun _ => (br_wp (hR0 _ _) (rd_wp fun _ => (ov_wp (sw_wp fun _ => (hR0 _ _))))))))
def pw_forget_0b (R0 : Int → iST → Prop) (Q : iST → Prop) (x1 : Int) (u : iST) : Prop :=
  rd (u.1 8) (fun v1 => 
  br (v1 ≤ x1) (
    Q u) (
    rd (u.1 8) (fun v2 => 
    ovp (v2 - 1) (
    sw (iI u 8 (v2 - 1)) (fun u => 
    rd (u.1 8) (fun v4 => 
    pw_slotOf v4 (fun v5 u => 
    rd (u.1 8) (fun v6 => 
    bdp v6 452000 (rd (u.2.1 2 v6) (fun v7 => 
    bdp v5 8192 (sw (iA u 7 v5 v7) (fun u => 
    rd (u.1 8) (fun v8 => 
    bdp v8 452000 (rd (u.2.1 0 v8) (fun v9 => 
    br (v9 ≠ (-2)) (
      pw_forget_64 R0 Q x1 u) (
      rd (u.1 11) (fun v14 => 
      ovp (v14 - 1) (
      sw (iI u 11 (v14 - 1)) (fun u => 
      pw_forget_64 R0 Q x1 u))))))))))))) u))))))
theorem cj_w_forget_0b {Q1 Q2 Q3 : iST → Prop} {R01 R02 R03 : Int → iST → Prop} {x1 : Int} {u : iST} (hR0 : ∀ r0 r1, R01 r0 r1 → R02 r0 r1 → R03 r0 r1) (hQ : ∀ r0, Q1 r0 → Q2 r0 → Q3 r0) : w_forget_0b R01 Q1 x1 u → pw_forget_0b R02 Q2 x1 u → w_forget_0b R03 Q3 x1 u := (rd_cj fun _ => (br_cj (hQ _) (rd_cj fun _ => (ov_cj (sw_cj fun _ => (rd_cj fun _ => (cj_w_slotOf (fun _ _ => (rd_cj fun _ => (bd_cj (rd_cj fun _ => (bd_cj (sw_cj fun _ => (rd_cj fun _ => (bd_cj (rd_cj fun _ => (br_cj (cj_w_forget_64 hR0 hQ) (rd_cj fun _ => (ov_cj (sw_cj fun _ => (cj_w_forget_64 hR0 hQ)))))))))))))))))))))
theorem mn_w_forget_0b {Q1 Q2 : iST → Prop} {R01 R02 : Int → iST → Prop} {x1 : Int} {u : iST} (hR0 : ∀ r0 r1, R01 r0 r1 → R02 r0 r1) (hQ : ∀ r0, Q1 r0 → Q2 r0) : pw_forget_0b R01 Q1 x1 u → pw_forget_0b R02 Q2 x1 u := (rd_mn fun _ => (br_mn (hQ _) (rd_mn fun _ => (ov_mn (sw_mn fun _ => (rd_mn fun _ => (mn_w_slotOf (fun _ _ => (rd_mn fun _ => (bd_mn (rd_mn fun _ => (bd_mn (sw_mn fun _ => (rd_mn fun _ => (bd_mn (rd_mn fun _ => (br_mn (mn_w_forget_64 hR0 hQ) (rd_mn fun _ => (ov_mn (sw_mn fun _ => (mn_w_forget_64 hR0 hQ)))))))))))))))))))))
theorem wp_w_forget_0b {Q1 Q2 : iST → Prop} {R01 R02 : Int → iST → Prop} {x1 : Int} {u : iST} (hR0 : ∀ r0 r1, R01 r0 r1 → R02 r0 r1) (hQ : ∀ r0, Q1 r0 → Q2 r0) : w_forget_0b R01 Q1 x1 u → pw_forget_0b R02 Q2 x1 u := (rd_wp fun _ => (br_wp (hQ _) (rd_wp fun _ => (ov_wp (sw_wp fun _ => (rd_wp fun _ => (wp_w_slotOf (fun _ _ => (rd_wp fun _ => (bd_wp (rd_wp fun _ => (bd_wp (sw_wp fun _ => (rd_wp fun _ => (bd_wp (rd_wp fun _ => (br_wp (wp_w_forget_64 hR0 hQ) (rd_wp fun _ => (ov_wp (sw_wp fun _ => (wp_w_forget_64 hR0 hQ)))))))))))))))))))))
def pw_forget_0 (Q : iST → Prop) (x1 : Int) (u : iST) : Prop := ∃ R0 : Int → iST → Prop, (∀ (x1 : Int) (u : iST), R0 x1 u → pw_forget_0b R0 Q x1 u) ∧ R0 x1 u
theorem cj_w_forget_0 {Q1 Q2 Q3 : iST → Prop}  {x1 : Int} {u : iST} (hQ : ∀ r0, Q1 r0 → Q2 r0 → Q3 r0) : w_forget_0 Q1 x1 u → pw_forget_0 Q2 x1 u → w_forget_0 Q3 x1 u := by
  intro a b R3 c3
  obtain ⟨R2, c2, b2⟩ := b
  exact a (fun r0 r1 => R2 r0 r1 → R3 r0 r1) (fun r0 r1 a b => c3 r0 r1 (cj_w_forget_0b (fun r0 r1 a b => a b) hQ a (c2 r0 r1 b))) b2
theorem pw_forget_0_i  {Q : iST → Prop} {x1 : Int} {u : iST} (I : Int → iST → Prop) (s : ∀ (x1 : Int) (u : iST), I x1 u → pw_forget_0b I Q x1 u) (h : I x1 u) : pw_forget_0 Q x1 u := ⟨I, s, h⟩
theorem mn_w_forget_0 {Q1 Q2 : iST → Prop}  {x1 : Int} {u : iST} (hQ : ∀ r0, Q1 r0 → Q2 r0) : pw_forget_0 Q1 x1 u → pw_forget_0 Q2 x1 u := fun ⟨R, s, h⟩ => ⟨R, fun r0 r1 a => mn_w_forget_0b (fun r0 r1 a => a) hQ (s r0 r1 a), h⟩
theorem un_w_forget_0  {Q : iST → Prop} {x1 : Int} {u : iST} : pw_forget_0 Q x1 u → pw_forget_0b (fun x1 u => pw_forget_0 Q x1 u) Q x1 u := fun ⟨R, s, h⟩ => mn_w_forget_0b (fun r0 r1 a => ⟨R, s, a⟩) (fun _ h => h) (s _ _ h)
theorem fo_w_forget_0  {Q : iST → Prop} {x1 : Int} {u : iST} : pw_forget_0b (fun x1 u => pw_forget_0 Q x1 u) Q x1 u → pw_forget_0 Q x1 u := fun h => ⟨fun x1 u => pw_forget_0b (fun x1 u => pw_forget_0 Q x1 u) Q x1 u, fun r0 r1 a => mn_w_forget_0b (fun r0 r1 a => un_w_forget_0 a) (fun _ h => h) a, h⟩
theorem wp_w_forget_0 {Q1 Q2 : iST → Prop}  {x1 : Int} {u : iST} (hQ : ∀ r0, Q1 r0 → Q2 r0) : w_forget_0 Q1 x1 u → pw_forget_0 Q2 x1 u := fun a => a (fun x1 u => pw_forget_0 Q2 x1 u) (fun x1 u b => fo_w_forget_0 (wp_w_forget_0b (fun r0 r1 a => a) hQ b))
def pw_forget (a0 : Int) (Q : iST → Prop) (u : iST) : Prop :=
  pw_forget_0 Q a0 u
theorem cj_w_forget {Q1 Q2 Q3 : iST → Prop}  {a0 : Int} {u : iST} (hQ : ∀ r0, Q1 r0 → Q2 r0 → Q3 r0) : w_forget a0 Q1 u → pw_forget a0 Q2 u → w_forget a0 Q3 u := (cj_w_forget_0  hQ)
theorem mn_w_forget {Q1 Q2 : iST → Prop}  {a0 : Int} {u : iST} (hQ : ∀ r0, Q1 r0 → Q2 r0) : pw_forget a0 Q1 u → pw_forget a0 Q2 u := (mn_w_forget_0  hQ)
theorem wp_w_forget {Q1 Q2 : iST → Prop}  {a0 : Int} {u : iST} (hQ : ∀ r0, Q1 r0 → Q2 r0) : w_forget a0 Q1 u → pw_forget a0 Q2 u := (wp_w_forget_0  hQ)
def pw_isPair (a0 : Int) (Q : Int → iST → Prop) (u : iST) : Prop :=
  bdp a0 452000 (rd (u.2.1 0 a0) (fun v1 => 
  br (v1 < 0) (
    ztp 0 (Q 0 u)) (
    ztp 1 (Q 1 u))))
theorem cj_w_isPair {Q1 Q2 Q3 : Int → iST → Prop}  {a0 : Int} {u : iST} (hQ : ∀ r0 r1, Q1 r0 r1 → Q2 r0 r1 → Q3 r0 r1) : w_isPair a0 Q1 u → pw_isPair a0 Q2 u → w_isPair a0 Q3 u := (bd_cj (rd_cj fun _ => (br_cj (zt_cj (hQ _ _)) (zt_cj (hQ _ _)))))
theorem mn_w_isPair {Q1 Q2 : Int → iST → Prop}  {a0 : Int} {u : iST} (hQ : ∀ r0 r1, Q1 r0 r1 → Q2 r0 r1) : pw_isPair a0 Q1 u → pw_isPair a0 Q2 u := (bd_mn (rd_mn fun _ => (br_mn (zt_mn (hQ _ _)) (zt_mn (hQ _ _)))))
theorem wp_w_isPair {Q1 Q2 : Int → iST → Prop}  {a0 : Int} {u : iST} (hQ : ∀ r0 r1, Q1 r0 r1 → Q2 r0 r1) : w_isPair a0 Q1 u → pw_isPair a0 Q2 u := (bd_wp (rd_wp fun _ => (br_wp (zt_wp (hQ _ _)) (zt_wp (hQ _ _)))))
def pw_isNatural (a0 : Int) (Q : Int → iST → Prop) (u : iST) : Prop :=
  bdp a0 452000 (rd (u.2.1 0 a0) (fun v1 => 
  br (v1 ≠ (-1)) (
    ztp 0 (Q 0 u)) (
    ztp 1 (Q 1 u))))
theorem cj_w_isNatural {Q1 Q2 Q3 : Int → iST → Prop}  {a0 : Int} {u : iST} (hQ : ∀ r0 r1, Q1 r0 r1 → Q2 r0 r1 → Q3 r0 r1) : w_isNatural a0 Q1 u → pw_isNatural a0 Q2 u → w_isNatural a0 Q3 u := (bd_cj (rd_cj fun _ => (br_cj (zt_cj (hQ _ _)) (zt_cj (hQ _ _)))))
theorem mn_w_isNatural {Q1 Q2 : Int → iST → Prop}  {a0 : Int} {u : iST} (hQ : ∀ r0 r1, Q1 r0 r1 → Q2 r0 r1) : pw_isNatural a0 Q1 u → pw_isNatural a0 Q2 u := (bd_mn (rd_mn fun _ => (br_mn (zt_mn (hQ _ _)) (zt_mn (hQ _ _)))))
theorem wp_w_isNatural {Q1 Q2 : Int → iST → Prop}  {a0 : Int} {u : iST} (hQ : ∀ r0 r1, Q1 r0 r1 → Q2 r0 r1) : w_isNatural a0 Q1 u → pw_isNatural a0 Q2 u := (bd_wp (rd_wp fun _ => (br_wp (zt_wp (hQ _ _)) (zt_wp (hQ _ _)))))
def pw_isSymbol (a0 : Int) (Q : Int → iST → Prop) (u : iST) : Prop :=
  bdp a0 452000 (rd (u.2.1 0 a0) (fun v1 => 
  br (v1 ≠ (-2)) (
    ztp 0 (Q 0 u)) (
    ztp 1 (Q 1 u))))
theorem cj_w_isSymbol {Q1 Q2 Q3 : Int → iST → Prop}  {a0 : Int} {u : iST} (hQ : ∀ r0 r1, Q1 r0 r1 → Q2 r0 r1 → Q3 r0 r1) : w_isSymbol a0 Q1 u → pw_isSymbol a0 Q2 u → w_isSymbol a0 Q3 u := (bd_cj (rd_cj fun _ => (br_cj (zt_cj (hQ _ _)) (zt_cj (hQ _ _)))))
theorem mn_w_isSymbol {Q1 Q2 : Int → iST → Prop}  {a0 : Int} {u : iST} (hQ : ∀ r0 r1, Q1 r0 r1 → Q2 r0 r1) : pw_isSymbol a0 Q1 u → pw_isSymbol a0 Q2 u := (bd_mn (rd_mn fun _ => (br_mn (zt_mn (hQ _ _)) (zt_mn (hQ _ _)))))
theorem wp_w_isSymbol {Q1 Q2 : Int → iST → Prop}  {a0 : Int} {u : iST} (hQ : ∀ r0 r1, Q1 r0 r1 → Q2 r0 r1) : w_isSymbol a0 Q1 u → pw_isSymbol a0 Q2 u := (bd_wp (rd_wp fun _ => (br_wp (zt_wp (hQ _ _)) (zt_wp (hQ _ _)))))
def pw_list1 (a0 : Int) (Q : Int → iST → Prop) (u : iST) : Prop :=
  pw_pair a0 0 (fun v1 u => 
  Q v1 u) u
theorem cj_w_list1 {Q1 Q2 Q3 : Int → iST → Prop}  {a0 : Int} {u : iST} (hQ : ∀ r0 r1, Q1 r0 r1 → Q2 r0 r1 → Q3 r0 r1) : w_list1 a0 Q1 u → pw_list1 a0 Q2 u → w_list1 a0 Q3 u := (cj_w_pair (fun _ _ => (hQ _ _)))
theorem mn_w_list1 {Q1 Q2 : Int → iST → Prop}  {a0 : Int} {u : iST} (hQ : ∀ r0 r1, Q1 r0 r1 → Q2 r0 r1) : pw_list1 a0 Q1 u → pw_list1 a0 Q2 u := (mn_w_pair (fun _ _ => (hQ _ _)))
theorem wp_w_list1 {Q1 Q2 : Int → iST → Prop}  {a0 : Int} {u : iST} (hQ : ∀ r0 r1, Q1 r0 r1 → Q2 r0 r1) : w_list1 a0 Q1 u → pw_list1 a0 Q2 u := (wp_w_pair (fun _ _ => (hQ _ _)))
def pw_list2 (a0 : Int) (a1 : Int) (Q : Int → iST → Prop) (u : iST) : Prop :=
  pw_list1 a1 (fun v1 u => 
  pw_pair a0 v1 (fun v2 u => 
  Q v2 u) u) u
theorem cj_w_list2 {Q1 Q2 Q3 : Int → iST → Prop}  {a0 : Int} {a1 : Int} {u : iST} (hQ : ∀ r0 r1, Q1 r0 r1 → Q2 r0 r1 → Q3 r0 r1) : w_list2 a0 a1 Q1 u → pw_list2 a0 a1 Q2 u → w_list2 a0 a1 Q3 u := (cj_w_list1 (fun _ _ => (cj_w_pair (fun _ _ => (hQ _ _)))))
theorem mn_w_list2 {Q1 Q2 : Int → iST → Prop}  {a0 : Int} {a1 : Int} {u : iST} (hQ : ∀ r0 r1, Q1 r0 r1 → Q2 r0 r1) : pw_list2 a0 a1 Q1 u → pw_list2 a0 a1 Q2 u := (mn_w_list1 (fun _ _ => (mn_w_pair (fun _ _ => (hQ _ _)))))
theorem wp_w_list2 {Q1 Q2 : Int → iST → Prop}  {a0 : Int} {a1 : Int} {u : iST} (hQ : ∀ r0 r1, Q1 r0 r1 → Q2 r0 r1) : w_list2 a0 a1 Q1 u → pw_list2 a0 a1 Q2 u := (wp_w_list1 (fun _ _ => (wp_w_pair (fun _ _ => (hQ _ _)))))
def pw_list3 (a0 : Int) (a1 : Int) (a2 : Int) (Q : Int → iST → Prop) (u : iST) : Prop :=
  pw_list2 a1 a2 (fun v1 u => 
  pw_pair a0 v1 (fun v2 u => 
  Q v2 u) u) u
theorem cj_w_list3 {Q1 Q2 Q3 : Int → iST → Prop}  {a0 : Int} {a1 : Int} {a2 : Int} {u : iST} (hQ : ∀ r0 r1, Q1 r0 r1 → Q2 r0 r1 → Q3 r0 r1) : w_list3 a0 a1 a2 Q1 u → pw_list3 a0 a1 a2 Q2 u → w_list3 a0 a1 a2 Q3 u := (cj_w_list2 (fun _ _ => (cj_w_pair (fun _ _ => (hQ _ _)))))
theorem mn_w_list3 {Q1 Q2 : Int → iST → Prop}  {a0 : Int} {a1 : Int} {a2 : Int} {u : iST} (hQ : ∀ r0 r1, Q1 r0 r1 → Q2 r0 r1) : pw_list3 a0 a1 a2 Q1 u → pw_list3 a0 a1 a2 Q2 u := (mn_w_list2 (fun _ _ => (mn_w_pair (fun _ _ => (hQ _ _)))))
theorem wp_w_list3 {Q1 Q2 : Int → iST → Prop}  {a0 : Int} {a1 : Int} {a2 : Int} {u : iST} (hQ : ∀ r0 r1, Q1 r0 r1 → Q2 r0 r1) : w_list3 a0 a1 a2 Q1 u → pw_list3 a0 a1 a2 Q2 u := (wp_w_list2 (fun _ _ => (wp_w_pair (fun _ _ => (hQ _ _)))))
def pw_lengthOf_4b (R4 : Int → Int → iST → Prop) (Q : Int → iST → Prop) (x2 : Int) (x3 : Int) (u : iST) : Prop :=
  pw_isPair x3 (fun v1 u => 
  br (v1 = 0) (
    br (x3 ≠ 0) (
      Q (-1) u) (
      Q x2 u)) (
    ovp (x2 + 1) (
    bdp x3 452000 (rd (u.2.1 1 x3) (fun v3 => 
    R4 (x2 + 1) v3 u))))) u
theorem cj_w_lengthOf_4b {Q1 Q2 Q3 : Int → iST → Prop} {R41 R42 R43 : Int → Int → iST → Prop} {x2 : Int} {x3 : Int} {u : iST} (hR4 : ∀ r0 r1 r2, R41 r0 r1 r2 → R42 r0 r1 r2 → R43 r0 r1 r2) (hQ : ∀ r0 r1, Q1 r0 r1 → Q2 r0 r1 → Q3 r0 r1) : w_lengthOf_4b R41 Q1 x2 x3 u → pw_lengthOf_4b R42 Q2 x2 x3 u → w_lengthOf_4b R43 Q3 x2 x3 u := (cj_w_isPair (fun _ _ => (br_cj (br_cj (hQ _ _) (hQ _ _)) (ov_cj (bd_cj (rd_cj fun _ => (hR4 _ _ _)))))))
theorem mn_w_lengthOf_4b {Q1 Q2 : Int → iST → Prop} {R41 R42 : Int → Int → iST → Prop} {x2 : Int} {x3 : Int} {u : iST} (hR4 : ∀ r0 r1 r2, R41 r0 r1 r2 → R42 r0 r1 r2) (hQ : ∀ r0 r1, Q1 r0 r1 → Q2 r0 r1) : pw_lengthOf_4b R41 Q1 x2 x3 u → pw_lengthOf_4b R42 Q2 x2 x3 u := (mn_w_isPair (fun _ _ => (br_mn (br_mn (hQ _ _) (hQ _ _)) (ov_mn (bd_mn (rd_mn fun _ => (hR4 _ _ _)))))))
theorem wp_w_lengthOf_4b {Q1 Q2 : Int → iST → Prop} {R41 R42 : Int → Int → iST → Prop} {x2 : Int} {x3 : Int} {u : iST} (hR4 : ∀ r0 r1 r2, R41 r0 r1 r2 → R42 r0 r1 r2) (hQ : ∀ r0 r1, Q1 r0 r1 → Q2 r0 r1) : w_lengthOf_4b R41 Q1 x2 x3 u → pw_lengthOf_4b R42 Q2 x2 x3 u := (wp_w_isPair (fun _ _ => (br_wp (br_wp (hQ _ _) (hQ _ _)) (ov_wp (bd_wp (rd_wp fun _ => (hR4 _ _ _)))))))
def pw_lengthOf_4 (Q : Int → iST → Prop) (x2 : Int) (x3 : Int) (u : iST) : Prop := ∃ R4 : Int → Int → iST → Prop, (∀ (x2 : Int) (x3 : Int) (u : iST), R4 x2 x3 u → pw_lengthOf_4b R4 Q x2 x3 u) ∧ R4 x2 x3 u
theorem cj_w_lengthOf_4 {Q1 Q2 Q3 : Int → iST → Prop}  {x2 : Int} {x3 : Int} {u : iST} (hQ : ∀ r0 r1, Q1 r0 r1 → Q2 r0 r1 → Q3 r0 r1) : w_lengthOf_4 Q1 x2 x3 u → pw_lengthOf_4 Q2 x2 x3 u → w_lengthOf_4 Q3 x2 x3 u := by
  intro a b R3 c3
  obtain ⟨R2, c2, b2⟩ := b
  exact a (fun r0 r1 r2 => R2 r0 r1 r2 → R3 r0 r1 r2) (fun r0 r1 r2 a b => c3 r0 r1 r2 (cj_w_lengthOf_4b (fun r0 r1 r2 a b => a b) hQ a (c2 r0 r1 r2 b))) b2
theorem pw_lengthOf_4_i  {Q : Int → iST → Prop} {x2 : Int} {x3 : Int} {u : iST} (I : Int → Int → iST → Prop) (s : ∀ (x2 : Int) (x3 : Int) (u : iST), I x2 x3 u → pw_lengthOf_4b I Q x2 x3 u) (h : I x2 x3 u) : pw_lengthOf_4 Q x2 x3 u := ⟨I, s, h⟩
theorem mn_w_lengthOf_4 {Q1 Q2 : Int → iST → Prop}  {x2 : Int} {x3 : Int} {u : iST} (hQ : ∀ r0 r1, Q1 r0 r1 → Q2 r0 r1) : pw_lengthOf_4 Q1 x2 x3 u → pw_lengthOf_4 Q2 x2 x3 u := fun ⟨R, s, h⟩ => ⟨R, fun r0 r1 r2 a => mn_w_lengthOf_4b (fun r0 r1 r2 a => a) hQ (s r0 r1 r2 a), h⟩
theorem un_w_lengthOf_4  {Q : Int → iST → Prop} {x2 : Int} {x3 : Int} {u : iST} : pw_lengthOf_4 Q x2 x3 u → pw_lengthOf_4b (fun x2 x3 u => pw_lengthOf_4 Q x2 x3 u) Q x2 x3 u := fun ⟨R, s, h⟩ => mn_w_lengthOf_4b (fun r0 r1 r2 a => ⟨R, s, a⟩) (fun _ _ h => h) (s _ _ _ h)
theorem fo_w_lengthOf_4  {Q : Int → iST → Prop} {x2 : Int} {x3 : Int} {u : iST} : pw_lengthOf_4b (fun x2 x3 u => pw_lengthOf_4 Q x2 x3 u) Q x2 x3 u → pw_lengthOf_4 Q x2 x3 u := fun h => ⟨fun x2 x3 u => pw_lengthOf_4b (fun x2 x3 u => pw_lengthOf_4 Q x2 x3 u) Q x2 x3 u, fun r0 r1 r2 a => mn_w_lengthOf_4b (fun r0 r1 r2 a => un_w_lengthOf_4 a) (fun _ _ h => h) a, h⟩
theorem wp_w_lengthOf_4 {Q1 Q2 : Int → iST → Prop}  {x2 : Int} {x3 : Int} {u : iST} (hQ : ∀ r0 r1, Q1 r0 r1 → Q2 r0 r1) : w_lengthOf_4 Q1 x2 x3 u → pw_lengthOf_4 Q2 x2 x3 u := fun a => a (fun x2 x3 u => pw_lengthOf_4 Q2 x2 x3 u) (fun x2 x3 u b => fo_w_lengthOf_4 (wp_w_lengthOf_4b (fun r0 r1 r2 a => a) hQ b))
def pw_lengthOf (a0 : Int) (Q : Int → iST → Prop) (u : iST) : Prop :=
  pw_lengthOf_4 Q 0 a0 u
theorem cj_w_lengthOf {Q1 Q2 Q3 : Int → iST → Prop}  {a0 : Int} {u : iST} (hQ : ∀ r0 r1, Q1 r0 r1 → Q2 r0 r1 → Q3 r0 r1) : w_lengthOf a0 Q1 u → pw_lengthOf a0 Q2 u → w_lengthOf a0 Q3 u := (cj_w_lengthOf_4  hQ)
theorem mn_w_lengthOf {Q1 Q2 : Int → iST → Prop}  {a0 : Int} {u : iST} (hQ : ∀ r0 r1, Q1 r0 r1 → Q2 r0 r1) : pw_lengthOf a0 Q1 u → pw_lengthOf a0 Q2 u := (mn_w_lengthOf_4  hQ)
theorem wp_w_lengthOf {Q1 Q2 : Int → iST → Prop}  {a0 : Int} {u : iST} (hQ : ∀ r0 r1, Q1 r0 r1 → Q2 r0 r1) : w_lengthOf a0 Q1 u → pw_lengthOf a0 Q2 u := (wp_w_lengthOf_4  hQ)
def pw_nth_5b (R5 : Int → Int → Int → iST → Prop) (Q : Int → iST → Prop) (x2 : Int) (x3 : Int) (x4 : Int) (u : iST) : Prop :=
  br (x2 ≤ x4) (
    bdp x3 452000 (rd (u.2.1 0 x3) (fun v1 => 
    Q v1 u))) (
    bdp x3 452000 (rd (u.2.1 1 x3) (fun v2 => 
    ovp (x4 + 1) (
    R5 x2 v2 (x4 + 1) u))))
theorem cj_w_nth_5b {Q1 Q2 Q3 : Int → iST → Prop} {R51 R52 R53 : Int → Int → Int → iST → Prop} {x2 : Int} {x3 : Int} {x4 : Int} {u : iST} (hR5 : ∀ r0 r1 r2 r3, R51 r0 r1 r2 r3 → R52 r0 r1 r2 r3 → R53 r0 r1 r2 r3) (hQ : ∀ r0 r1, Q1 r0 r1 → Q2 r0 r1 → Q3 r0 r1) : w_nth_5b R51 Q1 x2 x3 x4 u → pw_nth_5b R52 Q2 x2 x3 x4 u → w_nth_5b R53 Q3 x2 x3 x4 u := (br_cj (bd_cj (rd_cj fun _ => (hQ _ _))) (bd_cj (rd_cj fun _ => (ov_cj (hR5 _ _ _ _)))))
theorem mn_w_nth_5b {Q1 Q2 : Int → iST → Prop} {R51 R52 : Int → Int → Int → iST → Prop} {x2 : Int} {x3 : Int} {x4 : Int} {u : iST} (hR5 : ∀ r0 r1 r2 r3, R51 r0 r1 r2 r3 → R52 r0 r1 r2 r3) (hQ : ∀ r0 r1, Q1 r0 r1 → Q2 r0 r1) : pw_nth_5b R51 Q1 x2 x3 x4 u → pw_nth_5b R52 Q2 x2 x3 x4 u := (br_mn (bd_mn (rd_mn fun _ => (hQ _ _))) (bd_mn (rd_mn fun _ => (ov_mn (hR5 _ _ _ _)))))
theorem wp_w_nth_5b {Q1 Q2 : Int → iST → Prop} {R51 R52 : Int → Int → Int → iST → Prop} {x2 : Int} {x3 : Int} {x4 : Int} {u : iST} (hR5 : ∀ r0 r1 r2 r3, R51 r0 r1 r2 r3 → R52 r0 r1 r2 r3) (hQ : ∀ r0 r1, Q1 r0 r1 → Q2 r0 r1) : w_nth_5b R51 Q1 x2 x3 x4 u → pw_nth_5b R52 Q2 x2 x3 x4 u := (br_wp (bd_wp (rd_wp fun _ => (hQ _ _))) (bd_wp (rd_wp fun _ => (ov_wp (hR5 _ _ _ _)))))
def pw_nth_5 (Q : Int → iST → Prop) (x2 : Int) (x3 : Int) (x4 : Int) (u : iST) : Prop := ∃ R5 : Int → Int → Int → iST → Prop, (∀ (x2 : Int) (x3 : Int) (x4 : Int) (u : iST), R5 x2 x3 x4 u → pw_nth_5b R5 Q x2 x3 x4 u) ∧ R5 x2 x3 x4 u
theorem cj_w_nth_5 {Q1 Q2 Q3 : Int → iST → Prop}  {x2 : Int} {x3 : Int} {x4 : Int} {u : iST} (hQ : ∀ r0 r1, Q1 r0 r1 → Q2 r0 r1 → Q3 r0 r1) : w_nth_5 Q1 x2 x3 x4 u → pw_nth_5 Q2 x2 x3 x4 u → w_nth_5 Q3 x2 x3 x4 u := by
  intro a b R3 c3
  obtain ⟨R2, c2, b2⟩ := b
  exact a (fun r0 r1 r2 r3 => R2 r0 r1 r2 r3 → R3 r0 r1 r2 r3) (fun r0 r1 r2 r3 a b => c3 r0 r1 r2 r3 (cj_w_nth_5b (fun r0 r1 r2 r3 a b => a b) hQ a (c2 r0 r1 r2 r3 b))) b2
theorem pw_nth_5_i  {Q : Int → iST → Prop} {x2 : Int} {x3 : Int} {x4 : Int} {u : iST} (I : Int → Int → Int → iST → Prop) (s : ∀ (x2 : Int) (x3 : Int) (x4 : Int) (u : iST), I x2 x3 x4 u → pw_nth_5b I Q x2 x3 x4 u) (h : I x2 x3 x4 u) : pw_nth_5 Q x2 x3 x4 u := ⟨I, s, h⟩
theorem mn_w_nth_5 {Q1 Q2 : Int → iST → Prop}  {x2 : Int} {x3 : Int} {x4 : Int} {u : iST} (hQ : ∀ r0 r1, Q1 r0 r1 → Q2 r0 r1) : pw_nth_5 Q1 x2 x3 x4 u → pw_nth_5 Q2 x2 x3 x4 u := fun ⟨R, s, h⟩ => ⟨R, fun r0 r1 r2 r3 a => mn_w_nth_5b (fun r0 r1 r2 r3 a => a) hQ (s r0 r1 r2 r3 a), h⟩
theorem un_w_nth_5  {Q : Int → iST → Prop} {x2 : Int} {x3 : Int} {x4 : Int} {u : iST} : pw_nth_5 Q x2 x3 x4 u → pw_nth_5b (fun x2 x3 x4 u => pw_nth_5 Q x2 x3 x4 u) Q x2 x3 x4 u := fun ⟨R, s, h⟩ => mn_w_nth_5b (fun r0 r1 r2 r3 a => ⟨R, s, a⟩) (fun _ _ h => h) (s _ _ _ _ h)
theorem fo_w_nth_5  {Q : Int → iST → Prop} {x2 : Int} {x3 : Int} {x4 : Int} {u : iST} : pw_nth_5b (fun x2 x3 x4 u => pw_nth_5 Q x2 x3 x4 u) Q x2 x3 x4 u → pw_nth_5 Q x2 x3 x4 u := fun h => ⟨fun x2 x3 x4 u => pw_nth_5b (fun x2 x3 x4 u => pw_nth_5 Q x2 x3 x4 u) Q x2 x3 x4 u, fun r0 r1 r2 r3 a => mn_w_nth_5b (fun r0 r1 r2 r3 a => un_w_nth_5 a) (fun _ _ h => h) a, h⟩
theorem wp_w_nth_5 {Q1 Q2 : Int → iST → Prop}  {x2 : Int} {x3 : Int} {x4 : Int} {u : iST} (hQ : ∀ r0 r1, Q1 r0 r1 → Q2 r0 r1) : w_nth_5 Q1 x2 x3 x4 u → pw_nth_5 Q2 x2 x3 x4 u := fun a => a (fun x2 x3 x4 u => pw_nth_5 Q2 x2 x3 x4 u) (fun x2 x3 x4 u b => fo_w_nth_5 (wp_w_nth_5b (fun r0 r1 r2 r3 a => a) hQ b))
def pw_nth (a0 : Int) (a1 : Int) (Q : Int → iST → Prop) (u : iST) : Prop :=
  pw_nth_5 Q a1 a0 0 u
theorem cj_w_nth {Q1 Q2 Q3 : Int → iST → Prop}  {a0 : Int} {a1 : Int} {u : iST} (hQ : ∀ r0 r1, Q1 r0 r1 → Q2 r0 r1 → Q3 r0 r1) : w_nth a0 a1 Q1 u → pw_nth a0 a1 Q2 u → w_nth a0 a1 Q3 u := (cj_w_nth_5  hQ)
theorem mn_w_nth {Q1 Q2 : Int → iST → Prop}  {a0 : Int} {a1 : Int} {u : iST} (hQ : ∀ r0 r1, Q1 r0 r1 → Q2 r0 r1) : pw_nth a0 a1 Q1 u → pw_nth a0 a1 Q2 u := (mn_w_nth_5  hQ)
theorem wp_w_nth {Q1 Q2 : Int → iST → Prop}  {a0 : Int} {a1 : Int} {u : iST} (hQ : ∀ r0 r1, Q1 r0 r1 → Q2 r0 r1) : w_nth a0 a1 Q1 u → pw_nth a0 a1 Q2 u := (wp_w_nth_5  hQ)
def pw_isDigit (a0 : Int) (Q : Int → iST → Prop) (u : iST) : Prop :=
  br (a0 < 48) (
    ztp 0 (Q 0 u)) (
    br (57 < a0) (
      ztp 0 (Q 0 u)) (
      ztp 1 (Q 1 u)))
theorem cj_w_isDigit {Q1 Q2 Q3 : Int → iST → Prop}  {a0 : Int} {u : iST} (hQ : ∀ r0 r1, Q1 r0 r1 → Q2 r0 r1 → Q3 r0 r1) : w_isDigit a0 Q1 u → pw_isDigit a0 Q2 u → w_isDigit a0 Q3 u := (br_cj (zt_cj (hQ _ _)) (br_cj (zt_cj (hQ _ _)) (zt_cj (hQ _ _))))
theorem mn_w_isDigit {Q1 Q2 : Int → iST → Prop}  {a0 : Int} {u : iST} (hQ : ∀ r0 r1, Q1 r0 r1 → Q2 r0 r1) : pw_isDigit a0 Q1 u → pw_isDigit a0 Q2 u := (br_mn (zt_mn (hQ _ _)) (br_mn (zt_mn (hQ _ _)) (zt_mn (hQ _ _))))
theorem wp_w_isDigit {Q1 Q2 : Int → iST → Prop}  {a0 : Int} {u : iST} (hQ : ∀ r0 r1, Q1 r0 r1 → Q2 r0 r1) : w_isDigit a0 Q1 u → pw_isDigit a0 Q2 u := (br_wp (zt_wp (hQ _ _)) (br_wp (zt_wp (hQ _ _)) (zt_wp (hQ _ _))))
def pw_isAtom_12 (Q : Int → iST → Prop) (x0 : Int) (u : iST) : Prop :=
  pw_isDigit x0 (fun v1 u => 
  br (v1 ≠ 0) (
    ztp 1 (Q 1 u)) (
    br (x0 = 43) (
      ztp 1 (Q 1 u)) (
      br (x0 = 45) (
        ztp 1 (Q 1 u)) (
        br (x0 = 42) (
          ztp 1 (Q 1 u)) (
          br (x0 = 47) (
            ztp 1 (Q 1 u)) (
            br (x0 = 60) (
              ztp 1 (Q 1 u)) (
              br (x0 = 62) (
                ztp 1 (Q 1 u)) (
                br (x0 = 61) (
                  ztp 1 (Q 1 u)) (
                  br (x0 = 63) (
                    ztp 1 (Q 1 u)) (
                    br (x0 = 33) (
                      ztp 1 (Q 1 u)) (
                      br (x0 ≠ 95) (
                        ztp 0 (Q 0 u)) (
                        ztp 1 (Q 1 u))))))))))))) u
theorem cj_w_isAtom_12 {Q1 Q2 Q3 : Int → iST → Prop}  {x0 : Int} {u : iST} (hQ : ∀ r0 r1, Q1 r0 r1 → Q2 r0 r1 → Q3 r0 r1) : w_isAtom_12 Q1 x0 u → pw_isAtom_12 Q2 x0 u → w_isAtom_12 Q3 x0 u := (cj_w_isDigit (fun _ _ => (br_cj (zt_cj (hQ _ _)) (br_cj (zt_cj (hQ _ _)) (br_cj (zt_cj (hQ _ _)) (br_cj (zt_cj (hQ _ _)) (br_cj (zt_cj (hQ _ _)) (br_cj (zt_cj (hQ _ _)) (br_cj (zt_cj (hQ _ _)) (br_cj (zt_cj (hQ _ _)) (br_cj (zt_cj (hQ _ _)) (br_cj (zt_cj (hQ _ _)) (br_cj (zt_cj (hQ _ _)) (zt_cj (hQ _ _)))))))))))))))
theorem mn_w_isAtom_12 {Q1 Q2 : Int → iST → Prop}  {x0 : Int} {u : iST} (hQ : ∀ r0 r1, Q1 r0 r1 → Q2 r0 r1) : pw_isAtom_12 Q1 x0 u → pw_isAtom_12 Q2 x0 u := (mn_w_isDigit (fun _ _ => (br_mn (zt_mn (hQ _ _)) (br_mn (zt_mn (hQ _ _)) (br_mn (zt_mn (hQ _ _)) (br_mn (zt_mn (hQ _ _)) (br_mn (zt_mn (hQ _ _)) (br_mn (zt_mn (hQ _ _)) (br_mn (zt_mn (hQ _ _)) (br_mn (zt_mn (hQ _ _)) (br_mn (zt_mn (hQ _ _)) (br_mn (zt_mn (hQ _ _)) (br_mn (zt_mn (hQ _ _)) (zt_mn (hQ _ _)))))))))))))))
theorem wp_w_isAtom_12 {Q1 Q2 : Int → iST → Prop}  {x0 : Int} {u : iST} (hQ : ∀ r0 r1, Q1 r0 r1 → Q2 r0 r1) : w_isAtom_12 Q1 x0 u → pw_isAtom_12 Q2 x0 u := (wp_w_isDigit (fun _ _ => (br_wp (zt_wp (hQ _ _)) (br_wp (zt_wp (hQ _ _)) (br_wp (zt_wp (hQ _ _)) (br_wp (zt_wp (hQ _ _)) (br_wp (zt_wp (hQ _ _)) (br_wp (zt_wp (hQ _ _)) (br_wp (zt_wp (hQ _ _)) (br_wp (zt_wp (hQ _ _)) (br_wp (zt_wp (hQ _ _)) (br_wp (zt_wp (hQ _ _)) (br_wp (zt_wp (hQ _ _)) (zt_wp (hQ _ _)))))))))))))))
def pw_isAtom (a0 : Int) (Q : Int → iST → Prop) (u : iST) : Prop :=
  br (a0 < 97) (
    pw_isAtom_12 Q a0 u) (
    br (a0 ≤ 122) (
      ztp 1 (Q 1 u)) (
      pw_isAtom_12 Q a0 u))
theorem cj_w_isAtom {Q1 Q2 Q3 : Int → iST → Prop}  {a0 : Int} {u : iST} (hQ : ∀ r0 r1, Q1 r0 r1 → Q2 r0 r1 → Q3 r0 r1) : w_isAtom a0 Q1 u → pw_isAtom a0 Q2 u → w_isAtom a0 Q3 u := (br_cj (cj_w_isAtom_12  hQ) (br_cj (zt_cj (hQ _ _)) (cj_w_isAtom_12  hQ)))
theorem mn_w_isAtom {Q1 Q2 : Int → iST → Prop}  {a0 : Int} {u : iST} (hQ : ∀ r0 r1, Q1 r0 r1 → Q2 r0 r1) : pw_isAtom a0 Q1 u → pw_isAtom a0 Q2 u := (br_mn (mn_w_isAtom_12  hQ) (br_mn (zt_mn (hQ _ _)) (mn_w_isAtom_12  hQ)))
theorem wp_w_isAtom {Q1 Q2 : Int → iST → Prop}  {a0 : Int} {u : iST} (hQ : ∀ r0 r1, Q1 r0 r1 → Q2 r0 r1) : w_isAtom a0 Q1 u → pw_isAtom a0 Q2 u := (br_wp (wp_w_isAtom_12  hQ) (br_wp (zt_wp (hQ _ _)) (wp_w_isAtom_12  hQ)))
def pw_skip_97 (R2 : Int → iST → Prop) (Q : iST → Prop) (x1 : Int) (u : iST) : Prop :=
  rd (u.1 23) (fun v7 => 
  ovp (v7 + 1) (
  sw (iI u 23 (v7 + 1)) (fun u => 
  R2 x1 u)))
theorem cj_w_skip_97 {Q1 Q2 Q3 : iST → Prop} {R21 R22 R23 : Int → iST → Prop} {x1 : Int} {u : iST} (hR2 : ∀ r0 r1, R21 r0 r1 → R22 r0 r1 → R23 r0 r1) (hQ : ∀ r0, Q1 r0 → Q2 r0 → Q3 r0) : w_skip_97 R21 Q1 x1 u → pw_skip_97 R22 Q2 x1 u → w_skip_97 R23 Q3 x1 u := (rd_cj fun _ => (ov_cj (sw_cj fun _ => (hR2 _ _))))
theorem mn_w_skip_97 {Q1 Q2 : iST → Prop} {R21 R22 : Int → iST → Prop} {x1 : Int} {u : iST} (hR2 : ∀ r0 r1, R21 r0 r1 → R22 r0 r1) (hQ : ∀ r0, Q1 r0 → Q2 r0) : pw_skip_97 R21 Q1 x1 u → pw_skip_97 R22 Q2 x1 u := (rd_mn fun _ => (ov_mn (sw_mn fun _ => (hR2 _ _))))
theorem wp_w_skip_97 {Q1 Q2 : iST → Prop} {R21 R22 : Int → iST → Prop} {x1 : Int} {u : iST} (hR2 : ∀ r0 r1, R21 r0 r1 → R22 r0 r1) (hQ : ∀ r0, Q1 r0 → Q2 r0) : w_skip_97 R21 Q1 x1 u → pw_skip_97 R22 Q2 x1 u := (rd_wp fun _ => (ov_wp (sw_wp fun _ => (hR2 _ _))))
def pw_skip_31b (R2 : Int → iST → Prop) (R31 : Int → iST → Prop) (Q : iST → Prop) (x1 : Int) (u : iST) : Prop :=
  rd (u.1 23) (fun v11 => 
  rd (u.1 14) (fun v12 => 
  br (v12 ≤ v11) (
    R2 x1 u) (
    rd (u.1 23) (fun v13 => 
    bdp v13 3000 (rd (u.2.1 13 v13) (fun v14 => 
    br (v14 = 10) (
      R2 x1 u) (
      rd (u.1 23) (fun v15 => 
      ovp (v15 + 1) (
      sw (iI u 23 (v15 + 1)) (fun u => 
      R31 x1 u))))))))))
theorem cj_w_skip_31b {Q1 Q2 Q3 : iST → Prop} {R21 R22 R23 : Int → iST → Prop} {R311 R312 R313 : Int → iST → Prop} {x1 : Int} {u : iST} (hR2 : ∀ r0 r1, R21 r0 r1 → R22 r0 r1 → R23 r0 r1) (hR31 : ∀ r0 r1, R311 r0 r1 → R312 r0 r1 → R313 r0 r1) (hQ : ∀ r0, Q1 r0 → Q2 r0 → Q3 r0) : w_skip_31b R21 R311 Q1 x1 u → pw_skip_31b R22 R312 Q2 x1 u → w_skip_31b R23 R313 Q3 x1 u := (rd_cj fun _ => (rd_cj fun _ => (br_cj (hR2 _ _) (rd_cj fun _ => (bd_cj (rd_cj fun _ => (br_cj (hR2 _ _) (rd_cj fun _ => (ov_cj (sw_cj fun _ => (hR31 _ _)))))))))))
theorem mn_w_skip_31b {Q1 Q2 : iST → Prop} {R21 R22 : Int → iST → Prop} {R311 R312 : Int → iST → Prop} {x1 : Int} {u : iST} (hR2 : ∀ r0 r1, R21 r0 r1 → R22 r0 r1) (hR31 : ∀ r0 r1, R311 r0 r1 → R312 r0 r1) (hQ : ∀ r0, Q1 r0 → Q2 r0) : pw_skip_31b R21 R311 Q1 x1 u → pw_skip_31b R22 R312 Q2 x1 u := (rd_mn fun _ => (rd_mn fun _ => (br_mn (hR2 _ _) (rd_mn fun _ => (bd_mn (rd_mn fun _ => (br_mn (hR2 _ _) (rd_mn fun _ => (ov_mn (sw_mn fun _ => (hR31 _ _)))))))))))
theorem wp_w_skip_31b {Q1 Q2 : iST → Prop} {R21 R22 : Int → iST → Prop} {R311 R312 : Int → iST → Prop} {x1 : Int} {u : iST} (hR2 : ∀ r0 r1, R21 r0 r1 → R22 r0 r1) (hR31 : ∀ r0 r1, R311 r0 r1 → R312 r0 r1) (hQ : ∀ r0, Q1 r0 → Q2 r0) : w_skip_31b R21 R311 Q1 x1 u → pw_skip_31b R22 R312 Q2 x1 u := (rd_wp fun _ => (rd_wp fun _ => (br_wp (hR2 _ _) (rd_wp fun _ => (bd_wp (rd_wp fun _ => (br_wp (hR2 _ _) (rd_wp fun _ => (ov_wp (sw_wp fun _ => (hR31 _ _)))))))))))
def pw_skip_31 (R2 : Int → iST → Prop) (Q : iST → Prop) (x1 : Int) (u : iST) : Prop := ∃ R31 : Int → iST → Prop, (∀ (x1 : Int) (u : iST), R31 x1 u → pw_skip_31b R2 R31 Q x1 u) ∧ R31 x1 u
theorem cj_w_skip_31 {Q1 Q2 Q3 : iST → Prop} {R21 R22 R23 : Int → iST → Prop} {x1 : Int} {u : iST} (hR2 : ∀ r0 r1, R21 r0 r1 → R22 r0 r1 → R23 r0 r1) (hQ : ∀ r0, Q1 r0 → Q2 r0 → Q3 r0) : w_skip_31 R21 Q1 x1 u → pw_skip_31 R22 Q2 x1 u → w_skip_31 R23 Q3 x1 u := by
  intro a b R3 c3
  obtain ⟨R2, c2, b2⟩ := b
  exact a (fun r0 r1 => R2 r0 r1 → R3 r0 r1) (fun r0 r1 a b => c3 r0 r1 (cj_w_skip_31b hR2 (fun r0 r1 a b => a b) hQ a (c2 r0 r1 b))) b2
theorem pw_skip_31_i {R2 : Int → iST → Prop} {Q : iST → Prop} {x1 : Int} {u : iST} (I : Int → iST → Prop) (s : ∀ (x1 : Int) (u : iST), I x1 u → pw_skip_31b R2 I Q x1 u) (h : I x1 u) : pw_skip_31 R2 Q x1 u := ⟨I, s, h⟩
theorem mn_w_skip_31 {Q1 Q2 : iST → Prop} {R21 R22 : Int → iST → Prop} {x1 : Int} {u : iST} (hR2 : ∀ r0 r1, R21 r0 r1 → R22 r0 r1) (hQ : ∀ r0, Q1 r0 → Q2 r0) : pw_skip_31 R21 Q1 x1 u → pw_skip_31 R22 Q2 x1 u := fun ⟨R, s, h⟩ => ⟨R, fun r0 r1 a => mn_w_skip_31b hR2 (fun r0 r1 a => a) hQ (s r0 r1 a), h⟩
theorem un_w_skip_31 {R2 : Int → iST → Prop} {Q : iST → Prop} {x1 : Int} {u : iST} : pw_skip_31 R2 Q x1 u → pw_skip_31b R2 (fun x1 u => pw_skip_31 R2 Q x1 u) Q x1 u := fun ⟨R, s, h⟩ => mn_w_skip_31b (fun _ _ h => h) (fun r0 r1 a => ⟨R, s, a⟩) (fun _ h => h) (s _ _ h)
theorem fo_w_skip_31 {R2 : Int → iST → Prop} {Q : iST → Prop} {x1 : Int} {u : iST} : pw_skip_31b R2 (fun x1 u => pw_skip_31 R2 Q x1 u) Q x1 u → pw_skip_31 R2 Q x1 u := fun h => ⟨fun x1 u => pw_skip_31b R2 (fun x1 u => pw_skip_31 R2 Q x1 u) Q x1 u, fun r0 r1 a => mn_w_skip_31b (fun _ _ h => h) (fun r0 r1 a => un_w_skip_31 a) (fun _ h => h) a, h⟩
theorem wp_w_skip_31 {Q1 Q2 : iST → Prop} {R21 R22 : Int → iST → Prop} {x1 : Int} {u : iST} (hR2 : ∀ r0 r1, R21 r0 r1 → R22 r0 r1) (hQ : ∀ r0, Q1 r0 → Q2 r0) : w_skip_31 R21 Q1 x1 u → pw_skip_31 R22 Q2 x1 u := fun a => a (fun x1 u => pw_skip_31 R22 Q2 x1 u) (fun x1 u b => fo_w_skip_31 (wp_w_skip_31b hR2 (fun r0 r1 a => a) hQ b))
def pw_skip_2b (R2 : Int → iST → Prop) (Q : iST → Prop) (x1 : Int) (u : iST) : Prop :=
  br (x1 = 0) (
    Q u) (
    rd (u.1 23) (fun v1 => 
    rd (u.1 14) (fun v2 => 
    br (v2 ≤ v1) (
      Q u) (
      rd (u.1 23) (fun v3 => 
      bdp v3 3000 (rd (u.2.1 13 v3) (fun v4 => 
      br (v4 ≠ 59) (
        rd (u.1 23) (fun v5 => 
        bdp v5 3000 (rd (u.2.1 13 v5) (fun v6 => 
        br (v6 = 32) (
          pw_skip_97 R2 Q x1 u) (
          rd (u.1 23) (fun v9 => 
          bdp v9 3000 (rd (u.2.1 13 v9) (fun v10 => 
          br (v10 ≠ 10) (
            R2 0 u) (
            pw_skip_97 R2 Q x1 u))))))))) (
        pw_skip_31 R2 Q x1 u))))))))
theorem cj_w_skip_2b {Q1 Q2 Q3 : iST → Prop} {R21 R22 R23 : Int → iST → Prop} {x1 : Int} {u : iST} (hR2 : ∀ r0 r1, R21 r0 r1 → R22 r0 r1 → R23 r0 r1) (hQ : ∀ r0, Q1 r0 → Q2 r0 → Q3 r0) : w_skip_2b R21 Q1 x1 u → pw_skip_2b R22 Q2 x1 u → w_skip_2b R23 Q3 x1 u := (br_cj (hQ _) (rd_cj fun _ => (rd_cj fun _ => (br_cj (hQ _) (rd_cj fun _ => (bd_cj (rd_cj fun _ => (br_cj (rd_cj fun _ => (bd_cj (rd_cj fun _ => (br_cj (cj_w_skip_97 hR2 hQ) (rd_cj fun _ => (bd_cj (rd_cj fun _ => (br_cj (hR2 _ _) (cj_w_skip_97 hR2 hQ))))))))) (cj_w_skip_31 hR2 hQ)))))))))
theorem mn_w_skip_2b {Q1 Q2 : iST → Prop} {R21 R22 : Int → iST → Prop} {x1 : Int} {u : iST} (hR2 : ∀ r0 r1, R21 r0 r1 → R22 r0 r1) (hQ : ∀ r0, Q1 r0 → Q2 r0) : pw_skip_2b R21 Q1 x1 u → pw_skip_2b R22 Q2 x1 u := (br_mn (hQ _) (rd_mn fun _ => (rd_mn fun _ => (br_mn (hQ _) (rd_mn fun _ => (bd_mn (rd_mn fun _ => (br_mn (rd_mn fun _ => (bd_mn (rd_mn fun _ => (br_mn (mn_w_skip_97 hR2 hQ) (rd_mn fun _ => (bd_mn (rd_mn fun _ => (br_mn (hR2 _ _) (mn_w_skip_97 hR2 hQ))))))))) (mn_w_skip_31 hR2 hQ)))))))))
theorem wp_w_skip_2b {Q1 Q2 : iST → Prop} {R21 R22 : Int → iST → Prop} {x1 : Int} {u : iST} (hR2 : ∀ r0 r1, R21 r0 r1 → R22 r0 r1) (hQ : ∀ r0, Q1 r0 → Q2 r0) : w_skip_2b R21 Q1 x1 u → pw_skip_2b R22 Q2 x1 u := (br_wp (hQ _) (rd_wp fun _ => (rd_wp fun _ => (br_wp (hQ _) (rd_wp fun _ => (bd_wp (rd_wp fun _ => (br_wp (rd_wp fun _ => (bd_wp (rd_wp fun _ => (br_wp (wp_w_skip_97 hR2 hQ) (rd_wp fun _ => (bd_wp (rd_wp fun _ => (br_wp (hR2 _ _) (wp_w_skip_97 hR2 hQ))))))))) (wp_w_skip_31 hR2 hQ)))))))))
def pw_skip_2 (Q : iST → Prop) (x1 : Int) (u : iST) : Prop := ∃ R2 : Int → iST → Prop, (∀ (x1 : Int) (u : iST), R2 x1 u → pw_skip_2b R2 Q x1 u) ∧ R2 x1 u
theorem cj_w_skip_2 {Q1 Q2 Q3 : iST → Prop}  {x1 : Int} {u : iST} (hQ : ∀ r0, Q1 r0 → Q2 r0 → Q3 r0) : w_skip_2 Q1 x1 u → pw_skip_2 Q2 x1 u → w_skip_2 Q3 x1 u := by
  intro a b R3 c3
  obtain ⟨R2, c2, b2⟩ := b
  exact a (fun r0 r1 => R2 r0 r1 → R3 r0 r1) (fun r0 r1 a b => c3 r0 r1 (cj_w_skip_2b (fun r0 r1 a b => a b) hQ a (c2 r0 r1 b))) b2
theorem pw_skip_2_i  {Q : iST → Prop} {x1 : Int} {u : iST} (I : Int → iST → Prop) (s : ∀ (x1 : Int) (u : iST), I x1 u → pw_skip_2b I Q x1 u) (h : I x1 u) : pw_skip_2 Q x1 u := ⟨I, s, h⟩
theorem mn_w_skip_2 {Q1 Q2 : iST → Prop}  {x1 : Int} {u : iST} (hQ : ∀ r0, Q1 r0 → Q2 r0) : pw_skip_2 Q1 x1 u → pw_skip_2 Q2 x1 u := fun ⟨R, s, h⟩ => ⟨R, fun r0 r1 a => mn_w_skip_2b (fun r0 r1 a => a) hQ (s r0 r1 a), h⟩
theorem un_w_skip_2  {Q : iST → Prop} {x1 : Int} {u : iST} : pw_skip_2 Q x1 u → pw_skip_2b (fun x1 u => pw_skip_2 Q x1 u) Q x1 u := fun ⟨R, s, h⟩ => mn_w_skip_2b (fun r0 r1 a => ⟨R, s, a⟩) (fun _ h => h) (s _ _ h)
theorem fo_w_skip_2  {Q : iST → Prop} {x1 : Int} {u : iST} : pw_skip_2b (fun x1 u => pw_skip_2 Q x1 u) Q x1 u → pw_skip_2 Q x1 u := fun h => ⟨fun x1 u => pw_skip_2b (fun x1 u => pw_skip_2 Q x1 u) Q x1 u, fun r0 r1 a => mn_w_skip_2b (fun r0 r1 a => un_w_skip_2 a) (fun _ h => h) a, h⟩
theorem wp_w_skip_2 {Q1 Q2 : iST → Prop}  {x1 : Int} {u : iST} (hQ : ∀ r0, Q1 r0 → Q2 r0) : w_skip_2 Q1 x1 u → pw_skip_2 Q2 x1 u := fun a => a (fun x1 u => pw_skip_2 Q2 x1 u) (fun x1 u b => fo_w_skip_2 (wp_w_skip_2b (fun r0 r1 a => a) hQ b))
def pw_skip (Q : iST → Prop) (u : iST) : Prop :=
  pw_skip_2 Q 1 u
theorem cj_w_skip {Q1 Q2 Q3 : iST → Prop}  {u : iST} (hQ : ∀ r0, Q1 r0 → Q2 r0 → Q3 r0) : w_skip Q1 u → pw_skip Q2 u → w_skip Q3 u := (cj_w_skip_2  hQ)
theorem mn_w_skip {Q1 Q2 : iST → Prop}  {u : iST} (hQ : ∀ r0, Q1 r0 → Q2 r0) : pw_skip Q1 u → pw_skip Q2 u := (mn_w_skip_2  hQ)
theorem wp_w_skip {Q1 Q2 : iST → Prop}  {u : iST} (hQ : ∀ r0, Q1 r0 → Q2 r0) : w_skip Q1 u → pw_skip Q2 u := (wp_w_skip_2  hQ)
def pw_bad (a0 : Int) (a1 : Int) (Q : iST → Prop) (u : iST) : Prop :=
  rd (u.1 24) (fun v1 => 
  br (v1 = 0) (
    sw (iI u 24 a0) (fun u => 
    sw (iI u 25 a1) (fun u => 
    Q u))) (
    Q u))
theorem cj_w_bad {Q1 Q2 Q3 : iST → Prop}  {a0 : Int} {a1 : Int} {u : iST} (hQ : ∀ r0, Q1 r0 → Q2 r0 → Q3 r0) : w_bad a0 a1 Q1 u → pw_bad a0 a1 Q2 u → w_bad a0 a1 Q3 u := (rd_cj fun _ => (br_cj (sw_cj fun _ => (sw_cj fun _ => (hQ _))) (hQ _)))
theorem mn_w_bad {Q1 Q2 : iST → Prop}  {a0 : Int} {a1 : Int} {u : iST} (hQ : ∀ r0, Q1 r0 → Q2 r0) : pw_bad a0 a1 Q1 u → pw_bad a0 a1 Q2 u := (rd_mn fun _ => (br_mn (sw_mn fun _ => (sw_mn fun _ => (hQ _))) (hQ _)))
theorem wp_w_bad {Q1 Q2 : iST → Prop}  {a0 : Int} {a1 : Int} {u : iST} (hQ : ∀ r0, Q1 r0 → Q2 r0) : w_bad a0 a1 Q1 u → pw_bad a0 a1 Q2 u := (rd_wp fun _ => (br_wp (sw_wp fun _ => (sw_wp fun _ => (hQ _))) (hQ _)))
def pw_mayBegin (Q : Int → iST → Prop) (u : iST) : Prop :=
  rd (u.1 30) (fun v1 => 
  br (v1 ≠ 0) (
    rd (u.1 30) (fun v2 => 
    ovp (v2 - 1) (
    bdp (v2 - 1) 40 (rd (u.2.1 26 (v2 - 1)) (fun v4 => 
    br (v4 = 1) (
      ztp 1 (Q 1 u)) (
      rd (u.1 30) (fun v5 => 
      ovp (v5 - 1) (
      bdp (v5 - 1) 40 (rd (u.2.1 28 (v5 - 1)) (fun v7 => 
      br (2 ≤ v7) (
        ztp 0 (Q 0 u)) (
        ztp 1 (Q 1 u)))))))))))) (
    rz (u.1 34) (fun v8 => 
    br (v8 ≠ 0) (
      ztp 0 (Q 0 u)) (
      ztp 1 (Q 1 u)))))
theorem cj_w_mayBegin {Q1 Q2 Q3 : Int → iST → Prop}  {u : iST} (hQ : ∀ r0 r1, Q1 r0 r1 → Q2 r0 r1 → Q3 r0 r1) : w_mayBegin Q1 u → pw_mayBegin Q2 u → w_mayBegin Q3 u := (rd_cj fun _ => (br_cj (rd_cj fun _ => (ov_cj (bd_cj (rd_cj fun _ => (br_cj (zt_cj (hQ _ _)) (rd_cj fun _ => (ov_cj (bd_cj (rd_cj fun _ => (br_cj (zt_cj (hQ _ _)) (zt_cj (hQ _ _)))))))))))) (rz_cj fun _ => (br_cj (zt_cj (hQ _ _)) (zt_cj (hQ _ _))))))
theorem mn_w_mayBegin {Q1 Q2 : Int → iST → Prop}  {u : iST} (hQ : ∀ r0 r1, Q1 r0 r1 → Q2 r0 r1) : pw_mayBegin Q1 u → pw_mayBegin Q2 u := (rd_mn fun _ => (br_mn (rd_mn fun _ => (ov_mn (bd_mn (rd_mn fun _ => (br_mn (zt_mn (hQ _ _)) (rd_mn fun _ => (ov_mn (bd_mn (rd_mn fun _ => (br_mn (zt_mn (hQ _ _)) (zt_mn (hQ _ _)))))))))))) (rz_mn fun _ => (br_mn (zt_mn (hQ _ _)) (zt_mn (hQ _ _))))))
theorem wp_w_mayBegin {Q1 Q2 : Int → iST → Prop}  {u : iST} (hQ : ∀ r0 r1, Q1 r0 r1 → Q2 r0 r1) : w_mayBegin Q1 u → pw_mayBegin Q2 u := (rd_wp fun _ => (br_wp (rd_wp fun _ => (ov_wp (bd_wp (rd_wp fun _ => (br_wp (zt_wp (hQ _ _)) (rd_wp fun _ => (ov_wp (bd_wp (rd_wp fun _ => (br_wp (zt_wp (hQ _ _)) (zt_wp (hQ _ _)))))))))))) (rz_wp fun _ => (br_wp (zt_wp (hQ _ _)) (zt_wp (hQ _ _))))))
def pw_begin (a0 : Int) (Q : iST → Prop) (u : iST) : Prop :=
  rd (u.1 30) (fun v1 => 
  bdp v1 40 (sw (iA u 26 v1 a0) (fun u => 
  rd (u.1 30) (fun v2 => 
  rd (u.1 32) (fun v3 => 
  bdp v2 40 (sw (iA u 27 v2 v3) (fun u => 
  rd (u.1 30) (fun v4 => 
  bdp v4 40 (sw (iA u 28 v4 0) (fun u => 
  rd (u.1 30) (fun v5 => 
  ovp (v5 + 1) (
  sw (iI u 30 (v5 + 1)) (fun u => 
  Q u)))))))))))))
theorem cj_w_begin {Q1 Q2 Q3 : iST → Prop}  {a0 : Int} {u : iST} (hQ : ∀ r0, Q1 r0 → Q2 r0 → Q3 r0) : w_begin a0 Q1 u → pw_begin a0 Q2 u → w_begin a0 Q3 u := (rd_cj fun _ => (bd_cj (sw_cj fun _ => (rd_cj fun _ => (rd_cj fun _ => (bd_cj (sw_cj fun _ => (rd_cj fun _ => (bd_cj (sw_cj fun _ => (rd_cj fun _ => (ov_cj (sw_cj fun _ => (hQ _))))))))))))))
theorem mn_w_begin {Q1 Q2 : iST → Prop}  {a0 : Int} {u : iST} (hQ : ∀ r0, Q1 r0 → Q2 r0) : pw_begin a0 Q1 u → pw_begin a0 Q2 u := (rd_mn fun _ => (bd_mn (sw_mn fun _ => (rd_mn fun _ => (rd_mn fun _ => (bd_mn (sw_mn fun _ => (rd_mn fun _ => (bd_mn (sw_mn fun _ => (rd_mn fun _ => (ov_mn (sw_mn fun _ => (hQ _))))))))))))))
theorem wp_w_begin {Q1 Q2 : iST → Prop}  {a0 : Int} {u : iST} (hQ : ∀ r0, Q1 r0 → Q2 r0) : w_begin a0 Q1 u → pw_begin a0 Q2 u := (rd_wp fun _ => (bd_wp (sw_wp fun _ => (rd_wp fun _ => (rd_wp fun _ => (bd_wp (sw_wp fun _ => (rd_wp fun _ => (bd_wp (sw_wp fun _ => (rd_wp fun _ => (ov_wp (sw_wp fun _ => (hQ _))))))))))))))
def pw_deliver_44 (Q : iST → Prop) (x2 : Int) (u : iST) : Prop :=
  rd (u.1 30) (fun v2 => 
  br (v2 ≠ 0) (
    rd (u.1 30) (fun v3 => 
    ovp (v3 - 1) (
    bdp (v3 - 1) 40 (rd (u.2.1 28 (v3 - 1)) (fun v5 => 
    br (v5 ≠ 1) (
      rd (u.1 32) (fun v6 => 
      bdp v6 1100 (sw (iA u 31 v6 x2) (fun u => 
      rd (u.1 32) (fun v7 => 
      ovp (v7 + 1) (
      sw (iI u 32 (v7 + 1)) (fun u => 
      Q u))))))) (
      rd (u.1 30) (fun v9 => 
      ovp (v9 - 1) (
      bdp (v9 - 1) 40 (sw (iA u 29 (v9 - 1) x2) (fun u => 
      rd (u.1 30) (fun v11 => 
      ovp (v11 - 1) (
      bdp (v11 - 1) 40 (sw (iA u 28 (v11 - 1) 2) (fun u => 
      Q u)))))))))))))) (
    sw (iI u 33 x2) (fun u => 
    ztp 1 (sw (iI u 34 1) (fun u => 
    Q u)))))
theorem cj_w_deliver_44 {Q1 Q2 Q3 : iST → Prop}  {x2 : Int} {u : iST} (hQ : ∀ r0, Q1 r0 → Q2 r0 → Q3 r0) : w_deliver_44 Q1 x2 u → pw_deliver_44 Q2 x2 u → w_deliver_44 Q3 x2 u := (rd_cj fun _ => (br_cj (rd_cj fun _ => (ov_cj (bd_cj (rd_cj fun _ => (br_cj (rd_cj fun _ => (bd_cj (sw_cj fun _ => (rd_cj fun _ => (ov_cj (sw_cj fun _ => (hQ _))))))) (rd_cj fun _ => (ov_cj (bd_cj (sw_cj fun _ => (rd_cj fun _ => (ov_cj (bd_cj (sw_cj fun _ => (hQ _)))))))))))))) (sw_cj fun _ => (zt_cj (sw_cj fun _ => (hQ _))))))
theorem mn_w_deliver_44 {Q1 Q2 : iST → Prop}  {x2 : Int} {u : iST} (hQ : ∀ r0, Q1 r0 → Q2 r0) : pw_deliver_44 Q1 x2 u → pw_deliver_44 Q2 x2 u := (rd_mn fun _ => (br_mn (rd_mn fun _ => (ov_mn (bd_mn (rd_mn fun _ => (br_mn (rd_mn fun _ => (bd_mn (sw_mn fun _ => (rd_mn fun _ => (ov_mn (sw_mn fun _ => (hQ _))))))) (rd_mn fun _ => (ov_mn (bd_mn (sw_mn fun _ => (rd_mn fun _ => (ov_mn (bd_mn (sw_mn fun _ => (hQ _)))))))))))))) (sw_mn fun _ => (zt_mn (sw_mn fun _ => (hQ _))))))
theorem wp_w_deliver_44 {Q1 Q2 : iST → Prop}  {x2 : Int} {u : iST} (hQ : ∀ r0, Q1 r0 → Q2 r0) : w_deliver_44 Q1 x2 u → pw_deliver_44 Q2 x2 u := (rd_wp fun _ => (br_wp (rd_wp fun _ => (ov_wp (bd_wp (rd_wp fun _ => (br_wp (rd_wp fun _ => (bd_wp (sw_wp fun _ => (rd_wp fun _ => (ov_wp (sw_wp fun _ => (hQ _))))))) (rd_wp fun _ => (ov_wp (bd_wp (sw_wp fun _ => (rd_wp fun _ => (ov_wp (bd_wp (sw_wp fun _ => (hQ _)))))))))))))) (sw_wp fun _ => (zt_wp (sw_wp fun _ => (hQ _))))))
def pw_deliver_2b (R2 : Int → iST → Prop) (Q : iST → Prop) (x2 : Int) (u : iST) : Prop :=
  rd (u.1 30) (fun v1 => 
  br (v1 ≤ 0) (
    pw_deliver_44 Q x2 u) (
    rd (u.1 30) (fun v13 => 
    ovp (v13 - 1) (
    bdp (v13 - 1) 40 (rd (u.2.1 26 (v13 - 1)) (fun v15 => 
    br (v15 ≠ 1) (
      pw_deliver_44 Q x2 u) (
      pw_list2 2 x2 (fun v16 u => 
      rd (u.1 30) (fun v17 => 
      ovp (v17 - 1) (
      sw (iI u 30 (v17 - 1)) (fun u => 
      R2 v16 u)))) u)))))))
theorem cj_w_deliver_2b {Q1 Q2 Q3 : iST → Prop} {R21 R22 R23 : Int → iST → Prop} {x2 : Int} {u : iST} (hR2 : ∀ r0 r1, R21 r0 r1 → R22 r0 r1 → R23 r0 r1) (hQ : ∀ r0, Q1 r0 → Q2 r0 → Q3 r0) : w_deliver_2b R21 Q1 x2 u → pw_deliver_2b R22 Q2 x2 u → w_deliver_2b R23 Q3 x2 u := (rd_cj fun _ => (br_cj (cj_w_deliver_44  hQ) (rd_cj fun _ => (ov_cj (bd_cj (rd_cj fun _ => (br_cj (cj_w_deliver_44  hQ) (cj_w_list2 (fun _ _ => (rd_cj fun _ => (ov_cj (sw_cj fun _ => (hR2 _ _)))))))))))))
theorem mn_w_deliver_2b {Q1 Q2 : iST → Prop} {R21 R22 : Int → iST → Prop} {x2 : Int} {u : iST} (hR2 : ∀ r0 r1, R21 r0 r1 → R22 r0 r1) (hQ : ∀ r0, Q1 r0 → Q2 r0) : pw_deliver_2b R21 Q1 x2 u → pw_deliver_2b R22 Q2 x2 u := (rd_mn fun _ => (br_mn (mn_w_deliver_44  hQ) (rd_mn fun _ => (ov_mn (bd_mn (rd_mn fun _ => (br_mn (mn_w_deliver_44  hQ) (mn_w_list2 (fun _ _ => (rd_mn fun _ => (ov_mn (sw_mn fun _ => (hR2 _ _)))))))))))))
theorem wp_w_deliver_2b {Q1 Q2 : iST → Prop} {R21 R22 : Int → iST → Prop} {x2 : Int} {u : iST} (hR2 : ∀ r0 r1, R21 r0 r1 → R22 r0 r1) (hQ : ∀ r0, Q1 r0 → Q2 r0) : w_deliver_2b R21 Q1 x2 u → pw_deliver_2b R22 Q2 x2 u := (rd_wp fun _ => (br_wp (wp_w_deliver_44  hQ) (rd_wp fun _ => (ov_wp (bd_wp (rd_wp fun _ => (br_wp (wp_w_deliver_44  hQ) (wp_w_list2 (fun _ _ => (rd_wp fun _ => (ov_wp (sw_wp fun _ => (hR2 _ _)))))))))))))
def pw_deliver_2 (Q : iST → Prop) (x2 : Int) (u : iST) : Prop := ∃ R2 : Int → iST → Prop, (∀ (x2 : Int) (u : iST), R2 x2 u → pw_deliver_2b R2 Q x2 u) ∧ R2 x2 u
theorem cj_w_deliver_2 {Q1 Q2 Q3 : iST → Prop}  {x2 : Int} {u : iST} (hQ : ∀ r0, Q1 r0 → Q2 r0 → Q3 r0) : w_deliver_2 Q1 x2 u → pw_deliver_2 Q2 x2 u → w_deliver_2 Q3 x2 u := by
  intro a b R3 c3
  obtain ⟨R2, c2, b2⟩ := b
  exact a (fun r0 r1 => R2 r0 r1 → R3 r0 r1) (fun r0 r1 a b => c3 r0 r1 (cj_w_deliver_2b (fun r0 r1 a b => a b) hQ a (c2 r0 r1 b))) b2
theorem pw_deliver_2_i  {Q : iST → Prop} {x2 : Int} {u : iST} (I : Int → iST → Prop) (s : ∀ (x2 : Int) (u : iST), I x2 u → pw_deliver_2b I Q x2 u) (h : I x2 u) : pw_deliver_2 Q x2 u := ⟨I, s, h⟩
theorem mn_w_deliver_2 {Q1 Q2 : iST → Prop}  {x2 : Int} {u : iST} (hQ : ∀ r0, Q1 r0 → Q2 r0) : pw_deliver_2 Q1 x2 u → pw_deliver_2 Q2 x2 u := fun ⟨R, s, h⟩ => ⟨R, fun r0 r1 a => mn_w_deliver_2b (fun r0 r1 a => a) hQ (s r0 r1 a), h⟩
theorem un_w_deliver_2  {Q : iST → Prop} {x2 : Int} {u : iST} : pw_deliver_2 Q x2 u → pw_deliver_2b (fun x2 u => pw_deliver_2 Q x2 u) Q x2 u := fun ⟨R, s, h⟩ => mn_w_deliver_2b (fun r0 r1 a => ⟨R, s, a⟩) (fun _ h => h) (s _ _ h)
theorem fo_w_deliver_2  {Q : iST → Prop} {x2 : Int} {u : iST} : pw_deliver_2b (fun x2 u => pw_deliver_2 Q x2 u) Q x2 u → pw_deliver_2 Q x2 u := fun h => ⟨fun x2 u => pw_deliver_2b (fun x2 u => pw_deliver_2 Q x2 u) Q x2 u, fun r0 r1 a => mn_w_deliver_2b (fun r0 r1 a => un_w_deliver_2 a) (fun _ h => h) a, h⟩
theorem wp_w_deliver_2 {Q1 Q2 : iST → Prop}  {x2 : Int} {u : iST} (hQ : ∀ r0, Q1 r0 → Q2 r0) : w_deliver_2 Q1 x2 u → pw_deliver_2 Q2 x2 u := fun a => a (fun x2 u => pw_deliver_2 Q2 x2 u) (fun x2 u b => fo_w_deliver_2 (wp_w_deliver_2b (fun r0 r1 a => a) hQ b))
def pw_deliver (a0 : Int) (Q : iST → Prop) (u : iST) : Prop :=
  pw_deliver_2 Q a0 u
theorem cj_w_deliver {Q1 Q2 Q3 : iST → Prop}  {a0 : Int} {u : iST} (hQ : ∀ r0, Q1 r0 → Q2 r0 → Q3 r0) : w_deliver a0 Q1 u → pw_deliver a0 Q2 u → w_deliver a0 Q3 u := (cj_w_deliver_2  hQ)
theorem mn_w_deliver {Q1 Q2 : iST → Prop}  {a0 : Int} {u : iST} (hQ : ∀ r0, Q1 r0 → Q2 r0) : pw_deliver a0 Q1 u → pw_deliver a0 Q2 u := (mn_w_deliver_2  hQ)
theorem wp_w_deliver {Q1 Q2 : iST → Prop}  {a0 : Int} {u : iST} (hQ : ∀ r0, Q1 r0 → Q2 r0) : w_deliver a0 Q1 u → pw_deliver a0 Q2 u := (wp_w_deliver_2  hQ)
def pw_close_28b (R28 : Int → Int → iST → Prop) (Q : iST → Prop) (x1 : Int) (x2 : Int) (u : iST) : Prop :=
  rd (u.1 32) (fun v4 => 
  bdp x1 40 (rd (u.2.1 27 x1) (fun v5 => 
  br (v4 ≤ v5) (
    rd (u.1 30) (fun v6 => 
    ovp (v6 - 1) (
    sw (iI u 30 (v6 - 1)) (fun u => 
    pw_deliver x2 (fun u => 
    Q u) u)))) (
    rd (u.1 32) (fun v9 => 
    ovp (v9 - 1) (
    sw (iI u 32 (v9 - 1)) (fun u => 
    rd (u.1 32) (fun v11 => 
    bdp v11 1100 (rd (u.2.1 31 v11) (fun v12 => 
    pw_pair v12 x2 (fun v13 u => 
    R28 x1 v13 u) u))))))))))
theorem cj_w_close_28b {Q1 Q2 Q3 : iST → Prop} {R281 R282 R283 : Int → Int → iST → Prop} {x1 : Int} {x2 : Int} {u : iST} (hR28 : ∀ r0 r1 r2, R281 r0 r1 r2 → R282 r0 r1 r2 → R283 r0 r1 r2) (hQ : ∀ r0, Q1 r0 → Q2 r0 → Q3 r0) : w_close_28b R281 Q1 x1 x2 u → pw_close_28b R282 Q2 x1 x2 u → w_close_28b R283 Q3 x1 x2 u := (rd_cj fun _ => (bd_cj (rd_cj fun _ => (br_cj (rd_cj fun _ => (ov_cj (sw_cj fun _ => (cj_w_deliver (fun _ => (hQ _)))))) (rd_cj fun _ => (ov_cj (sw_cj fun _ => (rd_cj fun _ => (bd_cj (rd_cj fun _ => (cj_w_pair (fun _ _ => (hR28 _ _ _)))))))))))))
theorem mn_w_close_28b {Q1 Q2 : iST → Prop} {R281 R282 : Int → Int → iST → Prop} {x1 : Int} {x2 : Int} {u : iST} (hR28 : ∀ r0 r1 r2, R281 r0 r1 r2 → R282 r0 r1 r2) (hQ : ∀ r0, Q1 r0 → Q2 r0) : pw_close_28b R281 Q1 x1 x2 u → pw_close_28b R282 Q2 x1 x2 u := (rd_mn fun _ => (bd_mn (rd_mn fun _ => (br_mn (rd_mn fun _ => (ov_mn (sw_mn fun _ => (mn_w_deliver (fun _ => (hQ _)))))) (rd_mn fun _ => (ov_mn (sw_mn fun _ => (rd_mn fun _ => (bd_mn (rd_mn fun _ => (mn_w_pair (fun _ _ => (hR28 _ _ _)))))))))))))
theorem wp_w_close_28b {Q1 Q2 : iST → Prop} {R281 R282 : Int → Int → iST → Prop} {x1 : Int} {x2 : Int} {u : iST} (hR28 : ∀ r0 r1 r2, R281 r0 r1 r2 → R282 r0 r1 r2) (hQ : ∀ r0, Q1 r0 → Q2 r0) : w_close_28b R281 Q1 x1 x2 u → pw_close_28b R282 Q2 x1 x2 u := (rd_wp fun _ => (bd_wp (rd_wp fun _ => (br_wp (rd_wp fun _ => (ov_wp (sw_wp fun _ => (wp_w_deliver (fun _ => (hQ _)))))) (rd_wp fun _ => (ov_wp (sw_wp fun _ => (rd_wp fun _ => (bd_wp (rd_wp fun _ => (wp_w_pair (fun _ _ => (hR28 _ _ _)))))))))))))
def pw_close_28 (Q : iST → Prop) (x1 : Int) (x2 : Int) (u : iST) : Prop := ∃ R28 : Int → Int → iST → Prop, (∀ (x1 : Int) (x2 : Int) (u : iST), R28 x1 x2 u → pw_close_28b R28 Q x1 x2 u) ∧ R28 x1 x2 u
theorem cj_w_close_28 {Q1 Q2 Q3 : iST → Prop}  {x1 : Int} {x2 : Int} {u : iST} (hQ : ∀ r0, Q1 r0 → Q2 r0 → Q3 r0) : w_close_28 Q1 x1 x2 u → pw_close_28 Q2 x1 x2 u → w_close_28 Q3 x1 x2 u := by
  intro a b R3 c3
  obtain ⟨R2, c2, b2⟩ := b
  exact a (fun r0 r1 r2 => R2 r0 r1 r2 → R3 r0 r1 r2) (fun r0 r1 r2 a b => c3 r0 r1 r2 (cj_w_close_28b (fun r0 r1 r2 a b => a b) hQ a (c2 r0 r1 r2 b))) b2
theorem pw_close_28_i  {Q : iST → Prop} {x1 : Int} {x2 : Int} {u : iST} (I : Int → Int → iST → Prop) (s : ∀ (x1 : Int) (x2 : Int) (u : iST), I x1 x2 u → pw_close_28b I Q x1 x2 u) (h : I x1 x2 u) : pw_close_28 Q x1 x2 u := ⟨I, s, h⟩
theorem mn_w_close_28 {Q1 Q2 : iST → Prop}  {x1 : Int} {x2 : Int} {u : iST} (hQ : ∀ r0, Q1 r0 → Q2 r0) : pw_close_28 Q1 x1 x2 u → pw_close_28 Q2 x1 x2 u := fun ⟨R, s, h⟩ => ⟨R, fun r0 r1 r2 a => mn_w_close_28b (fun r0 r1 r2 a => a) hQ (s r0 r1 r2 a), h⟩
theorem un_w_close_28  {Q : iST → Prop} {x1 : Int} {x2 : Int} {u : iST} : pw_close_28 Q x1 x2 u → pw_close_28b (fun x1 x2 u => pw_close_28 Q x1 x2 u) Q x1 x2 u := fun ⟨R, s, h⟩ => mn_w_close_28b (fun r0 r1 r2 a => ⟨R, s, a⟩) (fun _ h => h) (s _ _ _ h)
theorem fo_w_close_28  {Q : iST → Prop} {x1 : Int} {x2 : Int} {u : iST} : pw_close_28b (fun x1 x2 u => pw_close_28 Q x1 x2 u) Q x1 x2 u → pw_close_28 Q x1 x2 u := fun h => ⟨fun x1 x2 u => pw_close_28b (fun x1 x2 u => pw_close_28 Q x1 x2 u) Q x1 x2 u, fun r0 r1 r2 a => mn_w_close_28b (fun r0 r1 r2 a => un_w_close_28 a) (fun _ h => h) a, h⟩
theorem wp_w_close_28 {Q1 Q2 : iST → Prop}  {x1 : Int} {x2 : Int} {u : iST} (hQ : ∀ r0, Q1 r0 → Q2 r0) : w_close_28 Q1 x1 x2 u → pw_close_28 Q2 x1 x2 u := fun a => a (fun x1 x2 u => pw_close_28 Q2 x1 x2 u) (fun x1 x2 u b => fo_w_close_28 (wp_w_close_28b (fun r0 r1 r2 a => a) hQ b))
def pw_close_27 (Q : iST → Prop) (x1 : Int) (y0 : Int) (u : iST) : Prop :=
  pw_close_28 Q x1 y0 u
theorem cj_w_close_27 {Q1 Q2 Q3 : iST → Prop}  {x1 : Int} {y0 : Int} {u : iST} (hQ : ∀ r0, Q1 r0 → Q2 r0 → Q3 r0) : w_close_27 Q1 x1 y0 u → pw_close_27 Q2 x1 y0 u → w_close_27 Q3 x1 y0 u := (cj_w_close_28  hQ)
theorem mn_w_close_27 {Q1 Q2 : iST → Prop}  {x1 : Int} {y0 : Int} {u : iST} (hQ : ∀ r0, Q1 r0 → Q2 r0) : pw_close_27 Q1 x1 y0 u → pw_close_27 Q2 x1 y0 u := (mn_w_close_28  hQ)
theorem wp_w_close_27 {Q1 Q2 : iST → Prop}  {x1 : Int} {y0 : Int} {u : iST} (hQ : ∀ r0, Q1 r0 → Q2 r0) : w_close_27 Q1 x1 y0 u → pw_close_27 Q2 x1 y0 u := (wp_w_close_28  hQ)
def pw_close (Q : iST → Prop) (u : iST) : Prop :=
  rd (u.1 30) (fun v1 => 
  ovp (v1 - 1) (
  bdp (v1 - 1) 40 (rd (u.2.1 28 (v1 - 1)) (fun v3 => 
  br (v3 ≠ 2) (
    pw_close_27 Q (v1 - 1) 0 u) (
    bdp (v1 - 1) 40 (rd (u.2.1 29 (v1 - 1)) (fun v14 => 
    pw_close_27 Q (v1 - 1) v14 u)))))))
theorem cj_w_close {Q1 Q2 Q3 : iST → Prop}  {u : iST} (hQ : ∀ r0, Q1 r0 → Q2 r0 → Q3 r0) : w_close Q1 u → pw_close Q2 u → w_close Q3 u := (rd_cj fun _ => (ov_cj (bd_cj (rd_cj fun _ => (br_cj (cj_w_close_27  hQ) (bd_cj (rd_cj fun _ => (cj_w_close_27  hQ))))))))
theorem mn_w_close {Q1 Q2 : iST → Prop}  {u : iST} (hQ : ∀ r0, Q1 r0 → Q2 r0) : pw_close Q1 u → pw_close Q2 u := (rd_mn fun _ => (ov_mn (bd_mn (rd_mn fun _ => (br_mn (mn_w_close_27  hQ) (bd_mn (rd_mn fun _ => (mn_w_close_27  hQ))))))))
theorem wp_w_close {Q1 Q2 : iST → Prop}  {u : iST} (hQ : ∀ r0, Q1 r0 → Q2 r0) : w_close Q1 u → pw_close Q2 u := (rd_wp fun _ => (ov_wp (bd_wp (rd_wp fun _ => (br_wp (wp_w_close_27  hQ) (bd_wp (rd_wp fun _ => (wp_w_close_27  hQ))))))))
def pw_atom_135b (R135 : Int → Int → iST → Prop) (Q : Int → iST → Prop) (x2 : Int) (x4 : Int) (u : iST) : Prop :=
  br (x2 ≤ x4) (
    pw_symbol (fun v2 u => 
    Q v2 u) u) (
    bdp x4 3000 (rd (u.2.1 13 x4) (fun v3 => 
    pw_spell v3 (fun u => 
    ovp (x4 + 1) (
    R135 x2 (x4 + 1) u)) u)))
theorem cj_w_atom_135b {Q1 Q2 Q3 : Int → iST → Prop} {R1351 R1352 R1353 : Int → Int → iST → Prop} {x2 : Int} {x4 : Int} {u : iST} (hR135 : ∀ r0 r1 r2, R1351 r0 r1 r2 → R1352 r0 r1 r2 → R1353 r0 r1 r2) (hQ : ∀ r0 r1, Q1 r0 r1 → Q2 r0 r1 → Q3 r0 r1) : w_atom_135b R1351 Q1 x2 x4 u → pw_atom_135b R1352 Q2 x2 x4 u → w_atom_135b R1353 Q3 x2 x4 u := (br_cj (cj_w_symbol (fun _ _ => (hQ _ _))) (bd_cj (rd_cj fun _ => (cj_w_spell (fun _ => (ov_cj (hR135 _ _ _)))))))
theorem mn_w_atom_135b {Q1 Q2 : Int → iST → Prop} {R1351 R1352 : Int → Int → iST → Prop} {x2 : Int} {x4 : Int} {u : iST} (hR135 : ∀ r0 r1 r2, R1351 r0 r1 r2 → R1352 r0 r1 r2) (hQ : ∀ r0 r1, Q1 r0 r1 → Q2 r0 r1) : pw_atom_135b R1351 Q1 x2 x4 u → pw_atom_135b R1352 Q2 x2 x4 u := (br_mn (mn_w_symbol (fun _ _ => (hQ _ _))) (bd_mn (rd_mn fun _ => (mn_w_spell (fun _ => (ov_mn (hR135 _ _ _)))))))
theorem wp_w_atom_135b {Q1 Q2 : Int → iST → Prop} {R1351 R1352 : Int → Int → iST → Prop} {x2 : Int} {x4 : Int} {u : iST} (hR135 : ∀ r0 r1 r2, R1351 r0 r1 r2 → R1352 r0 r1 r2) (hQ : ∀ r0 r1, Q1 r0 r1 → Q2 r0 r1) : w_atom_135b R1351 Q1 x2 x4 u → pw_atom_135b R1352 Q2 x2 x4 u := (br_wp (wp_w_symbol (fun _ _ => (hQ _ _))) (bd_wp (rd_wp fun _ => (wp_w_spell (fun _ => (ov_wp (hR135 _ _ _)))))))
def pw_atom_135 (Q : Int → iST → Prop) (x2 : Int) (x4 : Int) (u : iST) : Prop := ∃ R135 : Int → Int → iST → Prop, (∀ (x2 : Int) (x4 : Int) (u : iST), R135 x2 x4 u → pw_atom_135b R135 Q x2 x4 u) ∧ R135 x2 x4 u
theorem cj_w_atom_135 {Q1 Q2 Q3 : Int → iST → Prop}  {x2 : Int} {x4 : Int} {u : iST} (hQ : ∀ r0 r1, Q1 r0 r1 → Q2 r0 r1 → Q3 r0 r1) : w_atom_135 Q1 x2 x4 u → pw_atom_135 Q2 x2 x4 u → w_atom_135 Q3 x2 x4 u := by
  intro a b R3 c3
  obtain ⟨R2, c2, b2⟩ := b
  exact a (fun r0 r1 r2 => R2 r0 r1 r2 → R3 r0 r1 r2) (fun r0 r1 r2 a b => c3 r0 r1 r2 (cj_w_atom_135b (fun r0 r1 r2 a b => a b) hQ a (c2 r0 r1 r2 b))) b2
theorem pw_atom_135_i  {Q : Int → iST → Prop} {x2 : Int} {x4 : Int} {u : iST} (I : Int → Int → iST → Prop) (s : ∀ (x2 : Int) (x4 : Int) (u : iST), I x2 x4 u → pw_atom_135b I Q x2 x4 u) (h : I x2 x4 u) : pw_atom_135 Q x2 x4 u := ⟨I, s, h⟩
theorem mn_w_atom_135 {Q1 Q2 : Int → iST → Prop}  {x2 : Int} {x4 : Int} {u : iST} (hQ : ∀ r0 r1, Q1 r0 r1 → Q2 r0 r1) : pw_atom_135 Q1 x2 x4 u → pw_atom_135 Q2 x2 x4 u := fun ⟨R, s, h⟩ => ⟨R, fun r0 r1 r2 a => mn_w_atom_135b (fun r0 r1 r2 a => a) hQ (s r0 r1 r2 a), h⟩
theorem un_w_atom_135  {Q : Int → iST → Prop} {x2 : Int} {x4 : Int} {u : iST} : pw_atom_135 Q x2 x4 u → pw_atom_135b (fun x2 x4 u => pw_atom_135 Q x2 x4 u) Q x2 x4 u := fun ⟨R, s, h⟩ => mn_w_atom_135b (fun r0 r1 r2 a => ⟨R, s, a⟩) (fun _ _ h => h) (s _ _ _ h)
theorem fo_w_atom_135  {Q : Int → iST → Prop} {x2 : Int} {x4 : Int} {u : iST} : pw_atom_135b (fun x2 x4 u => pw_atom_135 Q x2 x4 u) Q x2 x4 u → pw_atom_135 Q x2 x4 u := fun h => ⟨fun x2 x4 u => pw_atom_135b (fun x2 x4 u => pw_atom_135 Q x2 x4 u) Q x2 x4 u, fun r0 r1 r2 a => mn_w_atom_135b (fun r0 r1 r2 a => un_w_atom_135 a) (fun _ _ h => h) a, h⟩
theorem wp_w_atom_135 {Q1 Q2 : Int → iST → Prop}  {x2 : Int} {x4 : Int} {u : iST} (hQ : ∀ r0 r1, Q1 r0 r1 → Q2 r0 r1) : w_atom_135 Q1 x2 x4 u → pw_atom_135 Q2 x2 x4 u := fun a => a (fun x2 x4 u => pw_atom_135 Q2 x2 x4 u) (fun x2 x4 u b => fo_w_atom_135 (wp_w_atom_135b (fun r0 r1 r2 a => a) hQ b))
def pw_atom_50b (R50 : Int → Int → Int → iST → Prop) (Q : Int → iST → Prop) (x2 : Int) (x4 : Int) (x6 : Int) (u : iST) : Prop :=
  br (x2 ≤ x6) (
    pw_natural x4 (fun v6 u => 
    Q v6 u) u) (
    bdp x6 3000 (rd (u.2.1 13 x6) (fun v7 => 
    ovp (v7 - 48) (
    olp (4611686018427387903 - (v7 - 48)) (
    (0 : Int) < 10 ∧ (
    br (x4 ≤ (Int.tdiv (4611686018427387903 - (v7 - 48)) 10)) (
      olp (10 * x4) (
      bdp x6 3000 (rd (u.2.1 13 x6) (fun v13 => 
      olp ((10 * x4) + v13) (
      olp (((10 * x4) + v13) - 48) (
      ovp (x6 + 1) (
      R50 x2 (((10 * x4) + v13) - 48) (x6 + 1) u))))))) (
      Q (-1) u)))))))
theorem cj_w_atom_50b {Q1 Q2 Q3 : Int → iST → Prop} {R501 R502 R503 : Int → Int → Int → iST → Prop} {x2 : Int} {x4 : Int} {x6 : Int} {u : iST} (hR50 : ∀ r0 r1 r2 r3, R501 r0 r1 r2 r3 → R502 r0 r1 r2 r3 → R503 r0 r1 r2 r3) (hQ : ∀ r0 r1, Q1 r0 r1 → Q2 r0 r1 → Q3 r0 r1) : w_atom_50b R501 Q1 x2 x4 x6 u → pw_atom_50b R502 Q2 x2 x4 x6 u → w_atom_50b R503 Q3 x2 x4 x6 u := (br_cj (cj_w_natural (fun _ _ => (hQ _ _))) (bd_cj (rd_cj fun _ => (ov_cj (ol_cj (an_cj (br_cj (ol_cj (bd_cj (rd_cj fun _ => (ol_cj (ol_cj (ov_cj (hR50 _ _ _ _))))))) (hQ _ _))))))))
theorem mn_w_atom_50b {Q1 Q2 : Int → iST → Prop} {R501 R502 : Int → Int → Int → iST → Prop} {x2 : Int} {x4 : Int} {x6 : Int} {u : iST} (hR50 : ∀ r0 r1 r2 r3, R501 r0 r1 r2 r3 → R502 r0 r1 r2 r3) (hQ : ∀ r0 r1, Q1 r0 r1 → Q2 r0 r1) : pw_atom_50b R501 Q1 x2 x4 x6 u → pw_atom_50b R502 Q2 x2 x4 x6 u := (br_mn (mn_w_natural (fun _ _ => (hQ _ _))) (bd_mn (rd_mn fun _ => (ov_mn (ol_mn (an_mn (br_mn (ol_mn (bd_mn (rd_mn fun _ => (ol_mn (ol_mn (ov_mn (hR50 _ _ _ _))))))) (hQ _ _))))))))
theorem wp_w_atom_50b {Q1 Q2 : Int → iST → Prop} {R501 R502 : Int → Int → Int → iST → Prop} {x2 : Int} {x4 : Int} {x6 : Int} {u : iST} (hR50 : ∀ r0 r1 r2 r3, R501 r0 r1 r2 r3 → R502 r0 r1 r2 r3) (hQ : ∀ r0 r1, Q1 r0 r1 → Q2 r0 r1) : w_atom_50b R501 Q1 x2 x4 x6 u → pw_atom_50b R502 Q2 x2 x4 x6 u := (br_wp (wp_w_natural (fun _ _ => (hQ _ _))) (bd_wp (rd_wp fun _ => (ov_wp (ol_wp (an_wp (br_wp (ol_wp (bd_wp (rd_wp fun _ => (ol_wp (ol_wp (ov_wp (hR50 _ _ _ _))))))) (hQ _ _))))))))
def pw_atom_50 (Q : Int → iST → Prop) (x2 : Int) (x4 : Int) (x6 : Int) (u : iST) : Prop := ∃ R50 : Int → Int → Int → iST → Prop, (∀ (x2 : Int) (x4 : Int) (x6 : Int) (u : iST), R50 x2 x4 x6 u → pw_atom_50b R50 Q x2 x4 x6 u) ∧ R50 x2 x4 x6 u
theorem cj_w_atom_50 {Q1 Q2 Q3 : Int → iST → Prop}  {x2 : Int} {x4 : Int} {x6 : Int} {u : iST} (hQ : ∀ r0 r1, Q1 r0 r1 → Q2 r0 r1 → Q3 r0 r1) : w_atom_50 Q1 x2 x4 x6 u → pw_atom_50 Q2 x2 x4 x6 u → w_atom_50 Q3 x2 x4 x6 u := by
  intro a b R3 c3
  obtain ⟨R2, c2, b2⟩ := b
  exact a (fun r0 r1 r2 r3 => R2 r0 r1 r2 r3 → R3 r0 r1 r2 r3) (fun r0 r1 r2 r3 a b => c3 r0 r1 r2 r3 (cj_w_atom_50b (fun r0 r1 r2 r3 a b => a b) hQ a (c2 r0 r1 r2 r3 b))) b2
theorem pw_atom_50_i  {Q : Int → iST → Prop} {x2 : Int} {x4 : Int} {x6 : Int} {u : iST} (I : Int → Int → Int → iST → Prop) (s : ∀ (x2 : Int) (x4 : Int) (x6 : Int) (u : iST), I x2 x4 x6 u → pw_atom_50b I Q x2 x4 x6 u) (h : I x2 x4 x6 u) : pw_atom_50 Q x2 x4 x6 u := ⟨I, s, h⟩
theorem mn_w_atom_50 {Q1 Q2 : Int → iST → Prop}  {x2 : Int} {x4 : Int} {x6 : Int} {u : iST} (hQ : ∀ r0 r1, Q1 r0 r1 → Q2 r0 r1) : pw_atom_50 Q1 x2 x4 x6 u → pw_atom_50 Q2 x2 x4 x6 u := fun ⟨R, s, h⟩ => ⟨R, fun r0 r1 r2 r3 a => mn_w_atom_50b (fun r0 r1 r2 r3 a => a) hQ (s r0 r1 r2 r3 a), h⟩
theorem un_w_atom_50  {Q : Int → iST → Prop} {x2 : Int} {x4 : Int} {x6 : Int} {u : iST} : pw_atom_50 Q x2 x4 x6 u → pw_atom_50b (fun x2 x4 x6 u => pw_atom_50 Q x2 x4 x6 u) Q x2 x4 x6 u := fun ⟨R, s, h⟩ => mn_w_atom_50b (fun r0 r1 r2 r3 a => ⟨R, s, a⟩) (fun _ _ h => h) (s _ _ _ _ h)
theorem fo_w_atom_50  {Q : Int → iST → Prop} {x2 : Int} {x4 : Int} {x6 : Int} {u : iST} : pw_atom_50b (fun x2 x4 x6 u => pw_atom_50 Q x2 x4 x6 u) Q x2 x4 x6 u → pw_atom_50 Q x2 x4 x6 u := fun h => ⟨fun x2 x4 x6 u => pw_atom_50b (fun x2 x4 x6 u => pw_atom_50 Q x2 x4 x6 u) Q x2 x4 x6 u, fun r0 r1 r2 r3 a => mn_w_atom_50b (fun r0 r1 r2 r3 a => un_w_atom_50 a) (fun _ _ h => h) a, h⟩
theorem wp_w_atom_50 {Q1 Q2 : Int → iST → Prop}  {x2 : Int} {x4 : Int} {x6 : Int} {u : iST} (hQ : ∀ r0 r1, Q1 r0 r1 → Q2 r0 r1) : w_atom_50 Q1 x2 x4 x6 u → pw_atom_50 Q2 x2 x4 x6 u := fun a => a (fun x2 x4 x6 u => pw_atom_50 Q2 x2 x4 x6 u) (fun x2 x4 x6 u b => fo_w_atom_50 (wp_w_atom_50b (fun r0 r1 r2 r3 a => a) hQ b))
def pw_atom_5b (R5 : Int → Int → Int → Int → iST → Prop) (Q : Int → iST → Prop) (x1 : Int) (x2 : Int) (x3 : Int) (x4 : Int) (u : iST) : Prop :=
  br (x2 ≤ x4) (
    br (x3 = 0) (
      ovp (x2 - x1) (
      br ((x2 - x1) ≤ 11) (
        sw (iI u 18 0) (fun u => 
        pw_atom_135 Q x2 x1 u)) (
        Q (-1) u))) (
      pw_atom_50 Q x2 0 x1 u)) (
    br (x3 = 0) (
      ovp (x4 + 1) (
      R5 x1 x2 0 (x4 + 1) u)) (
      bdp x4 3000 (rd (u.2.1 13 x4) (fun v19 => 
      pw_isDigit v19 (fun v20 u => 
      br (v20 = 0) (
        ovp (x4 + 1) (
        R5 x1 x2 0 (x4 + 1) u)) (
        ovp (x4 + 1) (
        R5 x1 x2 1 (x4 + 1) u))) u))))
theorem cj_w_atom_5b {Q1 Q2 Q3 : Int → iST → Prop} {R51 R52 R53 : Int → Int → Int → Int → iST → Prop} {x1 : Int} {x2 : Int} {x3 : Int} {x4 : Int} {u : iST} (hR5 : ∀ r0 r1 r2 r3 r4, R51 r0 r1 r2 r3 r4 → R52 r0 r1 r2 r3 r4 → R53 r0 r1 r2 r3 r4) (hQ : ∀ r0 r1, Q1 r0 r1 → Q2 r0 r1 → Q3 r0 r1) : w_atom_5b R51 Q1 x1 x2 x3 x4 u → pw_atom_5b R52 Q2 x1 x2 x3 x4 u → w_atom_5b R53 Q3 x1 x2 x3 x4 u := (br_cj (br_cj (ov_cj (br_cj (sw_cj fun _ => (cj_w_atom_135  hQ)) (hQ _ _))) (cj_w_atom_50  hQ)) (br_cj (ov_cj (hR5 _ _ _ _ _)) (bd_cj (rd_cj fun _ => (cj_w_isDigit (fun _ _ => (br_cj (ov_cj (hR5 _ _ _ _ _)) (ov_cj (hR5 _ _ _ _ _)))))))))
theorem mn_w_atom_5b {Q1 Q2 : Int → iST → Prop} {R51 R52 : Int → Int → Int → Int → iST → Prop} {x1 : Int} {x2 : Int} {x3 : Int} {x4 : Int} {u : iST} (hR5 : ∀ r0 r1 r2 r3 r4, R51 r0 r1 r2 r3 r4 → R52 r0 r1 r2 r3 r4) (hQ : ∀ r0 r1, Q1 r0 r1 → Q2 r0 r1) : pw_atom_5b R51 Q1 x1 x2 x3 x4 u → pw_atom_5b R52 Q2 x1 x2 x3 x4 u := (br_mn (br_mn (ov_mn (br_mn (sw_mn fun _ => (mn_w_atom_135  hQ)) (hQ _ _))) (mn_w_atom_50  hQ)) (br_mn (ov_mn (hR5 _ _ _ _ _)) (bd_mn (rd_mn fun _ => (mn_w_isDigit (fun _ _ => (br_mn (ov_mn (hR5 _ _ _ _ _)) (ov_mn (hR5 _ _ _ _ _)))))))))
theorem wp_w_atom_5b {Q1 Q2 : Int → iST → Prop} {R51 R52 : Int → Int → Int → Int → iST → Prop} {x1 : Int} {x2 : Int} {x3 : Int} {x4 : Int} {u : iST} (hR5 : ∀ r0 r1 r2 r3 r4, R51 r0 r1 r2 r3 r4 → R52 r0 r1 r2 r3 r4) (hQ : ∀ r0 r1, Q1 r0 r1 → Q2 r0 r1) : w_atom_5b R51 Q1 x1 x2 x3 x4 u → pw_atom_5b R52 Q2 x1 x2 x3 x4 u := (br_wp (br_wp (ov_wp (br_wp (sw_wp fun _ => (wp_w_atom_135  hQ)) (hQ _ _))) (wp_w_atom_50  hQ)) (br_wp (ov_wp (hR5 _ _ _ _ _)) (bd_wp (rd_wp fun _ => (wp_w_isDigit (fun _ _ => (br_wp (ov_wp (hR5 _ _ _ _ _)) (ov_wp (hR5 _ _ _ _ _)))))))))
def pw_atom_5 (Q : Int → iST → Prop) (x1 : Int) (x2 : Int) (x3 : Int) (x4 : Int) (u : iST) : Prop := ∃ R5 : Int → Int → Int → Int → iST → Prop, (∀ (x1 : Int) (x2 : Int) (x3 : Int) (x4 : Int) (u : iST), R5 x1 x2 x3 x4 u → pw_atom_5b R5 Q x1 x2 x3 x4 u) ∧ R5 x1 x2 x3 x4 u
theorem cj_w_atom_5 {Q1 Q2 Q3 : Int → iST → Prop}  {x1 : Int} {x2 : Int} {x3 : Int} {x4 : Int} {u : iST} (hQ : ∀ r0 r1, Q1 r0 r1 → Q2 r0 r1 → Q3 r0 r1) : w_atom_5 Q1 x1 x2 x3 x4 u → pw_atom_5 Q2 x1 x2 x3 x4 u → w_atom_5 Q3 x1 x2 x3 x4 u := by
  intro a b R3 c3
  obtain ⟨R2, c2, b2⟩ := b
  exact a (fun r0 r1 r2 r3 r4 => R2 r0 r1 r2 r3 r4 → R3 r0 r1 r2 r3 r4) (fun r0 r1 r2 r3 r4 a b => c3 r0 r1 r2 r3 r4 (cj_w_atom_5b (fun r0 r1 r2 r3 r4 a b => a b) hQ a (c2 r0 r1 r2 r3 r4 b))) b2
theorem pw_atom_5_i  {Q : Int → iST → Prop} {x1 : Int} {x2 : Int} {x3 : Int} {x4 : Int} {u : iST} (I : Int → Int → Int → Int → iST → Prop) (s : ∀ (x1 : Int) (x2 : Int) (x3 : Int) (x4 : Int) (u : iST), I x1 x2 x3 x4 u → pw_atom_5b I Q x1 x2 x3 x4 u) (h : I x1 x2 x3 x4 u) : pw_atom_5 Q x1 x2 x3 x4 u := ⟨I, s, h⟩
theorem mn_w_atom_5 {Q1 Q2 : Int → iST → Prop}  {x1 : Int} {x2 : Int} {x3 : Int} {x4 : Int} {u : iST} (hQ : ∀ r0 r1, Q1 r0 r1 → Q2 r0 r1) : pw_atom_5 Q1 x1 x2 x3 x4 u → pw_atom_5 Q2 x1 x2 x3 x4 u := fun ⟨R, s, h⟩ => ⟨R, fun r0 r1 r2 r3 r4 a => mn_w_atom_5b (fun r0 r1 r2 r3 r4 a => a) hQ (s r0 r1 r2 r3 r4 a), h⟩
theorem un_w_atom_5  {Q : Int → iST → Prop} {x1 : Int} {x2 : Int} {x3 : Int} {x4 : Int} {u : iST} : pw_atom_5 Q x1 x2 x3 x4 u → pw_atom_5b (fun x1 x2 x3 x4 u => pw_atom_5 Q x1 x2 x3 x4 u) Q x1 x2 x3 x4 u := fun ⟨R, s, h⟩ => mn_w_atom_5b (fun r0 r1 r2 r3 r4 a => ⟨R, s, a⟩) (fun _ _ h => h) (s _ _ _ _ _ h)
theorem fo_w_atom_5  {Q : Int → iST → Prop} {x1 : Int} {x2 : Int} {x3 : Int} {x4 : Int} {u : iST} : pw_atom_5b (fun x1 x2 x3 x4 u => pw_atom_5 Q x1 x2 x3 x4 u) Q x1 x2 x3 x4 u → pw_atom_5 Q x1 x2 x3 x4 u := fun h => ⟨fun x1 x2 x3 x4 u => pw_atom_5b (fun x1 x2 x3 x4 u => pw_atom_5 Q x1 x2 x3 x4 u) Q x1 x2 x3 x4 u, fun r0 r1 r2 r3 r4 a => mn_w_atom_5b (fun r0 r1 r2 r3 r4 a => un_w_atom_5 a) (fun _ _ h => h) a, h⟩
theorem wp_w_atom_5 {Q1 Q2 : Int → iST → Prop}  {x1 : Int} {x2 : Int} {x3 : Int} {x4 : Int} {u : iST} (hQ : ∀ r0 r1, Q1 r0 r1 → Q2 r0 r1) : w_atom_5 Q1 x1 x2 x3 x4 u → pw_atom_5 Q2 x1 x2 x3 x4 u := fun a => a (fun x1 x2 x3 x4 u => pw_atom_5 Q2 x1 x2 x3 x4 u) (fun x1 x2 x3 x4 u b => fo_w_atom_5 (wp_w_atom_5b (fun r0 r1 r2 r3 r4 a => a) hQ b))
def pw_atom (a0 : Int) (a1 : Int) (Q : Int → iST → Prop) (u : iST) : Prop :=
  pw_atom_5 Q a0 a1 1 a0 u
theorem cj_w_atom {Q1 Q2 Q3 : Int → iST → Prop}  {a0 : Int} {a1 : Int} {u : iST} (hQ : ∀ r0 r1, Q1 r0 r1 → Q2 r0 r1 → Q3 r0 r1) : w_atom a0 a1 Q1 u → pw_atom a0 a1 Q2 u → w_atom a0 a1 Q3 u := (cj_w_atom_5  hQ)
theorem mn_w_atom {Q1 Q2 : Int → iST → Prop}  {a0 : Int} {a1 : Int} {u : iST} (hQ : ∀ r0 r1, Q1 r0 r1 → Q2 r0 r1) : pw_atom a0 a1 Q1 u → pw_atom a0 a1 Q2 u := (mn_w_atom_5  hQ)
theorem wp_w_atom {Q1 Q2 : Int → iST → Prop}  {a0 : Int} {a1 : Int} {u : iST} (hQ : ∀ r0 r1, Q1 r0 r1 → Q2 r0 r1) : w_atom a0 a1 Q1 u → pw_atom a0 a1 Q2 u := (wp_w_atom_5  hQ)
def pw_isInList (Q : Int → iST → Prop) (u : iST) : Prop :=
  rd (u.1 30) (fun v1 => 
  br (v1 ≤ 0) (
    ztp 0 (Q 0 u)) (
    rd (u.1 30) (fun v2 => 
    ovp (v2 - 1) (
    bdp (v2 - 1) 40 (rd (u.2.1 26 (v2 - 1)) (fun v4 => 
    br (v4 ≠ 0) (
      ztp 0 (Q 0 u)) (
      ztp 1 (Q 1 u))))))))
theorem cj_w_isInList {Q1 Q2 Q3 : Int → iST → Prop}  {u : iST} (hQ : ∀ r0 r1, Q1 r0 r1 → Q2 r0 r1 → Q3 r0 r1) : w_isInList Q1 u → pw_isInList Q2 u → w_isInList Q3 u := (rd_cj fun _ => (br_cj (zt_cj (hQ _ _)) (rd_cj fun _ => (ov_cj (bd_cj (rd_cj fun _ => (br_cj (zt_cj (hQ _ _)) (zt_cj (hQ _ _)))))))))
theorem mn_w_isInList {Q1 Q2 : Int → iST → Prop}  {u : iST} (hQ : ∀ r0 r1, Q1 r0 r1 → Q2 r0 r1) : pw_isInList Q1 u → pw_isInList Q2 u := (rd_mn fun _ => (br_mn (zt_mn (hQ _ _)) (rd_mn fun _ => (ov_mn (bd_mn (rd_mn fun _ => (br_mn (zt_mn (hQ _ _)) (zt_mn (hQ _ _)))))))))
theorem wp_w_isInList {Q1 Q2 : Int → iST → Prop}  {u : iST} (hQ : ∀ r0 r1, Q1 r0 r1 → Q2 r0 r1) : w_isInList Q1 u → pw_isInList Q2 u := (rd_wp fun _ => (br_wp (zt_wp (hQ _ _)) (rd_wp fun _ => (ov_wp (bd_wp (rd_wp fun _ => (br_wp (zt_wp (hQ _ _)) (zt_wp (hQ _ _)))))))))
def pw_readWord_111 (Q : iST → Prop) (y1 : Int) (u : iST) : Prop :=
  pw_begin y1 (fun u => 
  Q u) u
theorem cj_w_readWord_111 {Q1 Q2 Q3 : iST → Prop}  {y1 : Int} {u : iST} (hQ : ∀ r0, Q1 r0 → Q2 r0 → Q3 r0) : w_readWord_111 Q1 y1 u → pw_readWord_111 Q2 y1 u → w_readWord_111 Q3 y1 u := (cj_w_begin (fun _ => (hQ _)))
theorem mn_w_readWord_111 {Q1 Q2 : iST → Prop}  {y1 : Int} {u : iST} (hQ : ∀ r0, Q1 r0 → Q2 r0) : pw_readWord_111 Q1 y1 u → pw_readWord_111 Q2 y1 u := (mn_w_begin (fun _ => (hQ _)))
theorem wp_w_readWord_111 {Q1 Q2 : iST → Prop}  {y1 : Int} {u : iST} (hQ : ∀ r0, Q1 r0 → Q2 r0) : w_readWord_111 Q1 y1 u → pw_readWord_111 Q2 y1 u := (wp_w_begin (fun _ => (hQ _)))
def pw_readWord_51 (Q : iST → Prop) (x2 : Int) (x3 : Int) (x4 : Int) (u : iST) : Prop :=
  pw_mayBegin (fun v6 u => 
  br (v6 ≠ 0) (
    rd (u.1 30) (fun v7 => 
    br (v7 ≠ 40) (
      br (x4 = 0) (
        br (x3 ≠ 40) (
          pw_readWord_111 Q 1 u) (
          pw_readWord_111 Q 0 u)) (
        pw_bad 5 x2 (fun u => 
        Q u) u)) (
      pw_bad 4 x2 (fun u => 
      Q u) u))) (
    pw_bad 3 x2 (fun u => 
    Q u) u)) u
theorem cj_w_readWord_51 {Q1 Q2 Q3 : iST → Prop}  {x2 : Int} {x3 : Int} {x4 : Int} {u : iST} (hQ : ∀ r0, Q1 r0 → Q2 r0 → Q3 r0) : w_readWord_51 Q1 x2 x3 x4 u → pw_readWord_51 Q2 x2 x3 x4 u → w_readWord_51 Q3 x2 x3 x4 u := (cj_w_mayBegin (fun _ _ => (br_cj (rd_cj fun _ => (br_cj (br_cj (br_cj (cj_w_readWord_111  hQ) (cj_w_readWord_111  hQ)) (cj_w_bad (fun _ => (hQ _)))) (cj_w_bad (fun _ => (hQ _))))) (cj_w_bad (fun _ => (hQ _))))))
theorem mn_w_readWord_51 {Q1 Q2 : iST → Prop}  {x2 : Int} {x3 : Int} {x4 : Int} {u : iST} (hQ : ∀ r0, Q1 r0 → Q2 r0) : pw_readWord_51 Q1 x2 x3 x4 u → pw_readWord_51 Q2 x2 x3 x4 u := (mn_w_mayBegin (fun _ _ => (br_mn (rd_mn fun _ => (br_mn (br_mn (br_mn (mn_w_readWord_111  hQ) (mn_w_readWord_111  hQ)) (mn_w_bad (fun _ => (hQ _)))) (mn_w_bad (fun _ => (hQ _))))) (mn_w_bad (fun _ => (hQ _))))))
theorem wp_w_readWord_51 {Q1 Q2 : iST → Prop}  {x2 : Int} {x3 : Int} {x4 : Int} {u : iST} (hQ : ∀ r0, Q1 r0 → Q2 r0) : w_readWord_51 Q1 x2 x3 x4 u → pw_readWord_51 Q2 x2 x3 x4 u := (wp_w_mayBegin (fun _ _ => (br_wp (rd_wp fun _ => (br_wp (br_wp (br_wp (wp_w_readWord_111  hQ) (wp_w_readWord_111  hQ)) (wp_w_bad (fun _ => (hQ _)))) (wp_w_bad (fun _ => (hQ _))))) (wp_w_bad (fun _ => (hQ _))))))
def pw_readWord_313 (Q : iST → Prop) (x2 : Int) (x4 : Int) (u : iST) : Prop :=
  rd (u.1 23) (fun v15 => 
  pw_atom x2 v15 (fun v16 u => 
  br (v16 ≠ (-1)) (
    pw_mayBegin (fun v17 u => 
    br (v17 ≠ 0) (
      br (x4 = 0) (
        pw_deliver v16 (fun u => 
        Q u) u) (
        pw_bad 5 x2 (fun u => 
        Q u) u)) (
      pw_bad 3 x2 (fun u => 
      Q u) u)) u) (
    pw_bad 2 x2 (fun u => 
    Q u) u)) u)
theorem cj_w_readWord_313 {Q1 Q2 Q3 : iST → Prop}  {x2 : Int} {x4 : Int} {u : iST} (hQ : ∀ r0, Q1 r0 → Q2 r0 → Q3 r0) : w_readWord_313 Q1 x2 x4 u → pw_readWord_313 Q2 x2 x4 u → w_readWord_313 Q3 x2 x4 u := (rd_cj fun _ => (cj_w_atom (fun _ _ => (br_cj (cj_w_mayBegin (fun _ _ => (br_cj (br_cj (cj_w_deliver (fun _ => (hQ _))) (cj_w_bad (fun _ => (hQ _)))) (cj_w_bad (fun _ => (hQ _)))))) (cj_w_bad (fun _ => (hQ _)))))))
theorem mn_w_readWord_313 {Q1 Q2 : iST → Prop}  {x2 : Int} {x4 : Int} {u : iST} (hQ : ∀ r0, Q1 r0 → Q2 r0) : pw_readWord_313 Q1 x2 x4 u → pw_readWord_313 Q2 x2 x4 u := (rd_mn fun _ => (mn_w_atom (fun _ _ => (br_mn (mn_w_mayBegin (fun _ _ => (br_mn (br_mn (mn_w_deliver (fun _ => (hQ _))) (mn_w_bad (fun _ => (hQ _)))) (mn_w_bad (fun _ => (hQ _)))))) (mn_w_bad (fun _ => (hQ _)))))))
theorem wp_w_readWord_313 {Q1 Q2 : iST → Prop}  {x2 : Int} {x4 : Int} {u : iST} (hQ : ∀ r0, Q1 r0 → Q2 r0) : w_readWord_313 Q1 x2 x4 u → pw_readWord_313 Q2 x2 x4 u := (rd_wp fun _ => (wp_w_atom (fun _ _ => (br_wp (wp_w_mayBegin (fun _ _ => (br_wp (br_wp (wp_w_deliver (fun _ => (hQ _))) (wp_w_bad (fun _ => (hQ _)))) (wp_w_bad (fun _ => (hQ _)))))) (wp_w_bad (fun _ => (hQ _)))))))
def pw_readWord_274b (R274 : Int → Int → iST → Prop) (Q : iST → Prop) (x2 : Int) (x4 : Int) (u : iST) : Prop :=
  rd (u.1 23) (fun v13 => 
  rd (u.1 14) (fun v14 => 
  br (v14 ≤ v13) (
    pw_readWord_313 Q x2 x4 u) (
    rd (u.1 23) (fun v22 => 
    bdp v22 3000 (rd (u.2.1 13 v22) (fun v23 => 
    pw_isAtom v23 (fun v24 u => 
    br (v24 = 0) (
      pw_readWord_313 Q x2 x4 u) (
      rd (u.1 23) (fun v25 => 
      ovp (v25 + 1) (
      sw (iI u 23 (v25 + 1)) (fun u => 
      R274 x2 x4 u))))) u))))))
theorem cj_w_readWord_274b {Q1 Q2 Q3 : iST → Prop} {R2741 R2742 R2743 : Int → Int → iST → Prop} {x2 : Int} {x4 : Int} {u : iST} (hR274 : ∀ r0 r1 r2, R2741 r0 r1 r2 → R2742 r0 r1 r2 → R2743 r0 r1 r2) (hQ : ∀ r0, Q1 r0 → Q2 r0 → Q3 r0) : w_readWord_274b R2741 Q1 x2 x4 u → pw_readWord_274b R2742 Q2 x2 x4 u → w_readWord_274b R2743 Q3 x2 x4 u := (rd_cj fun _ => (rd_cj fun _ => (br_cj (cj_w_readWord_313  hQ) (rd_cj fun _ => (bd_cj (rd_cj fun _ => (cj_w_isAtom (fun _ _ => (br_cj (cj_w_readWord_313  hQ) (rd_cj fun _ => (ov_cj (sw_cj fun _ => (hR274 _ _ _)))))))))))))
theorem mn_w_readWord_274b {Q1 Q2 : iST → Prop} {R2741 R2742 : Int → Int → iST → Prop} {x2 : Int} {x4 : Int} {u : iST} (hR274 : ∀ r0 r1 r2, R2741 r0 r1 r2 → R2742 r0 r1 r2) (hQ : ∀ r0, Q1 r0 → Q2 r0) : pw_readWord_274b R2741 Q1 x2 x4 u → pw_readWord_274b R2742 Q2 x2 x4 u := (rd_mn fun _ => (rd_mn fun _ => (br_mn (mn_w_readWord_313  hQ) (rd_mn fun _ => (bd_mn (rd_mn fun _ => (mn_w_isAtom (fun _ _ => (br_mn (mn_w_readWord_313  hQ) (rd_mn fun _ => (ov_mn (sw_mn fun _ => (hR274 _ _ _)))))))))))))
theorem wp_w_readWord_274b {Q1 Q2 : iST → Prop} {R2741 R2742 : Int → Int → iST → Prop} {x2 : Int} {x4 : Int} {u : iST} (hR274 : ∀ r0 r1 r2, R2741 r0 r1 r2 → R2742 r0 r1 r2) (hQ : ∀ r0, Q1 r0 → Q2 r0) : w_readWord_274b R2741 Q1 x2 x4 u → pw_readWord_274b R2742 Q2 x2 x4 u := (rd_wp fun _ => (rd_wp fun _ => (br_wp (wp_w_readWord_313  hQ) (rd_wp fun _ => (bd_wp (rd_wp fun _ => (wp_w_isAtom (fun _ _ => (br_wp (wp_w_readWord_313  hQ) (rd_wp fun _ => (ov_wp (sw_wp fun _ => (hR274 _ _ _)))))))))))))
