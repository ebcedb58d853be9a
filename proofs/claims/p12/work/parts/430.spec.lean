-- deps:
-- base: P05
-- nodec
/-! what both do, over objects as trees: atoms (even: a natural, odd: a symbol) and pairs -/
abbrev Ob := Lean.Data.AC.Expr
abbrev Ob.pr (a b : Ob) : Ob := Lean.Data.AC.Expr.op a b
def Ob.enc : List Int → Nat | [] => 0 | c :: l => 128 * Ob.enc l + c.toNat
def Ob.decF : Nat → Nat → List Int | 0, _ => [] | k + 1, n => if n = 0 then [] else ((n % 128 : Nat) : Int) :: Ob.decF k (n / 128)
def Ob.dec (n : Nat) : List Int := Ob.decF 12 n
/-- a word -/
def Ob.okw (s : List Int) : Prop := s.length ≤ 12 ∧ ∀ c, c ∈ s → 1 ≤ c ∧ c ≤ 127
def Ob.nat (n : Int) : Ob := Lean.Data.AC.Expr.var (2 * n.toNat)
def Ob.sym (s : List Int) : Ob := Lean.Data.AC.Expr.var (2 * Ob.enc s + 1)
def Ob.nil : Ob := Ob.sym [110, 105, 108]
def Ob.t : Ob := Ob.sym [116]
def Ob.quote : Ob := Ob.sym [113, 117, 111, 116, 101]
def Ob.ifS : Ob := Ob.sym [105, 102]
def Ob.equal : Ob := Ob.sym [101, 113, 117, 97, 108]
def Ob.cons : Ob := Ob.sym [99, 111, 110, 115]
def Ob.implies : Ob := Ob.sym [105, 109, 112, 108, 105, 101, 115]
def Ob.plus : Ob := Ob.sym [43]
def Ob.minus : Ob := Ob.sym [45]
def Ob.less : Ob := Ob.sym [60]
def Ob.consp : Ob := Ob.sym [99, 111, 110, 115, 112]
def Ob.car : Ob := Ob.sym [99, 97, 114]
def Ob.cdr : Ob := Ob.sym [99, 100, 114]
def Ob.natp : Ob := Ob.sym [110, 97, 116, 112]
def Ob.symbolp : Ob := Ob.sym [115, 121, 109, 98, 111, 108, 112]
def Ob.not : Ob := Ob.sym [110, 111, 116]
def Ob.height : Ob := Ob.sym [104, 101, 105, 103, 104, 116]
def Ob.defun : Ob := Ob.sym [100, 101, 102, 117, 110]
def Ob.thmS : Ob := Ob.sym [116, 104, 101, 111, 114, 101, 109]
def Ob.eval : Ob := Ob.sym [101, 118, 97, 108]
def Ob.simplify : Ob := Ob.sym [115, 105, 109, 112, 108, 105, 102, 121]
def Ob.prove : Ob := Ob.sym [112, 114, 111, 118, 101]
def Ob.defthm : Ob := Ob.sym [100, 101, 102, 116, 104, 109]
def Ob.on : Ob := Ob.sym [111, 110]
def Ob.off : Ob := Ob.sym [111, 102, 102]
def Ob.undo : Ob := Ob.sym [117, 110, 100, 111]
def Ob.check : Ob := Ob.sym [99, 104, 101, 99, 107]
def Ob.induct : Ob := Ob.sym [105, 110, 100, 117, 99, 116]
def Ob.use : Ob := Ob.sym [117, 115, 101]
def Ob.taut : Ob := Ob.sym [116, 97, 117, 116]
def Ob.same : Ob := Ob.sym [115, 97, 109, 101]
def Ob.value : Ob := Ob.sym [118, 97, 108, 117, 101]
def Ob.first : Ob := Ob.sym [102, 105, 114, 115, 116]
def Ob.second : Ob := Ob.sym [115, 101, 99, 111, 110, 100]
def Ob.pair : Ob := Ob.sym [112, 97, 105, 114]
def Ob.yes : Ob := Ob.sym [121, 101, 115]
def Ob.no : Ob := Ob.sym [110, 111]
def Ob.defS : Ob := Ob.sym [100, 101, 102]
def Ob.thm : Ob := Ob.sym [116, 104, 109]
def Ob.weak : Ob := Ob.sym [119, 101, 97, 107]
def Ob.cut : Ob := Ob.sym [99, 117, 116]
def Ob.inst : Ob := Ob.sym [105, 110, 115, 116]
def Ob.swap : Ob := Ob.sym [115, 119, 97, 112]
def Ob.put : Ob := Ob.sym [112, 117, 116]
/-- the known symbols in the reference's order -/
def Ob.known : List Ob := [Ob.nil, Ob.t, Ob.quote, Ob.ifS, Ob.equal, Ob.cons, Ob.implies, Ob.plus, Ob.minus, Ob.less, Ob.consp, Ob.car, Ob.cdr, Ob.natp, Ob.symbolp, Ob.not, Ob.height, Ob.defun, Ob.thmS, Ob.eval, Ob.simplify, Ob.prove, Ob.defthm, Ob.on, Ob.off, Ob.undo, Ob.check, Ob.induct, Ob.use, Ob.taut, Ob.same, Ob.value, Ob.first, Ob.second, Ob.pair, Ob.yes, Ob.no, Ob.defS, Ob.thm, Ob.weak, Ob.cut, Ob.inst, Ob.swap, Ob.put]
/-- and in the class's -/
def Ob.knownC : List Ob := [Ob.nil, Ob.t, Ob.quote, Ob.ifS, Ob.equal, Ob.cons, Ob.implies, Ob.plus, Ob.minus, Ob.less, Ob.consp, Ob.car, Ob.cdr, Ob.natp, Ob.symbolp, Ob.height, Ob.not, Ob.eval, Ob.simplify, Ob.prove, Ob.defun, Ob.defthm, Ob.check, Ob.on, Ob.off, Ob.undo, Ob.use, Ob.thmS, Ob.taut, Ob.same, Ob.value, Ob.first, Ob.second, Ob.pair, Ob.yes, Ob.no, Ob.defS, Ob.thm, Ob.weak, Ob.cut, Ob.inst, Ob.swap, Ob.put, Ob.induct]
def Ob.isPr : Ob → Bool | .op _ _ => true | _ => false
def Ob.isNat : Ob → Bool | .var x => x % 2 == 0 | _ => false
def Ob.isSym : Ob → Bool | .var x => x % 2 == 1 | _ => false
def Ob.lft : Ob → Ob | .op a _ => a | _ => Ob.nil
def Ob.rgt : Ob → Ob | .op _ b => b | _ => Ob.nil
def Ob.item : Ob → Nat → Ob | .op a _, 0 => a | .op _ b, k + 1 => Ob.item b k | _, _ => Ob.nil
def Ob.toList : Ob → List Ob | .op a b => a :: Ob.toList b | _ => []
def Ob.ofList : List Ob → Ob | [] => Ob.nil | a :: l => .op a (Ob.ofList l)
def Ob.valOf : Ob → Ob | .op _ b => Ob.lft b | o => o
def Ob.num : Ob → Int | .var x => if x % 2 = 0 then ((x / 2 : Nat) : Int) else 0 | _ => 0
def Ob.hgt : Ob → Int | .op a b => 1 + (if Ob.hgt b < Ob.hgt a then Ob.hgt a else Ob.hgt b) | _ => 0
def Ob.tr (b : Bool) : Ob := if b then Ob.t else Ob.nil
theorem Ob.pr.inj {a b c d : Ob} (h : Ob.pr a b = Ob.pr c d) : a = c ∧ b = d := by injection h with h1 h2; exact ⟨h1, h2⟩
theorem Ob.ind {P : Ob → Prop} (hv : ∀ x, P (.var x)) (hp : ∀ a b, P a → P b → P (.pr a b)) : ∀ o, P o
  | .var x => hv x
  | .op a b => hp a b (Ob.ind hv hp a) (Ob.ind hv hp b)
theorem Ob.decF_enc : ∀ (k : Nat) (s : List Int), s.length ≤ k → (∀ c, c ∈ s → 1 ≤ c ∧ c ≤ 127) → Ob.decF k (Ob.enc s) = s
  | 0, [], _, _ => rfl
  | 0, _ :: _, h, _ => absurd h (by simp)
  | k + 1, [], _, _ => rfl
  | k + 1, c :: l, h, hc => by
    have h1 := hc c List.mem_cons_self
    have e : Ob.enc (c :: l) = 128 * Ob.enc l + c.toNat := rfl
    have e1 : Ob.enc (c :: l) % 128 = c.toNat := by omega
    have e2 : Ob.enc (c :: l) / 128 = Ob.enc l := by omega
    show (if Ob.enc (c :: l) = 0 then [] else _) = _
    rw [if_neg (by omega), e1, e2, Ob.decF_enc k l (by simpa using h) (fun d hd => hc d (List.mem_cons_of_mem _ hd))]
    congr 1
    omega
theorem Ob.dec_enc {s : List Int} (h : Ob.okw s) : Ob.dec (Ob.enc s) = s := Ob.decF_enc 12 s h.1 h.2
theorem Ob.nat.inj {m n : Int} (h : Ob.nat m = Ob.nat n) (m0 : 0 ≤ m) (n0 : 0 ≤ n) : m = n := by
  injection h with h; omega
theorem Ob.sym.inj {s t : List Int} (h : Ob.sym s = Ob.sym t) (hs : Ob.okw s) (ht : Ob.okw t) : s = t := by
  injection h with h
  rw [← Ob.dec_enc hs, ← Ob.dec_enc ht, show Ob.enc s = Ob.enc t by omega]
theorem Ob.nat_ne {n : Int} {s : List Int} : Ob.nat n ≠ Ob.sym s := by
  intro h; injection h with h; omega
theorem Ob.nat_isNat (n : Int) : (Ob.nat n).isNat = true := by show (2 * n.toNat % 2 == 0) = true; rw [show 2 * n.toNat % 2 = 0 by omega]; rfl
theorem Ob.nat_isSym (n : Int) : (Ob.nat n).isSym = false := by show (2 * n.toNat % 2 == 1) = false; rw [show 2 * n.toNat % 2 = 0 by omega]; rfl
theorem Ob.sym_isNat (s : List Int) : (Ob.sym s).isNat = false := by show ((2 * Ob.enc s + 1) % 2 == 0) = false; rw [show (2 * Ob.enc s + 1) % 2 = 1 by omega]; rfl
theorem Ob.sym_isSym (s : List Int) : (Ob.sym s).isSym = true := by show ((2 * Ob.enc s + 1) % 2 == 1) = true; rw [show (2 * Ob.enc s + 1) % 2 = 1 by omega]; rfl
theorem Ob.nat_num {n : Int} (h : 0 ≤ n) : (Ob.nat n).num = n := by show (if 2 * n.toNat % 2 = 0 then ((2 * n.toNat / 2 : Nat) : Int) else 0) = n; rw [if_pos (by omega)]; omega
theorem Ob.sym_num (s : List Int) : (Ob.sym s).num = 0 := by show (if (2 * Ob.enc s + 1) % 2 = 0 then _ else (0 : Int)) = 0; rw [if_neg (by omega)]
