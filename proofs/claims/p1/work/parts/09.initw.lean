/-- the reference's object as it is new -/
def mF0 : List Value := [.null, .null, .null, .null, .null, .null, .int 0, .null, .int 0, .null, .null, .int 0, .null, .null, .int 0, .null, .int 0, .null, .int 0, .null, .int 0, .null, .int 0, .int 0, .int 0, .int 0, .null, .null, .null, .null, .int 0, .null, .int 0, .int 0, .int 0, .int 0, .null, .null, .null, .null, .null, .null, .int 0, .null, .null, .null, .null, .null, .null, .null, .null, .null, .null, .null, .int 0, .null, .null, .int 0, .int 0, .int 0, .int 0, .int 0, .int 0, .int 0, .int 0, .null, .null, .null, .null, .int 0, .null, .int 0, .null, .null, .int 0, .null, .int 0, .null, .int 0, .null, .null, .null, .null, .null, .null, .int 0, .null, .int 0, .int 0, .int 0, .int 0, .int 0, .null, .null, .null, .null, .null, .null, .null, .null, .null, .null, .int 0, .null, .int 0, .null, .null, .null, .null, .int 0, .int 0, .int 0, .null, .null, .null, .null, .null, .int 0, .null, .int 0, .null, .null, .int 0, .null, .null, .null, .int 0, .null, .null, .null, .null, .int 0, .int 0, .int 0, .int 0, .int 0, .int 0, .null, .null, .int 0, .null, .null, .null, .null, .int 0, .null, .null, .int 0, .int 0]
set_option maxRecDepth 100000 in
theorem mF0_len : mF0.length = 149 := rfl
/-- its numbers and rows ahead of the constructor's loop -/
def mU0 : mST := (fun k => if k = 25 then -1 else if k = 57 then -1 else if k = 59 then 1000 else 0, fun _ _ => 0, fun _ => 0)
theorem ia_I (cA : ClassId) (n : Nat) : vp_cell cA (n, .inl (fun _ => 0)) = arrV cA n (fun _ => defaultValue .int) := rfl
theorem ia_Z (cA : ClassId) (n : Nat) : vp_cell cA (n, .inl (fun _ => 0)) = arrV cA n (fun _ => defaultValue .boolean) := rfl
theorem ia_J (cA : ClassId) (n : Nat) : vp_cell cA (n, .inr (.inl (fun _ => 0))) = arrV cA n (fun _ => defaultValue .long) := rfl
section
variable {p : Program} {l : Launch} {e : Env} {R : Room} {s : State} {m : MethodId} {args : Array Value} {below : List Frame} {meth : Method} {c : Code} {H : Heap} {locs : List Loc} {cells slots : Nat} {Q : State → Prop}
/-- a row is made and put into its field -/
theorem ia_arr {cc : ByteArray} {pc nw : Nat} {nn : Int32} {index : Nat} {atype : ArrayType} {ty : FieldType} {a0 : vp_A} {Ts : List Cond} {A : Nat → Prop} {H0 : Heap} {D : va_G} {h0 : Nat} {ls : Array Slot} (hx : p.tables.exec = Jvm.exec) (hb : c.code = cc) (hts : ∀ w ∈ Ts, w.before args s = true) (hin : ∀ w ∈ wsX120, w ∈ Ts) (hown : s.vm.findClass RX12 = some m.cls) (hnm : meth.name = "<init>") (hA : ∀ q : Nat, H0.size ≤ q → A q) {fs : List Value} {cs : va_W} {ts : List (ClassId × FieldType)} (hlen : fs.length = 149) (hK : va_K D vwCl ts s) (hP : va_P D vwCl ((h0, .inr (12, fs)) :: cs) H) (hD : va_D A ((h0, .inr (12, fs)) :: cs)) (hS : va_S A H0 H locs)
    (harr : (Cond.arrayClass (newarray.typeOf atype)).before args s = true) (hty : newarray.typeOf atype = ty) (ha : ∀ cA : ClassId, vp_cell cA a0 = arrV cA nw (fun _ => defaultValue ty)) (hn : ¬ nn < 0) (hN : nn.toNatClampNeg = nw) (hbytes : nw * componentBytes ty ≤ 536870912) (hcells : cells + 1 ≤ R.cells) (hslots : slots + nw ≤ R.slots)
    (hd1 : decode cc pc = .ok (.newarray atype, 2)) (k : Nat) (hk : k < 149) (hlink : (Cond.fieldLink RX12 index "ProofHouseModel" (TX12 k).2.1 (TX12 k).2.2.1).before args s = true) (hself : (TX12 k).1 = "ProofHouseModel") (hfin : (TX12 k).2.2.2 = true) (hparse : parseFieldDescriptor (TX12 k).2.2.1 = some (.array ty)) (hd2 : decode cc (pc + 2) = .ok (.putfield index, 3))
    (kk : ∀ (q : Nat) (cA : ClassId) (H1 : Heap) (locs1 : List Loc), va_K D vwCl (ts ++ [(cA, ty)]) s → va_P D vwCl ((h0, .inr (12, fs.set k (.ref q))) :: (cs ++ [(q, .inl (cA, a0))])) H1 → va_D A ((h0, .inr (12, fs.set k (.ref q))) :: (cs ++ [(q, .inl (cA, a0))])) → va_S A H0 H1 locs1 → W p l e R s m args below meth c H1 locs1 (cells + 1) (slots + nw) Q (F0 m (pc + 5) ls [])) : W p l e R s m args below meth c H locs cells slots Q (F0 m pc ls [.int nn, .ref h0]) := by
  refine va_newa (ty := ty) (a0 := a0) (N' := nw) hx hb harr hty hK hP hD hS hA ha hn hN hbytes hcells hslots hd1 (fun q cA H hK hP hD hS => ?_)
  refine va_putF (D := D) (ci := 12) (v := .ref q) (ty := .array ty) (C := RX12) (T := TX12) (N := 149) hx hb hts hin tyX12 tyX12_ok nmX12 hown hK hP hD hS 0 rfl rfl k hk hlink (fun _ h9 => by rw [hself] at h9; exact h9) hfin hnm (by rw [hself]; rfl) hparse rfl rfl (by rw [hlen]; exact hk) hd2 (fun H locs hP hD hS => ?_)
  exact kk q cA H locs hK hP hD hS
end
theorem ww_all : ∀ w ∈ wsX120, w ∈ wsX12_init := fun w h => List.mem_cons_of_mem _ (List.mem_append_right _ h)
set_option maxRecDepth 100000 in
theorem ww_acI : Cond.arrayClass .int ∈ wsX12_init := List.mem_of_getElem? (i := 5) rfl
set_option maxRecDepth 100000 in
theorem ww_acJ : Cond.arrayClass .long ∈ wsX12_init := List.mem_of_getElem? (i := 12) rfl
set_option maxRecDepth 100000 in
theorem ww_acZ : Cond.arrayClass .boolean ∈ wsX12_init := List.mem_of_getElem? (i := 35) rfl
set_option maxRecDepth 100000 in
theorem ww_ol : Cond.methodLink RX12 1 objectInit ∈ wsX12_init := List.mem_of_getElem? (i := 1) rfl
set_option maxRecDepth 100000 in
theorem ww_oi : Cond.instanceMethod objectInit ∈ wsX12_init := List.mem_of_getElem? (i := 2) rfl
set_option maxRecDepth 100000 in
theorem ww_oc : Cond.code objectInit ⟨#[0xb1]⟩ 1 none ∈ wsX12_init := List.mem_of_getElem? (i := 3) rfl
set_option maxRecDepth 100000 in
theorem ww_c7 : Cond.constant RX12 7 (452000) ∈ wsX12_init := List.mem_of_getElem? (i := 4) rfl
set_option maxRecDepth 100000 in
theorem ww_f0 : Cond.fieldLink RX12 8 "ProofHouseModel" "left" "[I" ∈ wsX12_init := List.mem_of_getElem? (i := 6) rfl
set_option maxRecDepth 100000 in
theorem ww_f1 : Cond.fieldLink RX12 14 "ProofHouseModel" "right" "[I" ∈ wsX12_init := List.mem_of_getElem? (i := 7) rfl
set_option maxRecDepth 100000 in
theorem ww_f2 : Cond.fieldLink RX12 17 "ProofHouseModel" "next" "[I" ∈ wsX12_init := List.mem_of_getElem? (i := 8) rfl
set_option maxRecDepth 100000 in
theorem ww_f3 : Cond.fieldLink RX12 20 "ProofHouseModel" "sizes" "[I" ∈ wsX12_init := List.mem_of_getElem? (i := 9) rfl
set_option maxRecDepth 100000 in
theorem ww_f4 : Cond.fieldLink RX12 23 "ProofHouseModel" "heights" "[I" ∈ wsX12_init := List.mem_of_getElem? (i := 10) rfl
set_option maxRecDepth 100000 in
theorem ww_c26 : Cond.constant RX12 26 (40000) ∈ wsX12_init := List.mem_of_getElem? (i := 11) rfl
set_option maxRecDepth 100000 in
theorem ww_f5 : Cond.fieldLink RX12 27 "ProofHouseModel" "number" "[J" ∈ wsX12_init := List.mem_of_getElem? (i := 13) rfl
set_option maxRecDepth 100000 in
theorem ww_f7 : Cond.fieldLink RX12 31 "ProofHouseModel" "heads" "[I" ∈ wsX12_init := List.mem_of_getElem? (i := 14) rfl
set_option maxRecDepth 100000 in
theorem ww_c34 : Cond.constant RX12 34 (252000) ∈ wsX12_init := List.mem_of_getElem? (i := 15) rfl
set_option maxRecDepth 100000 in
theorem ww_f9 : Cond.fieldLink RX12 35 "ProofHouseModel" "names" "[I" ∈ wsX12_init := List.mem_of_getElem? (i := 16) rfl
set_option maxRecDepth 100000 in
theorem ww_f10 : Cond.fieldLink RX12 38 "ProofHouseModel" "lengths" "[I" ∈ wsX12_init := List.mem_of_getElem? (i := 17) rfl
set_option maxRecDepth 100000 in
theorem ww_f12 : Cond.fieldLink RX12 41 "ProofHouseModel" "waiting" "[I" ∈ wsX12_init := List.mem_of_getElem? (i := 18) rfl
set_option maxRecDepth 100000 in
theorem ww_f13 : Cond.fieldLink RX12 44 "ProofHouseModel" "text" "[I" ∈ wsX12_init := List.mem_of_getElem? (i := 19) rfl
set_option maxRecDepth 100000 in
theorem ww_f15 : Cond.fieldLink RX12 47 "ProofHouseModel" "out" "[I" ∈ wsX12_init := List.mem_of_getElem? (i := 20) rfl
set_option maxRecDepth 100000 in
theorem ww_f17 : Cond.fieldLink RX12 50 "ProofHouseModel" "word" "[I" ∈ wsX12_init := List.mem_of_getElem? (i := 21) rfl
set_option maxRecDepth 100000 in
theorem ww_f19 : Cond.fieldLink RX12 53 "ProofHouseModel" "tellWhat" "[I" ∈ wsX12_init := List.mem_of_getElem? (i := 22) rfl
set_option maxRecDepth 100000 in
theorem ww_f21 : Cond.fieldLink RX12 56 "ProofHouseModel" "one" "[I" ∈ wsX12_init := List.mem_of_getElem? (i := 23) rfl
set_option maxRecDepth 100000 in
theorem ww_f25 : Cond.fieldLink RX12 59 "ProofHouseModel" "readPlace" "I" ∈ wsX12_init := List.mem_of_getElem? (i := 24) rfl
set_option maxRecDepth 100000 in
theorem ww_f26 : Cond.fieldLink RX12 63 "ProofHouseModel" "openSort" "[I" ∈ wsX12_init := List.mem_of_getElem? (i := 25) rfl
set_option maxRecDepth 100000 in
theorem ww_f27 : Cond.fieldLink RX12 66 "ProofHouseModel" "openFrom" "[I" ∈ wsX12_init := List.mem_of_getElem? (i := 26) rfl
set_option maxRecDepth 100000 in
theorem ww_f28 : Cond.fieldLink RX12 69 "ProofHouseModel" "openState" "[I" ∈ wsX12_init := List.mem_of_getElem? (i := 27) rfl
set_option maxRecDepth 100000 in
theorem ww_f29 : Cond.fieldLink RX12 72 "ProofHouseModel" "openLast" "[I" ∈ wsX12_init := List.mem_of_getElem? (i := 28) rfl
set_option maxRecDepth 100000 in
theorem ww_f31 : Cond.fieldLink RX12 75 "ProofHouseModel" "items" "[I" ∈ wsX12_init := List.mem_of_getElem? (i := 29) rfl
set_option maxRecDepth 100000 in
theorem ww_f36 : Cond.fieldLink RX12 78 "ProofHouseModel" "defName" "[I" ∈ wsX12_init := List.mem_of_getElem? (i := 30) rfl
set_option maxRecDepth 100000 in
theorem ww_f37 : Cond.fieldLink RX12 81 "ProofHouseModel" "defMany" "[I" ∈ wsX12_init := List.mem_of_getElem? (i := 31) rfl
set_option maxRecDepth 100000 in
theorem ww_f38 : Cond.fieldLink RX12 84 "ProofHouseModel" "defVariable" "[I" ∈ wsX12_init := List.mem_of_getElem? (i := 32) rfl
set_option maxRecDepth 100000 in
theorem ww_f39 : Cond.fieldLink RX12 87 "ProofHouseModel" "defBody" "[I" ∈ wsX12_init := List.mem_of_getElem? (i := 33) rfl
set_option maxRecDepth 100000 in
theorem ww_f40 : Cond.fieldLink RX12 90 "ProofHouseModel" "defMeasure" "[I" ∈ wsX12_init := List.mem_of_getElem? (i := 34) rfl
set_option maxRecDepth 100000 in
theorem ww_f41 : Cond.fieldLink RX12 93 "ProofHouseModel" "defSelf" "[Z" ∈ wsX12_init := List.mem_of_getElem? (i := 36) rfl
set_option maxRecDepth 100000 in
theorem ww_f43 : Cond.fieldLink RX12 97 "ProofHouseModel" "theoremName" "[I" ∈ wsX12_init := List.mem_of_getElem? (i := 37) rfl
set_option maxRecDepth 100000 in
theorem ww_f44 : Cond.fieldLink RX12 100 "ProofHouseModel" "theorem" "[I" ∈ wsX12_init := List.mem_of_getElem? (i := 38) rfl
set_option maxRecDepth 100000 in
theorem ww_f45 : Cond.fieldLink RX12 103 "ProofHouseModel" "theoremSort" "[I" ∈ wsX12_init := List.mem_of_getElem? (i := 39) rfl
set_option maxRecDepth 100000 in
theorem ww_f46 : Cond.fieldLink RX12 106 "ProofHouseModel" "ruleLeft" "[I" ∈ wsX12_init := List.mem_of_getElem? (i := 40) rfl
set_option maxRecDepth 100000 in
theorem ww_f47 : Cond.fieldLink RX12 109 "ProofHouseModel" "ruleRight" "[I" ∈ wsX12_init := List.mem_of_getElem? (i := 41) rfl
set_option maxRecDepth 100000 in
theorem ww_f48 : Cond.fieldLink RX12 112 "ProofHouseModel" "ruleMany" "[I" ∈ wsX12_init := List.mem_of_getElem? (i := 42) rfl
set_option maxRecDepth 100000 in
theorem ww_f49 : Cond.fieldLink RX12 115 "ProofHouseModel" "ruleHypothesis" "[I" ∈ wsX12_init := List.mem_of_getElem? (i := 43) rfl
set_option maxRecDepth 100000 in
theorem ww_f50 : Cond.fieldLink RX12 118 "ProofHouseModel" "rulePermutes" "[Z" ∈ wsX12_init := List.mem_of_getElem? (i := 44) rfl
set_option maxRecDepth 100000 in
theorem ww_f51 : Cond.fieldLink RX12 121 "ProofHouseModel" "ruleTruth" "[Z" ∈ wsX12_init := List.mem_of_getElem? (i := 45) rfl
set_option maxRecDepth 100000 in
theorem ww_f52 : Cond.fieldLink RX12 124 "ProofHouseModel" "ruleOn" "[Z" ∈ wsX12_init := List.mem_of_getElem? (i := 46) rfl
set_option maxRecDepth 100000 in
theorem ww_f53 : Cond.fieldLink RX12 127 "ProofHouseModel" "ruleOut" "[Z" ∈ wsX12_init := List.mem_of_getElem? (i := 47) rfl
set_option maxRecDepth 100000 in
theorem ww_f55 : Cond.fieldLink RX12 130 "ProofHouseModel" "takenSort" "[I" ∈ wsX12_init := List.mem_of_getElem? (i := 48) rfl
set_option maxRecDepth 100000 in
theorem ww_f56 : Cond.fieldLink RX12 133 "ProofHouseModel" "takenFrom" "[I" ∈ wsX12_init := List.mem_of_getElem? (i := 49) rfl
set_option maxRecDepth 100000 in
theorem ww_f57 : Cond.fieldLink RX12 136 "ProofHouseModel" "comingName" "I" ∈ wsX12_init := List.mem_of_getElem? (i := 50) rfl
set_option maxRecDepth 100000 in
theorem ww_f59 : Cond.fieldLink RX12 139 "ProofHouseModel" "fuel" "I" ∈ wsX12_init := List.mem_of_getElem? (i := 51) rfl
set_option maxRecDepth 100000 in
theorem ww_f65 : Cond.fieldLink RX12 142 "ProofHouseModel" "other" "[I" ∈ wsX12_init := List.mem_of_getElem? (i := 52) rfl
set_option maxRecDepth 100000 in
theorem ww_f66 : Cond.fieldLink RX12 145 "ProofHouseModel" "callOf" "[I" ∈ wsX12_init := List.mem_of_getElem? (i := 53) rfl
set_option maxRecDepth 100000 in
theorem ww_f67 : Cond.fieldLink RX12 148 "ProofHouseModel" "restOf" "[I" ∈ wsX12_init := List.mem_of_getElem? (i := 54) rfl
set_option maxRecDepth 100000 in
theorem ww_f68 : Cond.fieldLink RX12 151 "ProofHouseModel" "fromOf" "[I" ∈ wsX12_init := List.mem_of_getElem? (i := 55) rfl
set_option maxRecDepth 100000 in
theorem ww_f70 : Cond.fieldLink RX12 154 "ProofHouseModel" "built" "[I" ∈ wsX12_init := List.mem_of_getElem? (i := 56) rfl
set_option maxRecDepth 100000 in
theorem ww_f72 : Cond.fieldLink RX12 157 "ProofHouseModel" "variable" "[I" ∈ wsX12_init := List.mem_of_getElem? (i := 57) rfl
set_option maxRecDepth 100000 in
theorem ww_f73 : Cond.fieldLink RX12 160 "ProofHouseModel" "instead" "[I" ∈ wsX12_init := List.mem_of_getElem? (i := 58) rfl
set_option maxRecDepth 100000 in
theorem ww_f75 : Cond.fieldLink RX12 163 "ProofHouseModel" "walk" "[I" ∈ wsX12_init := List.mem_of_getElem? (i := 59) rfl
set_option maxRecDepth 100000 in
theorem ww_f77 : Cond.fieldLink RX12 166 "ProofHouseModel" "its" "[I" ∈ wsX12_init := List.mem_of_getElem? (i := 60) rfl
set_option maxRecDepth 100000 in
theorem ww_f79 : Cond.fieldLink RX12 169 "ProofHouseModel" "evalTerm" "[I" ∈ wsX12_init := List.mem_of_getElem? (i := 61) rfl
set_option maxRecDepth 100000 in
theorem ww_f80 : Cond.fieldLink RX12 172 "ProofHouseModel" "evalRest" "[I" ∈ wsX12_init := List.mem_of_getElem? (i := 62) rfl
set_option maxRecDepth 100000 in
theorem ww_f81 : Cond.fieldLink RX12 175 "ProofHouseModel" "evalFrom" "[I" ∈ wsX12_init := List.mem_of_getElem? (i := 63) rfl
set_option maxRecDepth 100000 in
theorem ww_f82 : Cond.fieldLink RX12 178 "ProofHouseModel" "evalDef" "[I" ∈ wsX12_init := List.mem_of_getElem? (i := 64) rfl
set_option maxRecDepth 100000 in
theorem ww_f83 : Cond.fieldLink RX12 181 "ProofHouseModel" "evalBase" "[I" ∈ wsX12_init := List.mem_of_getElem? (i := 65) rfl
set_option maxRecDepth 100000 in
theorem ww_f84 : Cond.fieldLink RX12 184 "ProofHouseModel" "evalEnds" "[Z" ∈ wsX12_init := List.mem_of_getElem? (i := 66) rfl
set_option maxRecDepth 100000 in
theorem ww_f86 : Cond.fieldLink RX12 187 "ProofHouseModel" "value" "[I" ∈ wsX12_init := List.mem_of_getElem? (i := 67) rfl
set_option maxRecDepth 100000 in
theorem ww_f92 : Cond.fieldLink RX12 190 "ProofHouseModel" "job" "[I" ∈ wsX12_init := List.mem_of_getElem? (i := 68) rfl
set_option maxRecDepth 100000 in
theorem ww_f93 : Cond.fieldLink RX12 193 "ProofHouseModel" "jobTruth" "[Z" ∈ wsX12_init := List.mem_of_getElem? (i := 69) rfl
set_option maxRecDepth 100000 in
theorem ww_f94 : Cond.fieldLink RX12 196 "ProofHouseModel" "jobPhase" "[I" ∈ wsX12_init := List.mem_of_getElem? (i := 70) rfl
set_option maxRecDepth 100000 in
theorem ww_f95 : Cond.fieldLink RX12 199 "ProofHouseModel" "jobA" "[I" ∈ wsX12_init := List.mem_of_getElem? (i := 71) rfl
set_option maxRecDepth 100000 in
theorem ww_f96 : Cond.fieldLink RX12 202 "ProofHouseModel" "jobB" "[I" ∈ wsX12_init := List.mem_of_getElem? (i := 72) rfl
set_option maxRecDepth 100000 in
theorem ww_f97 : Cond.fieldLink RX12 205 "ProofHouseModel" "jobC" "[I" ∈ wsX12_init := List.mem_of_getElem? (i := 73) rfl
set_option maxRecDepth 100000 in
theorem ww_f98 : Cond.fieldLink RX12 208 "ProofHouseModel" "jobRest" "[I" ∈ wsX12_init := List.mem_of_getElem? (i := 74) rfl
set_option maxRecDepth 100000 in
theorem ww_f99 : Cond.fieldLink RX12 211 "ProofHouseModel" "jobFrom" "[I" ∈ wsX12_init := List.mem_of_getElem? (i := 75) rfl
set_option maxRecDepth 100000 in
theorem ww_f100 : Cond.fieldLink RX12 214 "ProofHouseModel" "jobRule" "[I" ∈ wsX12_init := List.mem_of_getElem? (i := 76) rfl
set_option maxRecDepth 100000 in
theorem ww_f101 : Cond.fieldLink RX12 217 "ProofHouseModel" "jobHypothesis" "[I" ∈ wsX12_init := List.mem_of_getElem? (i := 77) rfl
set_option maxRecDepth 100000 in
theorem ww_f103 : Cond.fieldLink RX12 220 "ProofHouseModel" "result" "[I" ∈ wsX12_init := List.mem_of_getElem? (i := 78) rfl
set_option maxRecDepth 100000 in
theorem ww_f105 : Cond.fieldLink RX12 223 "ProofHouseModel" "ruleVariable" "[I" ∈ wsX12_init := List.mem_of_getElem? (i := 79) rfl
set_option maxRecDepth 100000 in
theorem ww_f106 : Cond.fieldLink RX12 226 "ProofHouseModel" "ruleInstead" "[I" ∈ wsX12_init := List.mem_of_getElem? (i := 80) rfl
set_option maxRecDepth 100000 in
theorem ww_f107 : Cond.fieldLink RX12 229 "ProofHouseModel" "rulePairs" "[I" ∈ wsX12_init := List.mem_of_getElem? (i := 81) rfl
set_option maxRecDepth 100000 in
theorem ww_f108 : Cond.fieldLink RX12 232 "ProofHouseModel" "context" "[I" ∈ wsX12_init := List.mem_of_getElem? (i := 82) rfl
set_option maxRecDepth 100000 in
theorem ww_f112 : Cond.fieldLink RX12 235 "ProofHouseModel" "seekLeft" "[I" ∈ wsX12_init := List.mem_of_getElem? (i := 83) rfl
set_option maxRecDepth 100000 in
theorem ww_f113 : Cond.fieldLink RX12 238 "ProofHouseModel" "seekRight" "[I" ∈ wsX12_init := List.mem_of_getElem? (i := 84) rfl
set_option maxRecDepth 100000 in
theorem ww_c241 : Cond.constant RX12 241 (69000) ∈ wsX12_init := List.mem_of_getElem? (i := 85) rfl
set_option maxRecDepth 100000 in
theorem ww_f114 : Cond.fieldLink RX12 242 "ProofHouseModel" "literal" "[I" ∈ wsX12_init := List.mem_of_getElem? (i := 86) rfl
set_option maxRecDepth 100000 in
theorem ww_f115 : Cond.fieldLink RX12 245 "ProofHouseModel" "many" "[I" ∈ wsX12_init := List.mem_of_getElem? (i := 87) rfl
set_option maxRecDepth 100000 in
theorem ww_f116 : Cond.fieldLink RX12 248 "ProofHouseModel" "rounds" "[I" ∈ wsX12_init := List.mem_of_getElem? (i := 88) rfl
set_option maxRecDepth 100000 in
theorem ww_f118 : Cond.fieldLink RX12 251 "ProofHouseModel" "order" "[I" ∈ wsX12_init := List.mem_of_getElem? (i := 89) rfl
set_option maxRecDepth 100000 in
theorem ww_f120 : Cond.fieldLink RX12 254 "ProofHouseModel" "leftRow" "[I" ∈ wsX12_init := List.mem_of_getElem? (i := 90) rfl
set_option maxRecDepth 100000 in
theorem ww_f121 : Cond.fieldLink RX12 257 "ProofHouseModel" "draft" "[I" ∈ wsX12_init := List.mem_of_getElem? (i := 91) rfl
set_option maxRecDepth 100000 in
theorem ww_f123 : Cond.fieldLink RX12 260 "ProofHouseModel" "end" "[I" ∈ wsX12_init := List.mem_of_getElem? (i := 92) rfl
set_option maxRecDepth 100000 in
theorem ww_f124 : Cond.fieldLink RX12 263 "ProofHouseModel" "ruler" "[I" ∈ wsX12_init := List.mem_of_getElem? (i := 93) rfl
set_option maxRecDepth 100000 in
theorem ww_f125 : Cond.fieldLink RX12 266 "ProofHouseModel" "rulers" "[I" ∈ wsX12_init := List.mem_of_getElem? (i := 94) rfl
set_option maxRecDepth 100000 in
theorem ww_f127 : Cond.fieldLink RX12 269 "ProofHouseModel" "pathTerm" "[I" ∈ wsX12_init := List.mem_of_getElem? (i := 95) rfl
set_option maxRecDepth 100000 in
theorem ww_f128 : Cond.fieldLink RX12 272 "ProofHouseModel" "pathRuler" "[I" ∈ wsX12_init := List.mem_of_getElem? (i := 96) rfl
set_option maxRecDepth 100000 in
theorem ww_f129 : Cond.fieldLink RX12 275 "ProofHouseModel" "pathRulers" "[I" ∈ wsX12_init := List.mem_of_getElem? (i := 97) rfl
set_option maxRecDepth 100000 in
theorem ww_f130 : Cond.fieldLink RX12 278 "ProofHouseModel" "found" "[I" ∈ wsX12_init := List.mem_of_getElem? (i := 98) rfl
set_option maxRecDepth 100000 in
theorem ww_f137 : Cond.fieldLink RX12 281 "ProofHouseModel" "used" "[I" ∈ wsX12_init := List.mem_of_getElem? (i := 99) rfl
set_option maxRecDepth 100000 in
theorem ww_f138 : Cond.fieldLink RX12 284 "ProofHouseModel" "usedPairs" "[I" ∈ wsX12_init := List.mem_of_getElem? (i := 100) rfl
set_option maxRecDepth 100000 in
theorem ww_f140 : Cond.fieldLink RX12 287 "ProofHouseModel" "stepTerm" "[I" ∈ wsX12_init := List.mem_of_getElem? (i := 101) rfl
set_option maxRecDepth 100000 in
theorem ww_f141 : Cond.fieldLink RX12 290 "ProofHouseModel" "proof" "[I" ∈ wsX12_init := List.mem_of_getElem? (i := 102) rfl
set_option maxRecDepth 100000 in
theorem ww_f142 : Cond.fieldLink RX12 293 "ProofHouseModel" "proofPart" "[I" ∈ wsX12_init := List.mem_of_getElem? (i := 103) rfl
set_option maxRecDepth 100000 in
theorem ww_f143 : Cond.fieldLink RX12 296 "ProofHouseModel" "proofFrom" "[I" ∈ wsX12_init := List.mem_of_getElem? (i := 104) rfl
set_option maxRecDepth 100000 in
theorem ww_f145 : Cond.fieldLink RX12 299 "ProofHouseModel" "clause" "[I" ∈ wsX12_init := List.mem_of_getElem? (i := 105) rfl
set_option maxRecDepth 100000 in
theorem ww_f146 : Cond.fieldLink RX12 302 "ProofHouseModel" "clauseMany" "[I" ∈ wsX12_init := List.mem_of_getElem? (i := 106) rfl
