def gScr (X : gX) (b L : Nat) (xs : Nat → Int32) : Prop := match X with
  | (_, _, _, s, _, _, _, _, _, _, _, _, A, _) => va_X b L xs s s.heap ∧ b < s.heap.size ∧ ¬ A b
theorem gsw {a b c : va_W} : (a ++ (b ++ c)).Perm (b ++ (a ++ c)) := by
  rw [← List.append_assoc, ← List.append_assoc]
  exact List.Perm.append_right c List.perm_append_comm
section LAWR
variable {B : gB} {X : gX} {own : String} {cc : ByteArray} {nL d mc ms n w : Nat} {rt : Option FieldType} {pc : Nat} {lv : List (Nat × Value)} {st : List Value} {ws ws' : va_W} {b L : Nat} {xs : Nat → Int32}
theorem g_sld (hX : gOkI B X own cc nL d mc ms) (hS : gScr X b L xs) {i : Int32} (hi : vp_in i L) (hd : decode cc pc = .ok (.iaload, 1)) (k : gG B (gXc X n w) (pc + 1) lv (.int (xs i.toNatClampNeg) :: st) ws) : gG B (gXc X n w) pc lv (.int i :: .ref b :: st) ws := by
  obtain ⟨p, ev, R, s, m, args, below, meth, c, cells, slots, Q, A, Fin⟩ := X
  obtain ⟨hx, hb, hml, hown, hts, hK, hA, hf, hSt⟩ := hX
  intro H locs ls hP hD hS2 hl
  exact va_sld hx hb hS.1 hS.2.1 hS.2.2 hS2 hi hd (k H locs ls hP hD hS2 hl)
theorem g_slen (hX : gOkI B X own cc nL d mc ms) (hS : gScr X b L xs) (hd : decode cc pc = .ok (.arraylength, 1)) (k : gG B (gXc X n w) (pc + 1) lv (.int (Int32.ofNat L) :: st) ws) : gG B (gXc X n w) pc lv (.ref b :: st) ws := by
  obtain ⟨p, ev, R, s, m, args, below, meth, c, cells, slots, Q, A, Fin⟩ := X
  obtain ⟨hx, hb, hml, hown, hts, hK, hA, hf, hSt⟩ := hX
  intro H locs ls hP hD hS2 hl
  exact va_slen hx hb hS.1 hS.2.1 hS.2.2 hS2 hd (k H locs ls hP hD hS2 hl)
theorem g_icmpT (hX : gOk B X own cc nL d rt) {x y : Int32} {off : Int} {tgt : Nat} (h : x = y) (hd : decode cc pc = .ok (.if_icmp .eq off, 3)) (ht : (pc : Int) + off = (tgt : Int)) (k : gG B X tgt lv st ws) : gG B X pc lv (.int y :: .int x :: st) ws :=
  gH.toG (h_icmp_eq (E1 := some ()) (E2 := none) hX hd ht (fun _ => gG.toH k) (fun _ => gH.none') |> fun z => by rw [if_pos h] at z; exact z)
theorem g_ifT (hX : gOk B X own cc nL d rt) {x : Int32} {off : Int} {tgt : Nat} (h : x = 0) (hd : decode cc pc = .ok (.ifCond .eq off, 3)) (ht : (pc : Int) + off = (tgt : Int)) (k : gG B X tgt lv st ws) : gG B X pc lv (.int x :: st) ws :=
  gH.toG (h_if_eq (E1 := some ()) (E2 := none) hX hd ht (fun _ => gG.toH k) (fun _ => gH.none') |> fun z => by rw [if_pos h] at z; exact z)
theorem g_ifF (hX : gOk B X own cc nL d rt) {x : Int32} {off : Int} {tgt : Nat} (h : ¬ x = 0) (hd : decode cc pc = .ok (.ifCond .eq off, 3)) (ht : (pc : Int) + off = (tgt : Int)) (k : gG B X (pc + 3) lv st ws) : gG B X pc lv (.int x :: st) ws :=
  gH.toG (h_if_eq (E1 := none) (E2 := some ()) hX hd ht (fun _ => gH.none') (fun _ => gG.toH k) |> fun z => by rw [if_neg h] at z; exact z)
theorem gG.callVi (hX : gOk B X own cc nL d rt) {ix d' nL' n b : Nat} {C : String} {y : MethodName} {cc' : ByteArray} {rt' : Option FieldType} {As st0 : List Value} {v : Int32} (hd : decode cc pc = .ok (.invokevirtual ix, 3)) (hw : gCV own ix C y cc' nL' rt' n) (hm : gMet B d' y cc' nL' rt' (.ref b :: As) ws (some (.int v)) ws') (hrv : gRv ws b C) (h0 : st0 = As.reverse ++ .ref b :: st) (hn : As.length = n) (hr : d' + 1 ≤ d ∧ 8 + (nL' + 11) + 64 * d' ≤ 64 * d) (hst : (st.map fun v => v.category).sum ≤ 8)
    (k : gG B X (pc + 3) lv (.int v :: st) ws') : gG B X pc lv st0 ws := by
  subst h0
  exact gG.callV hX hd hw hm hrv hn hr hst k
end LAWR
