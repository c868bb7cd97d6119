def tab0 : List Int32 := [115, 98, 109, 102]
def tab1 : List Int32 := [0, 1, 6, 12]
def tab2 : List Int32 := [1, 5, 6, 6]
def tab3 : List Int32 := [108, 114, 99, 107, 112, 0, 111, 119, 115, 112, 119, 110]
def tab4 : List Int32 := [3, 1, 0, 1, 0, 0, 0, 0, 1, 0, 0, 0]
def tab5 : List Int32 := [30, 9, 99, 9, 9, 0, 4, 5, 9, 9, 5, 9]
def tab6 : List Int32 := [12, 3, 10, 5, 0, 0, 0, 0, 3, 0, 0, 2]
def tab7 : List Int32 := [112, 107, 115, 99, 104, 100]
abbrev aC (B : gB) (k : Nat) : Nat := B.2.2.2.1 k
abbrev aM (B : gB) (k : Nat) : Nat := B.2.2.2.2.1 k
abbrev aT (B : gB) (k : Nat) : Nat := B.2.2.2.2.2 k
def wdC (B : gB) (W_spillsNow : Int32) (W_drawn : Int64) (T_length : Int32) (T_at : Int32) (T_bytes : Nat → Int32) (D_cells : Nat → Int32) (D_clauses : Nat → Int32) (G_length : Int32) (G_code : Nat → Int32) (A_size : Int32) (A_chosen : Int32) (A_codes : Nat → Int32) (A_lengths : Nat → Int32) (A_stack : Nat → Int32) (Y_cells : Nat → Int32) (Y_clauses : Nat → Int32) (N_marbles : Int32) (N_chipped : Int32) (N_swallowed : Int32) (N_sweets : Int32) (N_day : Int32) (N_owners : Nat → Int32) (P_next : Int32) (P_kept : Int32) (P_hasImage : Int32) (P_image : Int64) (P_acts : Nat → Int64) (P_entries : Nat → Int32) (P_imageEntries : Nat → Int32) (S_fewest : Int32) (S_row : Int32) (S_strengths : Nat → Int32) (U_size : Int32) (U_found : Int32) (U_places : Nat → Int32) (U_kinds : Nat → Int32) (U_holds : Nat → Int32) (U_fitting : Nat → Int32) (U_tally : Nat → Int32) (L_letters : Nat → Int32) (L_firstCells : Nat → Int32) (L_secondCells : Nat → Int32) (L_firstBest : Nat → Int32) (L_secondBest : Nat → Int32) (W_refusals : Nat → Int32) : va_W := [(aC B 0, .inr (10, [.ref (aC B 1), .ref (aC B 3), .ref (aC B 7), .ref (aC B 9), .ref (aC B 13), .ref (aC B 16), .ref (aC B 18), .ref (aC B 22), .ref (aC B 24), .ref (aC B 30), .ref (aC B 36), .int W_spillsNow, .long W_drawn])),
  (aC B 1, .inr (7, [.ref (aC B 2), .int T_length, .int T_at])),
  (aC B 2, .inl (B.2.2.1.1, 240, .inl T_bytes)),
  (aC B 3, .inr (9, [.ref (aC B 1), .ref (aC B 4)])),
  (aC B 4, .inr (8, [.ref (aC B 5), .ref (aC B 6)])),
  (aC B 5, .inl (B.2.2.1.1, 54, .inl D_cells)),
  (aC B 6, .inl (B.2.2.1.1, 4, .inl D_clauses)),
  (aC B 7, .inr (2, [.ref (aC B 1), .ref (aC B 8), .int G_length])),
  (aC B 8, .inl (B.2.2.1.1, 240, .inl G_code)),
  (aC B 9, .inr (3, [.ref (aC B 10), .ref (aC B 11), .int A_size, .int A_chosen, .ref (aC B 12)])),
  (aC B 10, .inl (B.2.2.1.1, 960, .inl A_codes)),
  (aC B 11, .inl (B.2.2.1.1, 4, .inl A_lengths)),
  (aC B 12, .inl (B.2.2.1.1, 240, .inl A_stack)),
  (aC B 13, .inr (8, [.ref (aC B 14), .ref (aC B 15)])),
  (aC B 14, .inl (B.2.2.1.1, 54, .inl Y_cells)),
  (aC B 15, .inl (B.2.2.1.1, 4, .inl Y_clauses)),
  (aC B 16, .inr (4, [.ref (aC B 17), .int N_marbles, .int N_chipped, .int N_swallowed, .int N_sweets, .int N_day])),
  (aC B 17, .inl (B.2.2.1.1, 6, .inl N_owners)),
  (aC B 18, .inr (5, [.ref (aC B 16), .ref (aC B 19), .int P_next, .int P_kept, .ref (aC B 20), .int P_hasImage, .long P_image, .ref (aC B 21)])),
  (aC B 19, .inl (B.2.2.1.2.1, 40, .inr (.inl P_acts))),
  (aC B 20, .inl (B.2.2.1.1, 128, .inl P_entries)),
  (aC B 21, .inl (B.2.2.1.1, 60, .inl P_imageEntries)),
  (aC B 22, .inr (6, [.ref (aC B 13), .ref (aC B 16), .ref (aC B 23), .int S_fewest, .int S_row])),
  (aC B 23, .inl (B.2.2.1.1, 60, .inl S_strengths)),
  (aC B 24, .inr (0, [.ref (aC B 13), .ref (aC B 16), .ref (aC B 22), .int U_size, .ref (aC B 25), .ref (aC B 26), .ref (aC B 27), .int U_found, .ref (aC B 28), .ref (aC B 29)])),
  (aC B 25, .inl (B.2.2.1.1, 10, .inl U_places)),
  (aC B 26, .inl (B.2.2.1.1, 10, .inl U_kinds)),
  (aC B 27, .inl (B.2.2.1.2.2, 10, .inl U_holds)),
  (aC B 28, .inl (B.2.2.1.1, 31, .inl U_fitting)),
  (aC B 29, .inl (B.2.2.1.1, 70, .inl U_tally)),
  (aC B 30, .inr (1, [.ref (aC B 13), .ref (aC B 16), .ref (aC B 9), .ref (aC B 31), .ref (aC B 32), .ref (aC B 33), .ref (aC B 34), .ref (aC B 35)])),
  (aC B 31, .inl (B.2.2.1.1, 6, .inl L_letters)),
  (aC B 32, .inl (B.2.2.1.1, 10, .inl L_firstCells)),
  (aC B 33, .inl (B.2.2.1.1, 10, .inl L_secondCells)),
  (aC B 34, .inl (B.2.2.1.1, 10, .inl L_firstBest)),
  (aC B 35, .inl (B.2.2.1.1, 10, .inl L_secondBest)),
  (aC B 36, .inl (B.2.2.1.1, 5, .inl W_refusals))]
def wdM (B : gB) (m_thrown : Int32) (m_size : Int32) (m_at : Int32) (m_wrong : Int32) (m_deep : Int32) (m_laws : Int32) (m_text : Int32) (m_readBoys : Int32) (m_readMarbles : Int32) (m_readFarms : Int32) (m_boys : Int32) (m_marbles : Int32) (m_farms : Int32) (m_holding : Int32) (m_spills : Int32) (m_acts : Int32) (m_draws : Int64) (m_bestRow : Int32) (m_bestMany : Int32) (m_noted : Int32) (m_hasImage : Int32) (m_tape : Nat → Int32) (m_code : Nat → Int32) (m_value : Nat → Int32) (m_codes : Nat → Int32) (m_clauses : Nat → Int32) (m_testFrom : Nat → Int32) (m_sumFrom : Nat → Int32) (m_sumTo : Nat → Int32) (m_letters : Nat → Int32) (m_stack : Nat → Int32) (m_readRule : Nat → Int32) (m_readBoy : Nat → Int32) (m_readMarble : Nat → Int32) (m_readFarm : Nat → Int32) (m_rule : Nat → Int32) (m_boy : Nat → Int32) (m_marble : Nat → Int32) (m_farm : Nat → Int32) (m_now : Nat → Int32) (m_refused : Nat → Int32) (m_kept : Nat → Int32) (m_notePlace : Nat → Int32) (m_noteKind : Nat → Int32) (m_noteIs : Nat → Int32) (m_toldBy : Nat → Int32) (m_image : Nat → Int32) : va_W := [(aM B 0, .inr (11, [.int m_thrown, .ref (aM B 1), .int m_size, .int m_at, .int m_wrong, .int m_deep, .ref (aM B 2), .ref (aM B 3), .ref (aM B 4), .ref (aM B 5), .ref (aM B 6), .ref (aM B 7), .ref (aM B 8), .int m_laws, .int m_text, .ref (aM B 9), .ref (aM B 10), .ref (aM B 11), .ref (aM B 12), .ref (aM B 13), .ref (aM B 14), .int m_readBoys, .int m_readMarbles, .int m_readFarms, .ref (aM B 15), .ref (aM B 16), .ref (aM B 17), .ref (aM B 18), .int m_boys, .int m_marbles, .int m_farms, .ref (aM B 19), .ref (aM B 20), .int m_holding, .int m_spills, .ref (aM B 21), .int m_acts, .long m_draws, .int m_bestRow, .int m_bestMany, .ref (aM B 22), .ref (aM B 23), .ref (aM B 24), .int m_noted, .ref (aM B 25), .ref (aM B 26), .int m_hasImage])),
  (aM B 1, .inl (B.2.2.1.1, 240, .inl m_tape)),
  (aM B 2, .inl (B.2.2.1.1, 2600, .inl m_code)),
  (aM B 3, .inl (B.2.2.1.1, 2600, .inl m_value)),
  (aM B 4, .inl (B.2.2.1.1, 5, .inl m_codes)),
  (aM B 5, .inl (B.2.2.1.1, 5, .inl m_clauses)),
  (aM B 6, .inl (B.2.2.1.1, 700, .inl m_testFrom)),
  (aM B 7, .inl (B.2.2.1.1, 700, .inl m_sumFrom)),
  (aM B 8, .inl (B.2.2.1.1, 700, .inl m_sumTo)),
  (aM B 9, .inl (B.2.2.1.1, 6, .inl m_letters)),
  (aM B 10, .inl (B.2.2.1.1, 80, .inl m_stack)),
  (aM B 11, .inl (B.2.2.1.1, 3, .inl m_readRule)),
  (aM B 12, .inl (B.2.2.1.1, 10, .inl m_readBoy)),
  (aM B 13, .inl (B.2.2.1.1, 18, .inl m_readMarble)),
  (aM B 14, .inl (B.2.2.1.1, 18, .inl m_readFarm)),
  (aM B 15, .inl (B.2.2.1.1, 3, .inl m_rule)),
  (aM B 16, .inl (B.2.2.1.1, 10, .inl m_boy)),
  (aM B 17, .inl (B.2.2.1.1, 18, .inl m_marble)),
  (aM B 18, .inl (B.2.2.1.1, 18, .inl m_farm)),
  (aM B 19, .inl (B.2.2.1.1, 131, .inl m_now)),
  (aM B 20, .inl (B.2.2.1.1, 5, .inl m_refused)),
  (aM B 21, .inl (B.2.2.1.1, 5240, .inl m_kept)),
  (aM B 22, .inl (B.2.2.1.1, 10, .inl m_notePlace)),
  (aM B 23, .inl (B.2.2.1.1, 10, .inl m_noteKind)),
  (aM B 24, .inl (B.2.2.1.2.2, 10, .inl m_noteIs)),
  (aM B 25, .inl (B.2.2.1.1, 70, .inl m_toldBy)),
  (aM B 26, .inl (B.2.2.1.1, 131, .inl m_image))]
def jmax (x y : Int32) : Int32 := if x < y then y else x
def jmin (x y : Int32) : Int32 := if y < x then y else x
def jabs (x : Int32) : Int32 := if 0 ≤ x then x else 0 - x
def jmaxl (x y : Int64) : Int64 := if y < x then x else y
def jminl (x y : Int64) : Int64 := if y < x then y else x
def gCM (own : String) (ix : Nat) (y : MethodName) (cc : ByteArray) (nL : Nat) (rt : Option FieldType) : Prop := Cond.methodLink own ix y ∈ gT ∧ Cond.static y ∈ gT ∧ Cond.initialized "java/lang/Math" ∈ gT ∧ Cond.code y cc nL rt ∈ gT
section MORE
variable {ρ : Type} {B : gB} {X : gX} {K : ρ → Prop} {own : String} {cc : ByteArray} {nL d : Nat} {rt : Option FieldType} {pc : Nat} {lv : List (Nat × Value)} {st : List Value} {ws : va_W} {E : Option ρ}
theorem gH.inr {S : Type} {K1 : S → Prop} (k : gH B X K pc lv st ws E) : gH B X (Sum.elim K1 K) pc lv st ws (E.map Sum.inr) := by
  intro r e hk
  obtain ⟨a, ha, hr⟩ := Option.map_eq_some_iff.mp e
  subst hr
  exact k a ha hk
theorem gH.letw {α : Type} {x : α} {w : α → va_W} {F : α → Option ρ} (k : ∀ y : α, gH B X K pc lv st (w y) (F y)) : gH B X K pc lv st (w x) (oL x F) := k x
theorem h_retz (hX : gOk B X own cc nL d (some .boolean)) {v : Int32} (hd : decode cc pc = .ok (.ireturn, 1)) {q : ρ} (hk : K q → gFin X (some (.int v)) ws) : gH B X K pc lv [.int v] ws (oZ v (some q)) := by
  intro r e hk2
  obtain ⟨hz, e⟩ := oZ_some e
  exact h_ret hX (rv := some (.int v)) hd hz hk r e hk2
theorem h_lremz (hX : gOk B X own cc nL d rt) {x y : Int64} (hd : decode cc pc = .ok (.lrem, 1)) (k : gH B X K (pc + 1) lv (.long (x - x / y * y) :: st) ws E) : gH B X K pc lv (.long y :: .long x :: st) ws (oDl y E) := fun r e hk => h_lrem hX hd (oDl_some e).1 k r (oDl_some e).2 hk
theorem h_iincc (hX : gOk B X own cc nL d rt) {i : Nat} {n : Int} {x c : Int32} {lv' : List (Nat × Value)} (hd : decode cc pc = .ok (.iinc i n, 3)) (hg : lvget lv i = some (.int x)) (hc : Int32.ofInt n = c) (hn : i < nL) (hs : lvset (lvcut1 lv i) i (.int (x + c)) = lv') (k : gH B X K (pc + 3) lv' st ws E) : gH B X K pc lv st ws E := h_iinc hX hd hg (by rw [hc]) hn hs k
theorem h_tsdef (hX : gOk B X own cc nL d rt) {dflt lo hi : Int} {offs : Array Int} {len : Nat} {x : Int32} {cs : List Int32} {tgt : Nat} (hd : decode cc pc = .ok (.tableswitch dflt lo hi offs, len)) (hcs : (List.range offs.size).all (fun k => offs[k]? == some dflt || cs.any (fun c => c.toInt == lo + k)) = true) (hsz : hi + 1 = lo + offs.size) (hx : ∀ c ∈ cs, ¬ x = c) (ht : (pc : Int) + dflt = (tgt : Int)) (k : gH B X K tgt lv st ws E) : gH B X K pc lv (.int x :: st) ws E := by
  by_cases h : x.toInt < lo ∨ hi < x.toInt
  · exact h_tsout hX hd ht h k
  · have h1 : lo ≤ x.toInt := by omega
    have h2 : x.toInt ≤ hi := by omega
    have hk : (x.toInt - lo).toNat < offs.size := by omega
    have hq := List.all_eq_true.mp hcs _ (List.mem_range.mpr hk)
    rw [Bool.or_eq_true] at hq
    rcases hq with hq | hq
    · exact h_tsin hX hd rfl (by omega) (by omega) (eq_of_beq hq) ht k
    · obtain ⟨c, hc, he⟩ := List.any_eq_true.mp hq
      have he := eq_of_beq he
      exact absurd (Int32.toInt_inj.mp (by omega)) (hx c hc)
theorem lk_off {dflt x : Int} : ∀ (ps : List (Int × Int)), (∀ q ∈ ps, ¬ x = q.1) → Op.lookupswitch.offset ps dflt x = dflt
  | [], _ => rfl
  | (a, o) :: ps, h => by
    show (if a = x then o else Op.lookupswitch.offset ps dflt x) = dflt
    rw [if_neg (fun e => h (a, o) List.mem_cons_self e.symm)]
    exact lk_off ps (fun r hr => h r (List.mem_cons_of_mem _ hr))
theorem h_lkdef (hX : gOk B X own cc nL d rt) {dflt : Int} {ps : Array (Int × Int)} {len : Nat} {x : Int32} {cs : List Int32} {tgt : Nat} (hd : decode cc pc = .ok (.lookupswitch dflt ps, len)) (hp : (ps.toList.zip (ps.toList.drop 1)).all (fun (a, next) => a.1 < next.1) = true) (hcs : ps.toList.all (fun q => cs.any (fun c => c.toInt == q.1)) = true) (hx : ∀ c ∈ cs, ¬ x = c) (ht : (pc : Int) + dflt = (tgt : Int)) (k : gH B X K tgt lv st ws E) : gH B X K pc lv (.int x :: st) ws E := by
  refine h_lksw hX hd hp (lk_off _ (fun q hq he => ?_)) ht k
  obtain ⟨c, hc, hce⟩ := List.any_eq_true.mp (List.all_eq_true.mp hcs q hq)
  have hce := eq_of_beq hce
  exact hx c hc (Int32.toInt_inj.mp (by omega))
theorem h_copy (hX : gOk B X own cc nL d rt) {ix a0 a1 n0 : Nat} {f g : Nat → Int32} {n : Int32} {ws' : va_W} (hd : decode cc pc = .ok (.invokestatic ix, 3)) (hw : Cond.methodLink own ix arraycopyName ∈ gT ∧ Cond.native arraycopyName ∈ gT ∧ Cond.static arraycopyName ∈ gT ∧ Cond.initialized "java/lang/System" ∈ gT) (q0 q1 : Nat) (ha0 : ws[q0]? = some (a0, .inl (B.2.2.1.1, n0, .inl f))) (ha1 : ws[q1]? = some (a1, .inl (B.2.2.1.1, n0, .inl g))) (hn : ¬ n < 0) (hn0 : n.toNatClampNeg = n0) (hd1 : 1 ≤ d) (hset : ws.set q1 (a1, .inl (B.2.2.1.1, n0, .inl (va_cpy f g 0 0 n0))) = ws') (k : gH B X K (pc + 3) lv [] ws' E) : gH B X K pc lv [.int n, .int 0, .ref a1, .int 0, .ref a0] ws E := by
  intro r e hk
  obtain ⟨p, ev, R, s, m, args, below, meth, c, cells, slots, Q, A, Fin⟩ := X
  obtain ⟨hx, hb, hml, hown, hts, hK, hA, ⟨hf1, hf2, hf3, hf4⟩, hSt, hret⟩ := hX
  intro H locs ls hP hD hS hl
  subst hn0
  subst hset
  have hz : (0 : Int32).toNatClampNeg = 0 := by decide
  refine va_copyi (D := B.2.1) (tys := gTys B) hx hb hl.1.symm hown (hts _ hw.1) (hts _ hw.2.1) (hts _ hw.2.2.1) (hts _ hw.2.2.2) hK hP hD hS q0 q1 0 0 ha0 ha1 rfl rfl rfl (by decide) (by decide) hn (by rw [hz]; omega) (by rw [hz]; omega) (fun _ _ => rfl) (Nat.le_trans hd1 hf1) ?_ hd (fun H locs hP hD hS => ?_)
  · refine Nat.le_trans ?_ (Nat.le_trans (Nat.mul_le_mul_left 64 hd1) hf2)
    decide
  · rw [hz] at hP hD
    exact k r e hk H locs ls hP hD hS hl
theorem h_jmax (hX : gOk B X own cc nL d rt) {ix : Nat} {x y : Int32} (hd : decode cc pc = .ok (.invokestatic ix, 3)) (hw : gCM own ix Lib.Math.max.name Lib.Math.max.code 2 (some .int)) (hd1 : 1 ≤ d) (hst : (st.map fun v => v.category).sum ≤ 8) (k : gH B X K (pc + 3) lv (.int (jmax x y) :: st) ws E) : gH B X K pc lv (.int y :: .int x :: st) ws E := by
  intro r e hk
  obtain ⟨p, ev, R, s, m, args, below, meth, c, cells, slots, Q, A, Fin⟩ := X
  obtain ⟨hx, hb, hml, hown, hts, hK, hA, ⟨hf1, hf2, hf3, hf4⟩, hSt, hret⟩ := hX
  intro H locs ls hP hD hS hl
  exact va_mmax hx hb hl.1.symm hown (hts _ hw.1) (hts _ hw.2.1) (hts _ hw.2.2.1) (hts _ hw.2.2.2) (Nat.le_trans hd1 hf1) (by omega) hf3 hf4 hd (k r e hk H locs ls hP hD hS hl)
theorem h_jmin (hX : gOk B X own cc nL d rt) {ix : Nat} {x y : Int32} (hd : decode cc pc = .ok (.invokestatic ix, 3)) (hw : gCM own ix Lib.Math.min.name Lib.Math.min.code 2 (some .int)) (hd1 : 1 ≤ d) (hst : (st.map fun v => v.category).sum ≤ 8) (k : gH B X K (pc + 3) lv (.int (jmin x y) :: st) ws E) : gH B X K pc lv (.int y :: .int x :: st) ws E := by
  intro r e hk
  obtain ⟨p, ev, R, s, m, args, below, meth, c, cells, slots, Q, A, Fin⟩ := X
  obtain ⟨hx, hb, hml, hown, hts, hK, hA, ⟨hf1, hf2, hf3, hf4⟩, hSt, hret⟩ := hX
  intro H locs ls hP hD hS hl
  exact va_mmin hx hb hl.1.symm hown (hts _ hw.1) (hts _ hw.2.1) (hts _ hw.2.2.1) (hts _ hw.2.2.2) (Nat.le_trans hd1 hf1) (by omega) hf3 hf4 hd (k r e hk H locs ls hP hD hS hl)
theorem h_jabs (hX : gOk B X own cc nL d rt) {ix : Nat} {x : Int32} (hd : decode cc pc = .ok (.invokestatic ix, 3)) (hw : gCM own ix Lib.Math.abs.name Lib.Math.abs.code 1 (some .int)) (hd1 : 1 ≤ d) (hst : (st.map fun v => v.category).sum ≤ 8) (k : gH B X K (pc + 3) lv (.int (jabs x) :: st) ws E) : gH B X K pc lv (.int x :: st) ws E := by
  intro r e hk
  obtain ⟨p, ev, R, s, m, args, below, meth, c, cells, slots, Q, A, Fin⟩ := X
  obtain ⟨hx, hb, hml, hown, hts, hK, hA, ⟨hf1, hf2, hf3, hf4⟩, hSt, hret⟩ := hX
  intro H locs ls hP hD hS hl
  exact va_mabs hx hb hl.1.symm hown (hts _ hw.1) (hts _ hw.2.1) (hts _ hw.2.2.1) (hts _ hw.2.2.2) (Nat.le_trans hd1 hf1) (by omega) hf3 hf4 hd (k r e hk H locs ls hP hD hS hl)
theorem h_jmaxl (hX : gOk B X own cc nL d rt) {ix : Nat} {x y : Int64} (hd : decode cc pc = .ok (.invokestatic ix, 3)) (hw : gCM own ix Lib.MathLoose.max_long.x Lib.MathLoose.max_long.code 4 (some .long)) (hd1 : 1 ≤ d) (hst : (st.map fun v => v.category).sum ≤ 8) (k : gH B X K (pc + 3) lv (.long (jmaxl x y) :: st) ws E) : gH B X K pc lv (.long y :: .long x :: st) ws E := by
  intro r e hk
  obtain ⟨p, ev, R, s, m, args, below, meth, c, cells, slots, Q, A, Fin⟩ := X
  obtain ⟨hx, hb, hml, hown, hts, hK, hA, ⟨hf1, hf2, hf3, hf4⟩, hSt, hret⟩ := hX
  intro H locs ls hP hD hS hl
  exact va_mmax_long hx hb hl.1.symm hown (hts _ hw.1) (hts _ hw.2.1) (hts _ hw.2.2.1) (hts _ hw.2.2.2) (Nat.le_trans hd1 hf1) (by omega) hf3 hf4 hd (k r e hk H locs ls hP hD hS hl)
theorem h_jminl (hX : gOk B X own cc nL d rt) {ix : Nat} {x y : Int64} (hd : decode cc pc = .ok (.invokestatic ix, 3)) (hw : gCM own ix Lib.MathLoose.min_long.x Lib.MathLoose.min_long.code 4 (some .long)) (hd1 : 1 ≤ d) (hst : (st.map fun v => v.category).sum ≤ 8) (k : gH B X K (pc + 3) lv (.long (jminl x y) :: st) ws E) : gH B X K pc lv (.long y :: .long x :: st) ws E := by
  intro r e hk
  obtain ⟨p, ev, R, s, m, args, below, meth, c, cells, slots, Q, A, Fin⟩ := X
  obtain ⟨hx, hb, hml, hown, hts, hK, hA, ⟨hf1, hf2, hf3, hf4⟩, hSt, hret⟩ := hX
  intro H locs ls hP hD hS hl
  exact va_mmin_long hx hb hl.1.symm hown (hts _ hw.1) (hts _ hw.2.1) (hts _ hw.2.2.1) (hts _ hw.2.2.2) (Nat.le_trans hd1 hf1) (by omega) hf3 hf4 hd (k r e hk H locs ls hP hD hS hl)
end MORE
