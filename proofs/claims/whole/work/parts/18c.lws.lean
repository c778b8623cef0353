/-! THE CLAIM OUT OF ONE WALK OF THE LAW'S BODY. Your part is whole_start (and what it stands on); all else here is the same for every law, but numbers. -/
def R_law : String := "WordFolderLaw"
def lw_P (b : Addr) (xs : List Int32) (args : Array Value) (s : State) : Prop := args = #[.ref b] ∧ s.IntsAt b xs ∧ xs.length ≤ 3072 ∧ (Jvm.Cond.and given_1 narrow_1).before args s = true
def lw_Q (_ : Array Value) (s : State) (o : Outcome) (t : State) : Prop := o = .returned (some (.int 1)) ∧ Framed s o t [] 600000 7302250
def lw_Z (below : List Frame) (a : Array Value) (s : State) : State → Prop := fun t => ∃ o, t.status = .running ∧ Ended t below o ∧ lw_Q a s o t
/-- the law's own end, with 1 on the stack, nothing written that was there before, its room as the claim has it -/
theorem lw_ret {p : Program} {l : Launch} {e : Env} {s : State} {m : MethodId} {below : List Frame} {meth : Method} {c : Code} {b : Nat} (hx : p.tables.exec = Jvm.exec) (hb : c.code = code) (hr : meth.sig.returnType = ret) (hlocks : meth.locks = false) {pc : Nat} {H : Heap} {ls : Array Slot} (hdg : decode code pc = .ok (.ireturn, 1)) : W p l e room_1 s m #[Value.ref b] below meth c H [] 600000 7302250 (lw_Z below #[Value.ref b] s) (F0 m pc ls [.int 1]) := by
  intro T hT X
  obtain ⟨fs, hret, hrun, hended, hW, hframe⟩ := X.leave (v := some (.int 1)) (hlocks := hlocks) (fun h => by rw [hr] at h; cases h)
  have hmeth' : T.vm.method? m = some meth := X.method'
  refine ⟨T.setFrames fs, ?_, .returned (some (.int 1)), hrun, hended, rfl, ⟨_, rfl⟩, hW, hframe⟩
  jvm_step X.here [X.here.top, hx, hb, hdg, hmeth', hr, ret, narrow_b1]
  (try refine ⟨rfl, ?_⟩); (try refine ⟨rfl, ?_⟩)
  first | (intro acts; rw [hret _ acts rfl rfl rfl]) | rw [hret _ _ rfl rfl rfl]
  exact Steps.refl _
/-- what holds at the law's entry: the machine, the code, the tables' words (any of lw_tbl by 'hts w (by decide +kernel)'), the script of L ints xs at the cell b, what the Statement gives of the start (any of its parts by flat_of_before) -/
def lw_At (p : Program) (s : State) (m : MethodId) (meth : Method) (c : Code) (b L : Nat) (xs : Nat → Int32) : Prop :=
  p.tables.exec = Jvm.exec ∧ c.code = code ∧ meth.sig.returnType = ret ∧ c.maxLocals = 4 ∧ s.vm.findClass R_law = some m.cls ∧ (∀ w ∈ lw_tbl, w.before #[Value.ref b] s = true) ∧ va_X b L xs s s.heap ∧ b < s.heap.size ∧ meth.locks = false ∧ (Jvm.Cond.and given_1 narrow_1).before #[Value.ref b] s = true
theorem law_known {s : State} {a : Array Value} (hts : ∀ w ∈ lw_tbl, w.before a s = true) : ∃ (cA : Nat → ClassId) (D : va_G), Wd cA D s ∧ NSi s := by
  have ht : ∀ w ∈ TB, w.before a s = true := fun w hw => hts w (List.mem_filter.mp hw).1
  have hk : ∀ c : Nat, ∃ r : ClassId × (Nat → Nat), ∀ q, classes[c]? = some q → u_Kn s q.1 q.2.1 q.2.2 r.1 r.2 := by
    intro c
    have key : ∀ ci, ci < 13 → ci ≠ 10 → ∃ r : ClassId × (Nat → Nat), u_Kn s (cN ci) (cT ci) (nf ci) r.1 r.2 := by
      intro ci h13 h10
      have h1 := List.all_eq_true.mp IN_ok ci (List.mem_range.mpr h13)
      rw [Bool.or_eq_true, decide_eq_true_eq] at h1
      have h2 := okIn_q (h1.resolve_right h10)
      obtain ⟨cC, iS, h⟩ := u_known (C := cN ci) (T := cT ci) (N := nf ci) ht (lay_in h13) (ht _ h2.1)
      exact ⟨(cC, iS), h⟩
    by_cases h13 : c < 13
    · by_cases h10 : c = 10
      · obtain ⟨r, hr⟩ := key 0 (by decide) (by decide)
        refine ⟨r, fun q hq => ?_⟩
        subst h10
        have e : q = (cN 0, cT 0, nf 0) := (Option.some.inj hq).symm
        rw [e]
        exact hr
      · obtain ⟨r, hr⟩ := key c h13 h10
        refine ⟨r, fun q hq => ?_⟩
        rw [cls_get c h13 h10] at hq
        cases hq
        exact hr
    · exact ⟨(0, fun _ => 0), fun q hq => by
        rw [List.getElem?_eq_none (show classes.length ≤ c by show 13 ≤ c; omega)] at hq
        cases hq⟩
  obtain ⟨f, hf⟩ := Classical.skolem.mp hk
  have arr : ∀ ty, Cond.arrayClass ty ∈ TB → (∀ C, ty ≠ .object C) → ∃ c : ClassId, ArrOfT s c ty ∧ va_RA s c ty := by
    intro ty h hne
    obtain ⟨c, k, comp, h1, h2, h3⟩ := Cond.arrayClass_spec (ht _ h)
    refine ⟨c, fun n z => ⟨fun k h => (by cases h), k, h2, comp, h3⟩, ?_⟩
    cases ty with
    | object C => exact absurd rfl (hne C)
    | _ => exact h1
  obtain ⟨c1, g1⟩ := arr .int arr_TB.1 (fun C h => by cases h)
  obtain ⟨c2, g2⟩ := arr .byte arr_TB.2.1 (fun C h => by cases h)
  obtain ⟨c3, g3⟩ := arr .boolean arr_TB.2.2 (fun C h => by cases h)
  refine ⟨fun k => if k = 50 then c1 else if k = 51 then c2 else c3, (fun c => (f c).1, fun c => (f c).2), ⟨⟨fun c q hq => hf c q hq, fun k q hq => ?_⟩, fun q hq h1 => ?_⟩, fun q hq h1 => ?_⟩
  · match k, hq with
    | 0, hq => cases hq; exact g1
    | 1, hq => cases hq; exact g2
    | 2, hq => cases hq; exact g3
    | k + 3, hq => simp [tyA] at hq
  · have h2 := List.all_eq_true.mp FL_ok q hq
    unfold okF at h2
    rw [if_pos h1] at h2
    simp only [Bool.and_eq_true] at h2
    exact va_Nw.of rfl (hts _ (atq_mem h2.1.1.1))
  · have h2 := List.all_eq_true.mp JL_ok q hq
    unfold okJ at h2
    rw [if_pos h1] at h2
    exact va_Nw.of rfl (hts _ (atq_mem h2))
theorem wsO_cg {n : Nat} {ad ad' : Nat → Nat} {cA : Nat → ClassId} {st st' : St} (hcl : Cl n) (h1 : ∀ k, k < n → ad' k = ad k) (h2 : ∀ k, k < n → st' k = st k) : wsO n ad' cA st' = wsO n ad cA st := by
  apply List.ext_getElem?
  intro i
  by_cases hi : i < n
  · rw [wsO_get n ad' cA hi, wsO_get n ad cA hi, h1 i hi]
    by_cases z : kl i < 13
    · rw [cel_obj ad' cA z, cel_obj ad cA z]
      congr 4
      apply List.ext_getElem?
      intro j
      by_cases hj : j < nf (kl i)
      · rw [fvs_get ad' hj, fvs_get ad hj, h2 i hi, h1 _ (hcl i j hi hj)]
      · rw [List.getElem?_eq_none (by rw [fvs_len]; omega), List.getElem?_eq_none (by rw [fvs_len]; omega)]
    · rw [cel_arr ad' cA z, cel_arr ad cA z, h2 i hi]
  · rw [List.getElem?_eq_none (by unfold wsO; simp; omega), List.getElem?_eq_none (by unfold wsO; simp; omega)]
section LWS
variable {p : Program} {l : Launch} {e : Env} {R : Room} {s : State} {m : MethodId} {args : Array Value} {below : List Frame} {meth : Method} {c : Code} {QW : State → Prop} {cc : ByteArray} {nL cls nO : Nat} {ad : Nat → Nat} {cA : Nat → ClassId} {D : va_G} {b0 : Nat} {z : St} {pc : Nat}
theorem lc_call {k o d : Nat} {S0 SE : CTt} {Q : Rn} {rest : List Value} {H : Heap} {locs : List Loc} {lsM : Array Slot} {cells slots : Nat} (hx : p.tables.exec = Jvm.exec) (hb : c.code = cc) (hml : c.maxLocals = nL) (hown : s.vm.findClass (cN cls) = some m.cls) (hts : ∀ w ∈ TB, w.before args s = true) (hWd : Wd cA D s) (hNS : NSi s) (hM : Met l (yI k) (wI k) (rmI 10 S0 SE) (PcI ad cA D b0 z [some (.inr o)] S0) (QcC nO ad cA D Q) (SE.1 - S0.1) (SL SE.1 - SL S0.1) (A0 nO ad)) (hk12 : k < 12) (hl1 : lI k = 1) (hJ : Cond.methodLink (cN cls) d (yI k) ∈ TB) (hd : decode cc pc = .ok (.invokespecial d, 3)) (hR : 11 ≤ R.frames ∧ 400 ≤ R.locals) (hfit : cells + (SE.1 - S0.1) ≤ R.cells ∧ slots + (SL SE.1 - SL S0.1) ≤ R.slots) (q1 : H.size = b0 + S0.1) (hP : va_P D classes (wsU ad cA S0.1 S0.2.1 (stw z S0.2.2)) H) (hS : va_S (A0 nO ad) s.heap H locs) (hls : lsM.size = nL) (h8 : (rest.map fun v => v.category).sum ≤ 8)
    (kk : ∀ (v : V) (st' : St) (H1 : Heap) (locs1 : List Loc), okS st' → Q v st' → va_P D classes (wsO nO ad cA st') H1 → va_S (A0 nO ad) s.heap H1 locs1 → W p l e R s m args below meth c H1 locs1 (cells + (SE.1 - S0.1)) (slots + (SL SE.1 - SL S0.1)) QW (F0 m (pc + 3) lsM ((evr ad v).toList ++ rest))) : W p l e R s m args below meth c H locs cells slots QW (F0 m pc lsM (.ref (ad o) :: rest)) := by
  obtain ⟨m1, m2, m3, m4, m5, m6, m7⟩ := okIt_q hk12
  have hcn := cN_ok (kI k) (by omega)
  have hws : ∀ w ∈ wI k, w ∈ TB := by
    intro w hw
    rcases List.mem_cons.mp hw with rfl | hw
    · exact code_TI k hk12
    · exact hw
  have hpre : ∀ U : State, U.heap = H → s.WarmedH U.vm → PcI ad cA D b0 z [some (.inr o)] S0 (Value.ref (ad o) :: ([] : List Value)).toArray U := fun U hU hW => ⟨rfl, by rw [hU]; exact q1, by rw [hU]; exact hP, hWd.warm hW, hNS.warm hW⟩
  have hnar : ∀ sig, parseMethodDescriptor (yI k).desc = some sig → 0 = sig.parameters.length := by
    intro sig hsig
    rw [hsig, hl1] at m6
    simp at m6
    simp [m6]
  have hyc : (yI k).cls ≠ "java/lang/invoke/MethodHandle" ∧ (yI k).cls ≠ "java/lang/invoke/VarHandle" := by rw [m3]; exact ⟨hcn.1, hcn.2.1⟩
  have hrun : va_Run p l e R s m args below meth c H locs cells slots (SE.1 - S0.1) (SL SE.1 - SL S0.1) (F0 m pc lsM (.ref (ad o) :: rest)) rest (QcC nO ad cA D Q (Value.ref (ad o) :: ([] : List Value)).toArray) (A0 nO ad) :=
    va_runI (n := 0) (As := []) (rest := rest) (b := ad o) ⟨hx, hb, hml, hown, hts⟩ hM ⟨⟨rfl, rfl, hR.1, by rw [hl1]; exact hR.2, fun w hw a' U hW => word_at hW (TB_good w (hws w hw)) (hts w (hws w hw)), List.mem_cons_self, hts _ (code_TI k hk12), hts _ m1, hyc, hnar, hts _ hJ⟩, m5, hts _ m2⟩ ⟨PcI_blind _ _ _ _ _ _ _, hpre⟩ rfl rfl hls rfl (lv_room h8) hd hfit
  intro T hT X
  obtain ⟨v, st₀, t, T', L, h0, X', hL, e1, e2, ⟨⟨r, st', hv, hp1, hp2, hp3, hp4⟩, hz, hk⟩, sp⟩ := hrun T hT X
  have hv' : v = evr ad r := by cases hv; rfl
  subst hv'
  rw [h0] at hz hk
  obtain ⟨t2, a1, b1⟩ := kk r st' T'.heap (locs ++ L) hp2 hp3 (by rw [e1]; exact hp4)
    ⟨Nat.le_trans hS.1 (by rw [e1]; exact hz), fun q h1 h2 => by rw [e1, hk q (Nat.lt_of_lt_of_le h1 hS.1) h2]; exact hS.2.1 q h1 h2, fun q hq => by
      rcases List.mem_append.mp hq with h | h
      · exact hS.2.2 q h
      · exact hL q h⟩ T' rfl X'
  exact ⟨t2, sp t2 a1, b1⟩
end LWS
theorem dl_0 : decode code 0 = .ok (.new 7, 3) := by decide +kernel
theorem dl_3 : decode code 3 = .ok (.dup, 1) := by decide +kernel
theorem dl_4 : decode code 4 = .ok (.invokespecial 9, 3) := by decide +kernel
theorem dl_7 : decode code 7 = .ok (.astore_n 1, 1) := by decide +kernel
theorem dl_8 : decode code 8 = .ok (.new 10, 3) := by decide +kernel
theorem dl_11 : decode code 11 = .ok (.dup, 1) := by decide +kernel
theorem dl_12 : decode code 12 = .ok (.invokespecial 12, 3) := by decide +kernel
theorem dl_15 : decode code 15 = .ok (.astore_n 2, 1) := by decide +kernel
def zOf (st : St) : St := fun k j => if k < 99 then st k j else 0
def adL (h0 h1 b : Nat) : Nat → Nat := fun k => if k < 99 then h0 + k else if k < 146 then h1 + (k - 99) else b
theorem law_lk {d k : Nat} (h : JL.any (fun e => decide (e.1 = 13) && decide (e.2.1 = d) && decide (e.2.2.1 = k) && decide (e.2.2.2.1 = 0)) = true) : Cond.methodLink (cN 13) d (yI k) ∈ TB := by
  obtain ⟨q, hq, h⟩ := List.any_eq_true.mp h
  simp only [Bool.and_eq_true, decide_eq_true_eq] at h
  obtain ⟨⟨⟨w1, w2⟩, w3⟩, w4⟩ := h
  have hj := List.all_eq_true.mp JL_ok q hq
  unfold okJ at hj
  rw [if_neg (by rw [w4]; decide)] at hj
  have hjw := atp_mem hj
  unfold jw0 at hjw
  rw [w1, w2, w3] at hjw
  exact hjw
theorem hB_tC (b : Nat) : ck (cI 10) (kI 10) (lI 10) none (fun _ => iE 10) (iE 10) (tCb b) = true ∨ tCb b = [] := by
  unfold tCb
  by_cases h : b = 0
  · rw [if_pos h]
    exact Or.inl ck_tC
  · rw [if_neg h]
    exact Or.inr rfl
theorem hB_tM (b : Nat) : ck (cI 11) (kI 11) (lI 11) none (fun _ => iE 11) (iE 11) (tMb b) = true ∨ tMb b = [] := by
  unfold tMb
  by_cases h : b = 0
  · rw [if_pos h]
    exact Or.inl ck_tM
  · rw [if_neg h]
    exact Or.inr rfl
theorem rw_SC : ∀ q ∈ SC.2.2, InR q.2.2 := fun q hq => by
  have h : SC.2.2.all (fun q => decide (-2147483648 ≤ q.2.2) && decide (q.2.2 ≤ 2147483647)) = true := by decide +kernel
  have := List.all_eq_true.mp h q hq
  rw [Bool.and_eq_true, decide_eq_true_eq, decide_eq_true_eq] at this
  exact this
theorem rw_SMm : ∀ q ∈ SMm.2.2, InR q.2.2 := fun q hq => by
  have h : SMm.2.2.all (fun q => decide (-2147483648 ≤ q.2.2) && decide (q.2.2 ≤ 2147483647)) = true := by decide +kernel
  have := List.all_eq_true.mp h q hq
  rw [Bool.and_eq_true, decide_eq_true_eq, decide_eq_true_eq] at this
  exact this
theorem sl_a : SL (0 + 1) - SL 0 ≤ 7302250 := by decide +kernel
theorem sl_b : SL (0 + 1) - SL 0 + (SL SC.1 - SL 1) ≤ SL 99 - SL 0 := by decide +kernel
theorem sl_c : SL (99 + 1) - SL 0 ≤ 7302250 := by decide +kernel
theorem sl_d : SL (99 + 1) - SL 0 + (SL SMm.1 - SL 100) ≤ SL 146 := by decide +kernel
theorem sl_e : SL 146 ≤ 7302250 := by decide +kernel
theorem law_start {p : Program} {e : Env} {s : State} {m : MethodId} {below : List Frame} {meth : Method} {c : Code} (l : Launch) {b L : Nat} {xs : Nat → Int32} (hck : CKs) (hL : L ≤ 3072) (C0 : lw_At p s m meth c b L xs) {Q1 Q2 : St → Prop} (h1 : AW tCb (fun v st => v = none ∧ Q1 st) (MS 9) 0 (fun _ => 0) 0 [some (.inr 0)] [] (stw (fun _ _ => 0) SC.2.2)) (h2 : ∀ st, Q1 st → AW tMb (fun v st' => v = none ∧ Q2 st') (MS 9) 0 (fun _ => 0) 0 [some (.inr 99)] [] (stw (zOf st) SMm.2.2)) (h3 : ∀ st, Q2 st → AW PW (fun v _ => v = some (.inl 1)) (MS 10) (L + 1) (fun j => (xs j).toInt) 0 [some (.inr 500), some (.inr 0), some (.inr 99), none] [] st) : W p l e room_1 s m #[Value.ref b] below meth c s.heap [] 0 0 (lw_Z below #[Value.ref b] s) (entryFrame m ([Value.ref b] : List Value).toArray 4) := by
  obtain ⟨hx, hb, hr, hml, hown, hts, hX, hbl, hlocks, hgv⟩ := id C0
  obtain ⟨cA, D, hWd, hNS⟩ := law_known hts
  have ht : ∀ w ∈ TB, w.before #[Value.ref b] s = true := fun w hw => hts w (List.mem_filter.mp hw).1
  have hown' : s.vm.findClass (cN 13) = some m.cls := hown
  have hl := lv_entry ([.ref b]) (n := 4) (Nat.le_of_ble_eq_true rfl)
  rw [lg_entry_eq]
  generalize (lg_sl ([.ref b]) ++ List.replicate (4 - (lg_sl ([.ref b])).length) Slot.unset).toArray = ls at hl ⊢
  have hl : lv_has ls 4 [(0, .ref b)] := hl
  have hj1 : inj 99 (fun k => s.heap.size + k) := fun i j _ _ h => by
    have h : s.heap.size + i = s.heap.size + j := h
    omega
  have X1 : Ci p room_1 s m #[Value.ref b] meth c code 4 13 99 (fun k => s.heap.size + k) cA D s.heap.size 0 0 (fun _ _ => 0) := ⟨hx, hb, hml, hown', ht, ⟨hWd, hNS⟩, hj1, fun h => absurd h (by decide), ⟨by decide, by decide⟩, by decide, fun k _ _ => rfl, fun _ => Nat.le_refl _, fun _ _ _ => rfl⟩
  refine ci_new (S := (0, [], [])) (lsM := ls) (rest := []) (a := 11) (d := 7) X1 (by decide +kernel) (by decide +kernel) dl_0 (by decide +kernel) (by decide +kernel) (by decide) ⟨by decide, sl_a⟩ (Nat.zero_le _) rfl (Nat.le_refl _) (fun k q h => by simp [wsU] at h) va_S.rf (fun H y1 y2 y3 => ?_)
  refine lv_dup hx hb dl_3 rfl ?_
  have M1 := met_top (l := l) (nO := 99) (ad := fun k => s.heap.size + k) (cA := cA) (D := D) (b0 := s.heap.size) (n0 := 0) (z := fun _ _ => 0) (k := 10) (o := 0) (S0 := (1, [], [])) (SE := SC) (tb := tCb) hck Cl_99 hj1 (by decide) (fun k _ _ => rfl) (fun _ _ _ => rfl) (fun _ _ => InR_0) (by decide) rfl hB_tC runC alC rfl rw_SC (by decide) (Nat.zero_le _) (by decide) h1
  refine lc_call (o := 0) (S0 := (1, [], [])) (SE := SC) (rest := [.ref (s.heap.size + 0)]) hx hb hml hown' ht hWd hNS M1 (by decide) rfl (law_lk (by decide +kernel)) dl_4 ⟨by decide, by decide⟩ ⟨by decide +kernel, Nat.le_trans sl_b (Nat.le_trans (Nat.sub_le _ _) (Nat.le_trans (SL_le (by decide)) sl_e))⟩ y1 y2 y3 hl.1 (by show 1 ≤ 8; omega) (fun v st1 H1 locs1 z1 z2 z3 z4 => ?_)
  obtain ⟨rfl, hq1⟩ := z2
  refine lv_astore_n (lv' := [(1, .ref (s.heap.size + 0)), (0, .ref b)]) hx hb dl_7 rfl hl (by decide) rfl (fun ls hl => ?_)
  have hsz : s.heap.size + 99 ≤ H1.size := by
    have := (z3 98 _ (wsO_get 99 (fun k => s.heap.size + k) cA (by decide))).lt
    have this : s.heap.size + 98 < H1.size := this
    omega
  generalize had : adL s.heap.size H1.size b = ad
  have ad1 : ∀ k, k < 99 → ad k = s.heap.size + k := fun k hk => by rw [← had]; unfold adL; rw [if_pos hk]
  have ad2 : ∀ k, 99 ≤ k → k < 146 → ad k = (H1.size - 99) + k := fun k hk hk' => by
    rw [← had]
    unfold adL
    rw [if_neg (by omega), if_pos hk']
    omega
  have ad3 : ad 500 = b := by rw [← had]; rfl
  have hj2 : inj 146 ad := by
    intro i j hi hj h
    by_cases i9 : i < 99
    · by_cases j9 : j < 99
      · rw [ad1 i i9, ad1 j j9] at h
        omega
      · rw [ad1 i i9, ad2 j (by omega) hj] at h
        omega
    · by_cases j9 : j < 99
      · rw [ad2 i (by omega) hi, ad1 j j9] at h
        omega
      · rw [ad2 i (by omega) hi, ad2 j (by omega) hj] at h
        omega
  have hmono : ∀ q, A0 99 (fun k => s.heap.size + k) q → A0 146 ad q := fun q h => by
    obtain ⟨k, hk, e⟩ := h
    exact ⟨k, by omega, by rw [e, ad1 k hk]⟩
  have hS2 : va_S (A0 146 ad) s.heap H1 locs1 := ⟨z4.1, fun q h1 h2 => z4.2.1 q h1 (fun h => h2 (hmono q h)), fun q hq => hmono _ (z4.2.2 q hq)⟩
  have hzz : ∀ k, k < 99 → zOf st1 k = st1 k := fun k hk => by
    funext j
    unfold zOf
    rw [if_pos hk]
  have hz0 : ∀ k, 99 ≤ k → ∀ j, zOf st1 k j = 0 := fun k hk j => by
    unfold zOf
    rw [if_neg (by omega)]
  have hP2 : va_P D classes (wsU ad cA 99 SC.2.1 (zOf st1)) H1 := by
    rw [wsU_all ad cA (alT_q alC), wsO_cg (ad := fun k => s.heap.size + k) Cl_99 ad1 hzz]
    exact z3
  have hzs : okS (zOf st1) := fun k j => by
    unfold zOf
    split
    · exact z1 k j
    · exact InR_0
  have X2 : Ci p room_1 s m #[Value.ref b] meth c code 4 13 146 ad cA D (H1.size - 99) 99 0 (zOf st1) := ⟨hx, hb, hml, hown', ht, ⟨hWd, hNS⟩, hj2, fun h => absurd h (by decide), ⟨by decide, by decide⟩, by decide, ad2, fun h => absurd h (by decide), hz0⟩
  refine W.widen (k := 99 - 0) (n := SL 99 - SL 0) (by decide +kernel) sl_b ?_
  refine ci_new (S := (99, SC.2.1, [])) (lsM := ls) (rest := []) (a := 12) (d := 10) X2 (by decide +kernel) (by decide +kernel) dl_8 (by decide +kernel) (by decide +kernel) (by decide) ⟨by decide, sl_c⟩ (Nat.le_refl _) (by show H1.size = H1.size - 99 + 99; omega) (Nat.zero_le _) hP2 hS2 (fun H2 y1 y2 y3 => ?_)
  refine lv_dup hx hb dl_11 rfl ?_
  have M2 := met_top (l := l) (nO := 146) (ad := ad) (cA := cA) (D := D) (b0 := H1.size - 99) (n0 := 99) (z := zOf st1) (k := 11) (o := 99) (S0 := (100, SC.2.1, [])) (SE := SMm) (tb := tMb) hck Cl_146 hj2 (by decide) ad2 hz0 hzs (by decide) rfl hB_tM runM alM rfl rw_SMm (by decide) (by decide) (by decide) (h2 st1 hq1)
  refine lc_call (o := 99) (S0 := (100, SC.2.1, [])) (SE := SMm) (rest := [.ref (ad 99)]) hx hb hml hown' ht hWd hNS M2 (by decide) rfl (law_lk (by decide +kernel)) dl_12 ⟨by decide, by decide⟩ ⟨by decide +kernel, Nat.le_trans sl_d sl_e⟩ y1 y2 y3 hl.1 (by show 1 ≤ 8; omega) (fun v st2 H3 locs3 z1' z2 z3' z4' => ?_)
  obtain ⟨rfl, hq2⟩ := z2
  refine lv_astore_n (lv' := [(2, .ref (ad 99)), (1, .ref (s.heap.size + 0)), (0, .ref b)]) hx hb dl_15 rfl hl (by decide) rfl (fun ls hl => ?_)
  refine W.widen (k := 146) (n := SL 146) (by decide +kernel) sl_d ?_
  have X3 : Cx p room_1 s m #[Value.ref b] c 146 (SL 146) code 4 13 146 ad cA D := ⟨hx, hb, hml, hown', ht, hWd, hj2, Cl_146, by decide, by decide, by decide, sl_e⟩
  have hC3 : CS l room_1 146 ad cA D (rmd 10) (MS 10) := ⟨rfl, rfl, by decide, by decide, fun k as st Q hk h o1 o2 => met_MS hck hj2 Cl_146 10 k as st Q hk h o1 o2⟩
  have hge : ∀ q, A0 146 ad q → s.heap.size ≤ q := fun q h => by
    obtain ⟨k, hk, e⟩ := h
    by_cases k9 : k < 99
    · rw [e, ad1 k k9]
      omega
    · rw [e, ad2 k (by omega) hk]
      omega
  have hX3 : SX s 146 ad (L + 1) (fun j => (xs j).toInt) := Or.inr ⟨L, xs, rfl, by omega, by rw [ad3]; exact hX, by rw [ad3]; exact hbl, fun h => by have := hge _ h; rw [ad3] at this; omega, fun j => ⟨oI_ofToInt _, InR_toInt _⟩⟩
  have hR3 : RT p l e room_1 s m #[Value.ref b] below meth c 146 (SL 146) (lw_Z below #[Value.ref b] s) code 146 ad cA D (some .boolean) (fun v _ => v = some (.inl 1)) := by
    intro v st' ins pc H locs lsM hQ ov ost hP hS hd hrt
    subst hQ
    rcases hrt with ⟨_, h1, _⟩ | ⟨rfl, _, _⟩ | ⟨_, ⟨n, h1⟩, _⟩ | ⟨_, h1, _⟩
    · cases h1
    · refine va_forget (fun q hq => hge _ (hS.2.2 q hq)) (W.widen (k := 600000) (n := 7302250) (by decide) sl_e ?_)
      have e1 : (evr ad (some (.inl 1))).toList = [.int 1] := by
        show [Value.int (oI 1)] = [.int 1]
        rw [show oI 1 = 1 by decide]
      rw [e1]
      exact lw_ret hx hb hr hlocks hd
    · cases h1
    · cases h1
  have := aw_sound (B := PW) (q := qW) (b := 0) (rt := some .boolean) (below := below) (e := e) X3 hC3 (MS_mono 10) hX3 hR3 ckWs (h3 st2 hq2) (fun v hv => by
    rcases List.mem_cons.mp hv with rfl | hv
    · exact Or.inr rfl
    · rcases List.mem_cons.mp hv with rfl | hv
      · exact Or.inl (by decide)
      · rcases List.mem_cons.mp hv with rfl | hv
        · exact Or.inl (by decide)
        · rw [List.mem_singleton.mp hv]
          trivial) (fun v hv => by cases hv) z1' H3 locs3 ls z3' z4' (by
    have e0 : lvl ad [some (.inr 500), some (.inr 0), some (.inr 99), none] = [(0, .ref (ad 500)), (1, .ref (ad 0)), (2, .ref (ad 99))] := rfl
    rw [e0, ad3, ad1 0 (by decide)]
    exact lv_sub hl [2, 1, 0] rfl)
  exact this
