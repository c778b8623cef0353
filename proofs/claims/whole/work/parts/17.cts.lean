/-! constructors: the machine keeps to it -/
def NSi (U : State) : Prop := ∀ q, q ∈ JL → q.2.2.2.1 = 1 → va_Nw (jwN q) U
def tyk (c j : Nat) : Bool := match (cTy c) j with
  | .int => decide (fk c j = 0)
  | .boolean => decide (fk c j = 0)
  | .object _ => decide (¬ fk c j = 0)
  | .array _ => decide (¬ fk c j = 0)
  | _ => false
theorem tyk_ok : (List.range 13).all (fun c => (List.range (nf c)).all (fun j => tyk c j)) = true := by decide +kernel
theorem dflt {c j : Nat} (hc : c < 13) (hj : j < nf c) : defaultValue ((cTy c) j) = if fk c j = 0 then .int 0 else .null := by
  have h := List.all_eq_true.mp (List.all_eq_true.mp tyk_ok c (List.mem_range.mpr hc)) j (List.mem_range.mpr hj)
  unfold tyk at h
  split at h
  · rename_i e
    rw [e, if_pos (of_decide_eq_true h)]
    rfl
  · rename_i e
    rw [e, if_pos (of_decide_eq_true h)]
    rfl
  · rename_i e
    rw [e, if_neg (of_decide_eq_true h)]
    rfl
  · rename_i e
    rw [e, if_neg (of_decide_eq_true h)]
    rfl
  · cases h
theorem stw_0 {z : St} {n : Nat} (hz : ∀ j, z n j = 0) : ∀ {w : List (Nat × Nat × Int)}, (∀ q ∈ w, q.1 < n) → ∀ j, stw z w n j = 0
  | [], _, j => hz j
  | (o, i, v) :: r, h, j => by
    show up2 (stw z r) o i v n j = 0
    have := h _ List.mem_cons_self
    have this : o < n := this
    rw [up2_ne (by omega)]
    exact stw_0 hz (fun q hq => h q (List.mem_cons_of_mem _ hq)) j
theorem OL_q {c d : Nat} (h : OL.any (fun e => decide (e.1 = c) && decide (e.2.1 = d)) = true) : Cond.methodLink (cN c) d objectInit ∈ TB := by
  obtain ⟨q, hq, h⟩ := List.any_eq_true.mp h
  rw [Bool.and_eq_true, decide_eq_true_eq, decide_eq_true_eq] at h
  have h1 := List.all_eq_true.mp OL_ok q hq
  unfold okO at h1
  have h2 := atp_mem h1
  rw [h.1, h.2] at h2
  exact h2
theorem NLk_q {c d a : Nat} (h : NLk.any (fun e => decide (e.1 = c) && decide (e.2.1 = d) && decide (e.2.2.1 = a)) = true) : Cond.classLink (cN c) d (cN a) ∈ TB := by
  obtain ⟨q, hq, h⟩ := List.any_eq_true.mp h
  simp only [Bool.and_eq_true, decide_eq_true_eq] at h
  have h1 := List.all_eq_true.mp NLk_ok q hq
  unfold okN at h1
  rw [Bool.and_eq_true] at h1
  have h2 := atp_mem h1.1
  rw [h.1.1, h.1.2, h.2] at h2
  exact h2
theorem okIn_q {a : Nat} (h : okIn a = true) : Cond.instantiable (cN a) (nf a) ∈ TB ∧ Cond.initialized (cN a) ∈ TB := by
  unfold okIn at h
  rw [Bool.and_eq_true] at h
  exact ⟨atp_mem h.1, atp_mem h.2⟩
theorem okIt_q {k : Nat} (h : k < 12) : Cond.initialized (yI k).cls ∈ TB ∧ Cond.instanceMethod (yI k) ∈ TB ∧ (yI k).cls = cN (kI k) ∧ kI k < 13 ∧ (yI k).name = "<init>" ∧ (parseMethodDescriptor (yI k).desc).map (fun s => s.parameters.length + 1) = some (lI k) ∧ lI k < 3 := by
  have h1 := List.all_eq_true.mp IT_ok k (List.mem_range.mpr h)
  unfold okIt at h1
  simp only [Bool.and_eq_true, decide_eq_true_eq] at h1
  obtain ⟨⟨⟨⟨⟨⟨h1, h2⟩, h3⟩, h4⟩, h5⟩, h6⟩, h7⟩ := h1
  exact ⟨atp_mem h1, atp_mem h2, h3, h4, h5, h6, h7⟩
def Ci (p : Program) (R : Room) (s : State) (m : MethodId) (args : Array Value) (meth : Method) (c : Code) (cc : ByteArray) (nL cls nO : Nat) (ad : Nat → Nat) (cA : Nat → ClassId) (D : va_G) (b0 n0 ne : Nat) (z : St) : Prop :=
  p.tables.exec = Jvm.exec ∧ c.code = cc ∧ c.maxLocals = nL ∧ s.vm.findClass (cN cls) = some m.cls ∧ (∀ w ∈ TB, w.before args s = true) ∧ (Wd cA D s ∧ NSi s) ∧ inj nO ad ∧ (cls < 13 → meth.name = "<init>") ∧ (1 ≤ R.frames ∧ 38 ≤ R.locals) ∧ nO ≤ 146 ∧ (∀ k, n0 ≤ k → k < nO → ad k = b0 + k) ∧ (cls < 13 → n0 ≤ ne) ∧ ∀ k, n0 ≤ k → ∀ j, z k j = 0
def Wc (p : Program) (l : Launch) (e : Env) (R : Room) (s : State) (m : MethodId) (args : Array Value) (below : List Frame) (meth : Method) (c : Code) (QW : State → Prop) (nL nO : Nat) (ad : Nat → Nat) (cA : Nat → ClassId) (D : va_G) (b0 ne : Nat) (z : St) (pc : Nat) (ls stk : List V) (S : CTt) : Prop :=
  ∀ (H : Heap) (locs : List Loc) (lsM : Array Slot), H.size = b0 + S.1 → ne ≤ S.1 → S.1 ≤ nO → va_P D classes (wsU ad cA S.1 S.2.1 (stw z S.2.2)) H → va_S (A0 nO ad) s.heap H locs → lv_has lsM nL (lvl ad ls) → W p l e R s m args below meth c H locs (S.1 - ne) (SL S.1 - SL ne) QW (F0 m pc lsM (stk.map (ev ad)))
section CTS
variable {p : Program} {l : Launch} {e : Env} {R : Room} {s : State} {m : MethodId} {args : Array Value} {below : List Frame} {meth : Method} {c : Code} {QW : State → Prop} {cc : ByteArray} {nL cls nO : Nat} {ad : Nat → Nat} {cA : Nat → ClassId} {D : va_G} {b0 n0 ne : Nat} {z : St} {pc : Nat} {ls stk : List V} {S : CTt}
theorem ci_isI {v : Int} {d : Nat} {i : Instr × Nat} (X : Ci p R s m args meth c cc nL cls nO ad cA D b0 n0 ne z) (h : isI v cls d i = true) (hd : decode cc pc = .ok i) (k : Wc p l e R s m args below meth c QW nL nO ad cA D b0 ne z (pc + i.2) ls (some (.inl v) :: stk) S) : Wc p l e R s m args below meth c QW nL nO ad cA D b0 ne z pc ls stk S := by
  obtain ⟨hx, hb, hml, hown, hts, -⟩ := X
  unfold isI at h
  simp only [Bool.or_eq_true, Bool.and_eq_true, decide_eq_true_eq] at h
  intro H locs lsM q1 q2 q3 hP hS hl
  have fin : W p l e R s m args below meth c H locs (S.1 - ne) (SL S.1 - SL ne) QW (F0 m (pc + i.2) lsM (.int (oI v) :: stk.map (ev ad))) := k H locs lsM q1 q2 q3 hP hS hl
  rcases h with ((h | h) | h) | h
  · obtain ⟨⟨h, h1⟩, h2⟩ := h
    subst h
    exact lv_iconst hx hb hd rfl fin
  · obtain ⟨⟨h, h1⟩, h2⟩ := h
    subst h
    refine lv_bipush hx hb hd (v := oI v) ?_ fin
    apply Int32.toInt_inj.mp
    rw [oI_toInt ⟨by omega, by omega⟩, Int8.toInt_toInt32, Int8.toInt_ofInt]
    exact Int.bmod_eq_of_le (by have e : ((Int8.size : Nat) : Int) = 256 := rfl; rw [e]; omega) (by have e : ((Int8.size : Nat) : Int) = 256 := rfl; rw [e]; omega)
  · obtain ⟨⟨h, h1⟩, h2⟩ := h
    subst h
    refine lv_sipush hx hb hd (v := oI v) ?_ fin
    apply Int32.toInt_inj.mp
    rw [oI_toInt ⟨by omega, by omega⟩, Int16.toInt_toInt32, Int16.toInt_ofInt]
    exact Int.bmod_eq_of_le (by have e : ((Int16.size : Nat) : Int) = 65536 := rfl; rw [e]; omega) (by have e : ((Int16.size : Nat) : Int) = 65536 := rfl; rw [e]; omega)
  · obtain ⟨⟨⟨h, h3⟩, h1⟩, h2⟩ := h
    rcases h with h | h
    · subst h
      exact lv_ldc hx hb hown (hts _ (ckC_q h3)) hd fin
    · subst h
      exact lv_ldcw hx hb hown (hts _ (ckC_q h3)) hd fin
theorem ci_new {a d : Nat} {lsM : Array Slot} {H : Heap} {locs : List Loc} {rest : List Value} (X : Ci p R s m args meth c cc nL cls nO ad cA D b0 n0 ne z) (h1 : NLk.any (fun e => decide (e.1 = cls) && decide (e.2.1 = d) && decide (e.2.2.1 = a)) = true) (h2 : okIn a = true) (hd : decode cc pc = .ok (.new d, 3)) (hok : newOK nO S = true) (hk : kl S.1 = a) (h13 : a < 13) (hcap : S.1 + 1 - ne ≤ R.cells ∧ SL (S.1 + 1) - SL ne ≤ R.slots)
    (hge : n0 ≤ S.1) (q1 : H.size = b0 + S.1) (q2 : ne ≤ S.1) (hP : va_P D classes (wsU ad cA S.1 S.2.1 (stw z S.2.2)) H) (hS : va_S (A0 nO ad) s.heap H locs)
    (kk : ∀ H1 : Heap, H1.size = b0 + (S.1 + 1) → va_P D classes (wsU ad cA (S.1 + 1) S.2.1 (stw z S.2.2)) H1 → va_S (A0 nO ad) s.heap H1 locs → W p l e R s m args below meth c H1 locs (S.1 + 1 - ne) (SL (S.1 + 1) - SL ne) QW (F0 m (pc + 3) lsM (.ref (ad S.1) :: rest))) : W p l e R s m args below meth c H locs (S.1 - ne) (SL S.1 - SL ne) QW (F0 m pc lsM rest) := by
  obtain ⟨hx, hb, hml, hown, hts, ⟨hWd, -⟩, hj, -, -, -, had, hn0, hz⟩ := X
  obtain ⟨o1, o2, o3⟩ := newOK_q hok
  have hSL : SL (S.1 + 1) = SL S.1 + nf a := by
    show SL S.1 + szc S.1 = _
    unfold szc
    rw [if_pos (by rw [hk]; exact h13), hk]
  have hle := SL_le q2
  have hnf : nf a = 0 ∨ a ≠ 10 := by
    by_cases z10 : a = 10
    · exact Or.inl (by rw [z10]; rfl)
    · exact Or.inr z10
  have h10 : a ≠ 10 := by rw [← hk]; exact kl_ne _
  have hadn : ad S.1 = H.size := by rw [q1]; exact had _ (by omega) o1
  have hKn := hWd.1.1 a _ (cls_get a h13 h10)
  refine W.newcK hx hb hown (hts _ (NLk_q h1)) (hts _ (okIn_q h2).1) (hts _ (okIn_q h2).2) rfl hd (by omega) (by rw [hSL] at hcap; omega) hKn.2.1 rfl fun H1 kC hkC e1 z1 o4 => ?_
  have hkp : ∀ (k : Nat) (x : Nat × va_E), (wsU ad cA S.1 S.2.1 (stw z S.2.2))[k]? = some x → H1[x.1]? = H[x.1]? := fun k x hx => o4 x.1 ((hP k x hx).lt)
  have kk := kk H1 (by omega) (by
    rw [wsU_push]
    refine (hP.kept hkp).app (fun k x hx => ?_)
    have hz1 : k < 1 := (List.getElem?_eq_some_iff.mp hx).1
    rw [show k = 0 by omega] at hx
    cases hx
    rw [ceu_obj ad cA (by rw [hk]; exact h13), hk, hadn]
    refine ⟨_, cls_get a h13 h10, (u_born (cTy a) hts (lay_in h13) hKn hkC e1 (tys a h13)).to (fun j hj => ?_)⟩
    show _ = (fvu ad S.2.1 (stw z S.2.2) S.1).getD j .null
    have hj' : j < nf (kl S.1) := by rw [hk]; exact hj
    rw [List.getD_eq_getElem?_getD, fvu_get ad hj', hk, dflt h13 hj]
    by_cases zf : fk a j = 0
    · rw [if_pos zf, if_pos zf, stw_0 (hz S.1 (by omega)) o3 j]
      rfl
    · rw [if_neg zf, if_neg zf, if_neg (fun hm => by have := o2 _ hm; omega)]
      rfl) ⟨Nat.le_trans hS.1 (by omega), fun x y1 y2 => (o4 x (Nat.lt_of_lt_of_le y1 hS.1)).trans (hS.2.1 x y1 y2), hS.2.2⟩
  rw [hadn] at kk
  rw [show S.1 - ne + 1 = S.1 + 1 - ne by omega, show SL S.1 - SL ne + nf a = SL (S.1 + 1) - SL ne by omega]
  exact kk
theorem ci_arr {a : Nat} {at0 : ArrayType} {lsM : Array Slot} {H : Heap} {locs : List Loc} {rest : List Value} (X : Ci p R s m args meth c cc nL cls nO ad cA D b0 n0 ne z) (ha : (a = 50 ∧ at0 = .int) ∨ (a = 51 ∧ at0 = .byte) ∨ (a = 52 ∧ at0 = .boolean)) (hd : decode cc pc = .ok (.newarray at0, 2)) (hok : newOK nO S = true) (hk : kl S.1 = a) (hlen : len S.1 ≤ 100000) (hcap : S.1 + 1 - ne ≤ R.cells ∧ SL (S.1 + 1) - SL ne ≤ R.slots)
    (hge : n0 ≤ S.1) (q1 : H.size = b0 + S.1) (q2 : ne ≤ S.1) (hP : va_P D classes (wsU ad cA S.1 S.2.1 (stw z S.2.2)) H) (hS : va_S (A0 nO ad) s.heap H locs)
    (kk : ∀ H1 : Heap, H1.size = b0 + (S.1 + 1) → va_P D classes (wsU ad cA (S.1 + 1) S.2.1 (stw z S.2.2)) H1 → va_S (A0 nO ad) s.heap H1 locs → W p l e R s m args below meth c H1 locs (S.1 + 1 - ne) (SL (S.1 + 1) - SL ne) QW (F0 m (pc + 2) lsM (.ref (ad S.1) :: rest))) : W p l e R s m args below meth c H locs (S.1 - ne) (SL S.1 - SL ne) QW (F0 m pc lsM (.int (oI (len S.1 : Int)) :: rest)) := by
  obtain ⟨hx, hb, hml, hown, hts, ⟨hWd, -⟩, hj, -, -, -, had, hn0, hz⟩ := X
  obtain ⟨o1, o2, o3⟩ := newOK_q hok
  have hSL : SL (S.1 + 1) = SL S.1 + len S.1 := by
    show SL S.1 + szc S.1 = _
    unfold szc
    rw [if_neg (by rw [hk]; omega)]
  have hle := SL_le q2
  have hadn : ad S.1 = H.size := by rw [q1]; exact had _ (by omega) o1
  have hR : InR (len S.1 : Int) := ⟨by omega, by omega⟩
  have hcl : (oI (len S.1 : Int)).toNatClampNeg = len S.1 := by rw [oI_cl hR]; rfl
  have hnn : ¬ oI (len S.1 : Int) < 0 := by
    rw [← oI_0, oI_lt hR InR_0]
    omega
  have harr : (Cond.arrayClass (newarray.typeOf at0)).before args s = true := by
    rcases ha with ⟨-, rfl⟩ | ⟨-, rfl⟩ | ⟨-, rfl⟩
    · exact hts _ arr_TB.1
    · exact hts _ arr_TB.2.1
    · exact hts _ arr_TB.2.2
  have hby : len S.1 * componentBytes (newarray.typeOf at0) ≤ 536870912 := by
    rcases ha with ⟨-, rfl⟩ | ⟨-, rfl⟩ | ⟨-, rfl⟩
    · show len S.1 * 4 ≤ 536870912
      omega
    · show len S.1 * 1 ≤ 536870912
      omega
    · show len S.1 * 1 ≤ 536870912
      omega
  refine va_newaK hx hb harr rfl hd rfl hnn hcl hby (by omega) (by rw [hSL] at hcap; omega) rfl fun H1 cA' e1 z1 o4 hAr hNm => ?_
  have hkp : ∀ (k : Nat) (x : Nat × va_E), (wsU ad cA S.1 S.2.1 (stw z S.2.2))[k]? = some x → H1[x.1]? = H[x.1]? := fun k x hx => o4 x.1 ((hP k x hx).lt)
  have hcA : cA' = cA (kl S.1) := by
    rcases ha with ⟨h1, rfl⟩ | ⟨h1, rfl⟩ | ⟨h1, rfl⟩
    · have := (hWd.1.2 0 (cA 50, .int) rfl).2
      rw [hk, h1]
      exact Option.some.inj (hNm.symm.trans this)
    · have := (hWd.1.2 1 (cA 51, .byte) rfl).2
      rw [hk, h1]
      exact Option.some.inj (hNm.symm.trans this)
    · have := (hWd.1.2 2 (cA 52, .boolean) rfl).2
      rw [hk, h1]
      exact Option.some.inj (hNm.symm.trans this)
  have hdv : defaultValue (newarray.typeOf at0) = .int 0 := by
    rcases ha with ⟨-, rfl⟩ | ⟨-, rfl⟩ | ⟨-, rfl⟩ <;> rfl
  have kk := kk H1 (by omega) (by
    rw [wsU_push]
    refine (hP.kept hkp).app (fun k x hx => ?_)
    have hz1 : k < 1 := (List.getElem?_eq_some_iff.mp hx).1
    rw [show k = 0 by omega] at hx
    cases hx
    rw [ceu_arr ad cA (by rw [hk]; omega), hadn, ← hcA]
    show H1[H.size]? = some (vp_cell _ _)
    rw [e1, hdv]
    have hf : (fun i => oI (stw z S.2.2 S.1 i)) = fun _ => (0 : Int32) := by
      funext i
      rw [stw_0 (hz S.1 (by omega)) o3 i]
      rfl
    rw [hf]
    rfl) ⟨Nat.le_trans hS.1 (by omega), fun x y1 y2 => (o4 x (Nat.lt_of_lt_of_le y1 hS.1)).trans (hS.2.1 x y1 y2), hS.2.2⟩
  rw [hadn] at kk
  rw [show S.1 - ne + 1 = S.1 + 1 - ne by omega, show SL S.1 - SL ne + len S.1 = SL (S.1 + 1) - SL ne by omega]
  exact kk
end CTS
