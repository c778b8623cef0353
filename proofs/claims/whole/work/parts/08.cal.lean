/-! calls, ends, whole blocks -/
def rcv (k : Nat) (as : List V) : Prop := mS k = true ∨ ∃ o as', as = some (.inr o) :: as' ∧ kl o = mK k
def wM (k : Nat) : List Cond := .code (yN k) (mC k) (mL k) (mR k) :: TB
def PcC (nO : Nat) (ad : Nat → Nat) (cA : Nat → ClassId) (D : va_G) (as : List V) (st : St) : Array Value → State → Prop := va_Pc (as.map (ev ad)) (fun U => va_P D classes (wsO nO ad cA st) U.heap ∧ Wd cA D U)
def QcC (nO : Nat) (ad : Nat → Nat) (cA : Nat → ClassId) (D : va_G) (Q : Rn) : Array Value → State → Outcome → State → Prop := fun _ s0 oc t => (∃ (v : V) (st' : St), oc = .returned (evr ad v) ∧ okV nO v ∧ okS st' ∧ Q v st' ∧ va_P D classes (wsO nO ad cA st') t.heap) ∧ va_F (A0 nO ad) s0 t
theorem PcC_blind (nO : Nat) (ad : Nat → Nat) (cA : Nat → ClassId) (D : va_G) (as : List V) (st : St) : FrameBlind (PcC nO ad cA D as st) := by
  intro a U g mk h
  obtain ⟨h1, h2, h3⟩ := h
  exact ⟨h1, h2, Wd.same (u := U) (U := U.calling g mk a) rfl h3⟩
theorem pn_spec : ∀ (n : Nat) (acc s as r : List V), pn n acc s = some (as, r) → acc.reverse ++ s = as.reverse ++ r ∧ as.length = acc.length + n
  | 0, acc, s, as, r, h => by
    cases h
    exact ⟨rfl, rfl⟩
  | n + 1, acc, [], as, r, h => by cases h
  | n + 1, acc, v :: s, as, r, h => by
    have := pn_spec n (v :: acc) s as r h
    rw [List.reverse_cons, List.append_assoc, List.singleton_append, List.length_cons] at this
    exact ⟨this.1, by omega⟩
theorem MT_q {k : Nat} (h : k < NM) : Cond.initialized (yN k).cls ∈ TB ∧ (mS k = true → Cond.static (yN k) ∈ TB) ∧ (mS k = false → Cond.instanceMethod (yN k) ∈ TB ∧ Cond.selects (cN (mK k)) (yN k) (yN k) ∈ TB) ∧ (yN k).cls = cN (mK k) := by
  have h1 := List.all_eq_true.mp MT_ok k (List.mem_range.mpr h)
  unfold okM at h1
  simp only [Bool.and_eq_true, decide_eq_true_eq] at h1
  obtain ⟨⟨h1, h2⟩, h3⟩ := h1
  refine ⟨atp_mem h1, fun hs => ?_, fun hs => ?_, h3⟩
  · rw [if_pos hs] at h2
    exact atp_mem h2
  · rw [if_neg (by rw [hs]; decide), Bool.and_eq_true] at h2
    exact ⟨atp_mem h2.1, atp_mem h2.2⟩
theorem cN_ok : ∀ k, k < 14 → cN k ≠ "java/lang/invoke/MethodHandle" ∧ cN k ≠ "java/lang/invoke/VarHandle" ∧ plainName (cN k) = true := by decide +kernel
theorem mK_lt : ∀ k, mK k < 13 := by
  have h : mtL.all (fun q => decide (q.2.2.2.2.1 < 13)) = true := by decide +kernel
  intro k
  unfold mK mt
  rw [List.getD_eq_getElem?_getD]
  cases hq : mtL[k]? with
  | none => decide
  | some x => exact of_decide_eq_true (List.all_eq_true.mp h x (List.mem_of_getElem? hq))
theorem mL_lt : ∀ k, mL k < 20 := by
  have h : mtL.all (fun q => decide (q.2.2.1 < 20)) = true := by decide +kernel
  intro k
  unfold mL mt
  rw [List.getD_eq_getElem?_getD]
  cases hq : mtL[k]? with
  | none => decide
  | some x => exact of_decide_eq_true (List.all_eq_true.mp h x (List.mem_of_getElem? hq))
section CAL
variable {p : Program} {l : Launch} {e : Env} {R : Room} {s : State} {m : MethodId} {args : Array Value} {below : List Frame} {meth : Method} {c : Code} {cells slots : Nat} {QW : State → Prop} {cc : ByteArray} {nL cls : Nat} {nO : Nat} {ad : Nat → Nat} {cA : Nat → ClassId} {D : va_G} {pc : Nat} {ls stk : List V} {st : St} {rmD : Room} {C : Cn}
/-- the callees' contracts -/
def CS (l : Launch) (R : Room) (nO : Nat) (ad : Nat → Nat) (cA : Nat → ClassId) (D : va_G) (rmD : Room) (C : Cn) : Prop := rmD.cells = 0 ∧ rmD.slots = 0 ∧ rmD.frames + 1 ≤ R.frames ∧ 38 + rmD.locals ≤ R.locals ∧
  ∀ (k : Nat) (as : List V) (st : St) (Q : Rn), k < NM → C k as st Q → okLs nO as → okS st → rcv k as ∧ Met l (yN k) (wM k) rmD (PcC nO ad cA D as st) (QcC nO ad cA D Q) 0 0 (A0 nO ad)
theorem snd_run {H : Heap} {locs : List Loc} {lsM : Array Slot} {st0 rest : List Value} {Q : Rn} {a : Array Value} (hr : va_Run p l e R s m args below meth c H locs cells slots 0 0 (F0 m pc lsM st0) rest (QcC nO ad cA D Q a) (A0 nO ad)) (hS : va_S (A0 nO ad) s.heap H locs)
    (kk : ∀ (v : V) (st' : St) (H1 : Heap) (locs1 : List Loc), okV nO v → okS st' → Q v st' → va_P D classes (wsO nO ad cA st') H1 → va_S (A0 nO ad) s.heap H1 locs1 → W p l e R s m args below meth c H1 locs1 cells slots QW (F0 m (pc + 3) lsM ((evr ad v).toList ++ rest))) : W p l e R s m args below meth c H locs cells slots QW (F0 m pc lsM st0) := by
  intro T hT X
  obtain ⟨v, st₀, t, T', L, h0, X', hL, e1, e2, ⟨⟨r, st', hv, hp1, hp2, hp3, hp4⟩, hz, hk⟩, sp⟩ := hr T hT X
  have hv' : v = evr ad r := by cases hv; rfl
  subst hv'
  rw [h0] at hz hk
  obtain ⟨t2, a1, b1⟩ := kk r st' T'.heap (locs ++ L) hp1 hp2 hp3 (by rw [e1]; exact hp4)
    ⟨Nat.le_trans hS.1 (by rw [e1]; exact hz), fun q h1 h2 => by rw [e1, hk q (Nat.lt_of_lt_of_le h1 hS.1) h2]; exact hS.2.1 q h1 h2, fun q hq => by
      rcases List.mem_append.mp hq with h | h
      · exact hS.2.2 q h
      · exact hL q h⟩ T' rfl X'
  exact ⟨t2, sp t2 a1, b1⟩
theorem rest8 {r : List V} (h : r.length ≤ 8) : ((r.map (ev ad)).map fun v => v.category).sum ≤ 8 := by
  have : ∀ r : List V, ((r.map (ev ad)).map fun v => v.category).sum = r.length := by
    intro r
    induction r with
    | nil => rfl
    | cons v r ih =>
      rw [List.map_cons, List.map_cons, List.sum_cons, ih, ev_cat, List.length_cons]
      omega
  rw [this]
  exact h
theorem snd_calls {a b d : Nat} {i : Instr × Nat} {as r : List V} {Q : Rn} {H : Heap} {locs : List Loc} {lsM : Array Slot} (X : Cx p R s m args c cells slots cc nL cls nO ad cA D) (hC : CS l R nO ad cA D rmD C) (hi : (if mS a then decide (i = (.invokestatic d, 3)) else decide (i = (.invokevirtual d, 3))) = true) (h1 : ckM cls d a = true) (h2 : a < NM) (h3 : (parseMethodDescriptor (yN a).desc).map (fun s => s.parameters.length + (if mS a then 0 else 1)) = some b) (hd : decode cc pc = .ok i)
    (hpn : pn b [] stk = some (as, r)) (h8 : r.length ≤ 8) (hc : C a as st Q) (o2 : okLs nO stk) (o3 : okS st) (hP : va_P D classes (wsO nO ad cA st) H) (hl : lv_has lsM nL (lvl ad ls)) : va_Run p l e R s m args below meth c H locs cells slots 0 0 (F0 m pc lsM (stk.map (ev ad))) (r.map (ev ad)) (QcC nO ad cA D Q (as.map (ev ad)).toArray) (A0 nO ad) ∧ i.2 = 3 := by
  obtain ⟨hx, hb, hml, hown, hts, hWd, hj, hcl0, -, -, hcl, hsl⟩ := X
  obtain ⟨c1, c2, c3, c4, hC⟩ := hC
  obtain ⟨hs, hlen⟩ := pn_spec _ _ _ _ _ hpn
  rw [List.reverse_nil, List.nil_append] at hs
  rw [List.length_nil, Nat.zero_add] at hlen
  have oas : okLs nO as := fun v hv => o2 v (by rw [hs]; exact List.mem_append_left _ (List.mem_reverse.mpr hv))
  obtain ⟨hrc, hM⟩ := hC a as st Q h2 hc oas o3
  obtain ⟨m1, m2, m3, m4⟩ := MT_q h2
  have hcn := cN_ok (mK a) (by have := mK_lt a; omega)
  have hmL := mL_lt a
  have hyl : Cond.methodLink (cN cls) d (yN a) ∈ TB := by
    have := ckM_q h1
    have hn : yE a = yN a := by
      have : a < 265 := h2
      unfold yE
      rw [if_neg (by omega), if_neg (by omega), if_neg (by omega)]
    rw [hn] at this
    exact this
  have hws : ∀ w ∈ wM a, w ∈ TB := by
    intro w hw
    rcases List.mem_cons.mp hw with rfl | hw
    · exact code_TB h2
    · exact hw
  have hblind := PcC_blind nO ad cA D as st
  have hpre : ∀ U : State, U.heap = H → s.WarmedH U.vm → PcC nO ad cA D as st (as.map (ev ad)).toArray U := fun U hU hW => ⟨rfl, by rw [hU]; exact hP, hWd.warm hW⟩
  have hsizeL : lsM.size = nL := hl.1
  have hB : ∀ n, (∀ sig, parseMethodDescriptor (yN a).desc = some sig → n = sig.parameters.length) → CallB R s args (cN cls) d (yN a) (mC a) (mL a) (mR a) (wM a) rmD 0 0 n := by
    intro n hn
    refine ⟨c1, c2, c3, by omega, fun w hw a' U hW => word_at hW (TB_good w (hws w hw)) (hts w (hws w hw)), List.mem_cons_self, hts _ (code_TB h2), hts _ m1, ?_, hn, hts _ hyl⟩
    rw [m4]
    exact ⟨hcn.1, hcn.2.1⟩
  cases hms : mS a with
  | true =>
    rw [hms, if_pos rfl, decide_eq_true_eq] at hi
    subst hi
    rw [hms] at h3
    refine ⟨?_, rfl⟩
    have hst : stk.map (ev ad) = (as.map (ev ad)).reverse ++ r.map (ev ad) := by rw [hs, List.map_append, List.map_reverse]
    exact va_runS (n := as.length) (As := as.map (ev ad)) (rest := r.map (ev ad)) ⟨hx, hb, hml, hown, hts⟩ hM ⟨hB _ (fun sig hsig => by rw [hsig] at h3; simp at h3; omega), hts _ (m2 hms)⟩ ⟨hblind, hpre⟩ rfl (by simp) hsizeL (by rw [hst]) (lv_room (rest8 h8)) hd ⟨by omega, by omega⟩
  | false =>
    rw [hms, if_neg (by decide), decide_eq_true_eq] at hi
    subst hi
    rw [hms] at h3
    refine ⟨?_, rfl⟩
    rcases hrc with hrc | ⟨o, as', has, hko⟩
    · rw [hms] at hrc
      cases hrc
    · subst has
      have hst : stk.map (ev ad) = (as'.map (ev ad)).reverse ++ .ref (ad o) :: r.map (ev ad) := by
        rw [hs, List.map_append, List.map_reverse, List.map_cons, List.reverse_cons, List.append_assoc]
        rfl
      have hlen' : as'.length + 1 = b := by rw [List.length_cons] at hlen; exact hlen
      have hko13 : kl o < 13 := by rw [hko]; exact mK_lt a
      have hw : (wsO nO ad cA st)[o]? = some (ad o, .inr (mK a, fvs ad st o)) := by rw [wsO_get nO ad cA (kl_lt (oas _ List.mem_cons_self) (by omega)), cel_obj ad cA hko13, hko]
      exact va_runV (n := as'.length) (C := cN (mK a)) (As := as'.map (ev ad)) (rest := r.map (ev ad)) (b := ad o) ⟨hx, hb, hml, hown, hts⟩ hM ⟨hB _ (fun sig hsig => by rw [hsig] at h3; simp at h3; omega), hts _ (m3 hms).1, hts _ (m3 hms).2⟩ ⟨hblind, va_recv hWd.1 hP (cls_get _ (mK_lt a) (by rw [← hko]; exact kl_ne o)) hw, hpre⟩ rfl (by simp) hsizeL (by rw [hst]) (lv_room (rest8 h8)) hd ⟨by omega, by omega⟩
theorem snd_call {a b d : Nat} {i : Instr × Nat} (X : Cx p R s m args c cells slots cc nL cls nO ad cA D) (hC : CS l R nO ad cA D rmD C) (h : ckI cls nL i 30 a b d = true) (hd : decode cc pc = .ok i) (k : i_call C (Wx p l e R s m args below meth c cells slots QW nL nO ad cA D (pc + i.2)) a b ls stk st) : Wx p l e R s m args below meth c cells slots QW nL nO ad cA D pc ls stk st := by
  simp only [ckI, Bool.and_eq_true, decide_eq_true_eq] at h
  obtain ⟨⟨⟨⟨h0, h1⟩, h2⟩, h3⟩, h4⟩ := h
  unfold i_call at k
  split at k
  · rename_i as r hpn
    obtain ⟨h8, k⟩ := k
    intro o1 o2 o3 H locs lsM hP hS hl
    obtain ⟨hr, hi3⟩ := snd_calls (locs := locs) X hC h0 h1 h2 h3 hd hpn h8 k o2 o3 hP hl
    rw [hi3] at hr
    refine snd_run hr hS (fun v st' H1 locs1 q1 q2 q3 q4 q5 => ?_)
    have o2r : okLs nO r := fun v hv => o2 v (by
      have := (pn_spec _ _ _ _ _ hpn).1
      rw [List.reverse_nil, List.nil_append] at this
      rw [this]; exact List.mem_append_right _ hv)
    match v, q3 with
    | none, q3 => 
      have q3 := q3 o1 o2r q2 H1 locs1 lsM q4 q5 hl

      exact q3
  · exact k.elim
theorem snd_callI {a b d : Nat} {i : Instr × Nat} (X : Cx p R s m args c cells slots cc nL cls nO ad cA D) (hC : CS l R nO ad cA D rmD C) (h : ckI cls nL i 31 a b d = true) (hd : decode cc pc = .ok i) (k : i_callI C (Wx p l e R s m args below meth c cells slots QW nL nO ad cA D (pc + i.2)) a b ls stk st) : Wx p l e R s m args below meth c cells slots QW nL nO ad cA D pc ls stk st := by
  simp only [ckI, Bool.and_eq_true, decide_eq_true_eq] at h
  obtain ⟨⟨⟨h0, h1⟩, h2⟩, h3⟩ := h
  unfold i_callI at k
  split at k
  · rename_i as r hpn
    obtain ⟨h8, k⟩ := k
    intro o1 o2 o3 H locs lsM hP hS hl
    obtain ⟨hr, hi3⟩ := snd_calls (locs := locs) X hC h0 h1 h2 h3 hd hpn h8 k o2 o3 hP hl
    rw [hi3] at hr
    refine snd_run hr hS (fun v st' H1 locs1 q1 q2 q3 q4 q5 => ?_)
    have o2r : okLs nO r := fun v hv => o2 v (by
      have := (pn_spec _ _ _ _ _ hpn).1
      rw [List.reverse_nil, List.nil_append] at this
      rw [this]; exact List.mem_append_right _ hv)
    match v, q1, q3 with
    | some x, q1, q3 =>
      have q3 := q3 o1 (okLs_cons q1 o2r) q2 H1 locs1 lsM q4 q5 hl

      exact q3
  · exact k.elim
end CAL
