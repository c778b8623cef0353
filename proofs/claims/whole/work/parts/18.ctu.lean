/-! constructors: contracts -/
theorem NSi.warm {s U : State} (hW : s.WarmedH U.vm) (h : NSi s) : NSi U := fun q hq h1 => va_Nw.warmM hW (h q hq h1)
theorem NSi.same {u U : State} (hv : u.vm = U.vm) (h : NSi u) : NSi U := fun q hq h1 => va_Nw.same rfl hv (h q hq h1)
def PcI (ad : Nat → Nat) (cA : Nat → ClassId) (D : va_G) (b0 : Nat) (z : St) (as : List V) (S : CTt) : Array Value → State → Prop := va_Pc (as.map (ev ad)) (fun U => U.heap.size = b0 + S.1 ∧ va_P D classes (wsU ad cA S.1 S.2.1 (stw z S.2.2)) U.heap ∧ Wd cA D U ∧ NSi U)
def QcI (nO : Nat) (ad : Nat → Nat) (cA : Nat → ClassId) (D : va_G) (b0 : Nat) (z : St) (S : CTt) : Array Value → State → Outcome → State → Prop := fun _ s0 oc t => (oc = .returned none ∧ t.heap.size = b0 + S.1 ∧ va_P D classes (wsU ad cA S.1 S.2.1 (stw z S.2.2)) t.heap) ∧ va_F (A0 nO ad) s0 t
theorem PcI_blind (ad : Nat → Nat) (cA : Nat → ClassId) (D : va_G) (b0 : Nat) (z : St) (as : List V) (S : CTt) : FrameBlind (PcI ad cA D b0 z as S) := by
  intro a U g mk h
  obtain ⟨h1, h2, h3, h4, h5⟩ := h
  exact ⟨h1, h2, h3, Wd.same (u := U) (U := U.calling g mk a) rfl h4, NSi.same (u := U) (U := U.calling g mk a) rfl h5⟩
def wI (k : Nat) : List Cond := .code (yI k) (cI k) (lI k) none :: TB
def rmI (d : Nat) (S S' : CTt) : Room := { frames := d, cells := S'.1 - S.1, slots := SL S'.1 - SL S.1, locals := 38 * d }
def CSi (l : Launch) (R : Room) (nO : Nat) (ad : Nat → Nat) (cA : Nat → ClassId) (D : va_G) (b0 n0 : Nat) (z : St) (d : Nat) (call : Nat → List V → CTt → Option CTt) : Prop := d + 1 ≤ R.frames ∧ 38 + 38 * d ≤ R.locals ∧ ∀ k as S S', call k as S = some S' → n0 ≤ S.1 → S.1 ≤ nO → k < 12 ∧ as.length = lI k ∧ (∃ o as', as = some (.inr o) :: as') ∧ Met l (yI k) (wI k) (rmI d S S') (PcI ad cA D b0 z as S) (QcI nO ad cA D b0 z S') (S'.1 - S.1) (SL S'.1 - SL S.1) (A0 nO ad)
section CTU
variable {p : Program} {l : Launch} {e : Env} {R : Room} {s : State} {m : MethodId} {args : Array Value} {below : List Frame} {meth : Method} {c : Code} {QW : State → Prop} {cc : ByteArray} {nL cls nO : Nat} {ad : Nat → Nat} {cA : Nat → ClassId} {D : va_G} {b0 n0 ne : Nat} {z : St} {pc : Nat} {ls stk : List V} {S : CTt} {call : Nat → List V → CTt → Option CTt} {dd : Nat}
theorem ci_run {H : Heap} {locs : List Loc} {lsM : Array Slot} {st0 rest : List Value} {a : Array Value} {mc ms cells slots : Nat} (hr : va_Run p l e R s m args below meth c H locs cells slots mc ms (F0 m pc lsM st0) rest (QcI nO ad cA D b0 z S a) (A0 nO ad)) (hS : va_S (A0 nO ad) s.heap H locs)
    (kk : ∀ (H1 : Heap) (locs1 : List Loc), H1.size = b0 + S.1 → va_P D classes (wsU ad cA S.1 S.2.1 (stw z S.2.2)) H1 → va_S (A0 nO ad) s.heap H1 locs1 → W p l e R s m args below meth c H1 locs1 (cells + mc) (slots + ms) QW (F0 m (pc + 3) lsM rest)) : W p l e R s m args below meth c H locs cells slots QW (F0 m pc lsM st0) := by
  intro T hT X
  obtain ⟨v, st₀, t, T', L, h0, X', hL, e1, e2, ⟨⟨hv, hp1, hp2⟩, hz, hk⟩, sp⟩ := hr T hT X
  cases hv
  rw [h0] at hz hk
  obtain ⟨t2, a1, b1⟩ := kk T'.heap (locs ++ L) (by rw [e1]; exact hp1) (by rw [e1]; exact hp2)
    ⟨Nat.le_trans hS.1 (by rw [e1]; exact hz), fun q h1 h2 => by rw [e1, hk q (Nat.lt_of_lt_of_le h1 hS.1) h2]; exact hS.2.1 q h1 h2, fun q hq => by
      rcases List.mem_append.mp hq with h | h
      · exact hS.2.2 q h
      · exact hL q h⟩ T' rfl X'
  exact ⟨t2, sp t2 a1, b1⟩
theorem FLa_q {c0 d ci k : Nat} (h : FL.any (fun e => decide (e.1 = c0) && decide (e.2.1 = d) && decide (e.2.2.1 = ci) && decide (e.2.2.2.1 = k) && decide (e.2.2.2.2.1 = 0)) = true) : Cond.fieldLink (cN c0) d (cN ci) ((cT ci) k).2.1 ((cT ci) k).2.2.1 ∈ TB ∧ ((cT ci) k).1 = cN ci := by
  obtain ⟨q, hq, h⟩ := List.any_eq_true.mp h
  simp only [Bool.and_eq_true, decide_eq_true_eq] at h
  obtain ⟨⟨⟨⟨h1, h2⟩, h3⟩, h4⟩, h5⟩ := h
  obtain ⟨g1, g2, g3, g4⟩ := FL_q hq
  have g1 := g1 (by rw [h5]; decide)
  unfold fw at g1
  rw [h1, h2, h3, h4] at g1
  rw [h3, h4] at g4
  exact ⟨g1, g4⟩
theorem ci_put {o j d : Nat} {v : Value} {ty : FieldType} {H : Heap} {locs : List Loc} {lsM : Array Slot} {rest : List Value} {cells slots : Nat} (X : Ci p R s m args meth c cc nL cls nO ad cA D b0 n0 ne z) (hl : Cond.fieldLink (cN cls) d (cN (kl o)) ((cT (kl o)) j).2.1 ((cT (kl o)) j).2.2.1 ∈ TB) (hdecl : ((cT (kl o)) j).1 = cN (kl o)) (hown' : ((cT (kl o)) j).2.2.2 = true → kl o = cls) (hn : S.1 ≤ nO) (ho : o < S.1) (h13 : kl o < 13) (hj : j < nf (kl o)) (hty : (cTy (kl o)) j = ty) (hnar : narrow ty v = v) (hfit : fits ty v = true) (hd : decode cc pc = .ok (.putfield d, 3)) (hP : va_P D classes (wsU ad cA S.1 S.2.1 (stw z S.2.2)) H) (hS : va_S (A0 nO ad) s.heap H locs)
    (kk : ∀ (H1 : Heap) (locs1 : List Loc), va_P D classes ((wsU ad cA S.1 S.2.1 (stw z S.2.2)).set o (ad o, .inr (kl o, (fvu ad S.2.1 (stw z S.2.2) o).set j v))) H1 → va_S (A0 nO ad) s.heap H1 locs1 → H1.size = H.size → W p l e R s m args below meth c H1 locs1 cells slots QW (F0 m (pc + 3) lsM rest)) : W p l e R s m args below meth c H locs cells slots QW (F0 m pc lsM (v :: .ref (ad o) :: rest)) := by
  obtain ⟨hx, hb, hml, hown, hts, ⟨hWd, -⟩, hjj, hin, -, -, had, hn0, hz⟩ := X
  have h10 : kl o ≠ 10 := kl_ne o
  have hw : (wsU ad cA S.1 S.2.1 (stw z S.2.2))[o]? = some (ad o, .inr (kl o, fvu ad S.2.1 (stw z S.2.2) o)) := by rw [wsU_get ad cA ho, ceu_obj ad cA h13]
  have hsame : ∀ x, s.fieldFound? ((cT (kl o)) j).1 ((cT (kl o)) j).2.1 ((cT (kl o)) j).2.2.1 = some x → s.fieldFound? (cN (kl o)) ((cT (kl o)) j).2.1 ((cT (kl o)) j).2.2.1 = some x := fun x hx => by rw [hdecl] at hx; exact hx
  have hpd : parseFieldDescriptor ((cT (kl o)) j).2.2.1 = some ty := by rw [tys (kl o) h13 j hj, hty]
  have hln : j < (fvu ad S.2.1 (stw z S.2.2) o).length := by rw [fvu_len]; exact hj
  have hD := wsU_D ad cA (X := S.2.1) (st := stw z S.2.2) hn hjj
  have hlk := hts _ hl
  have hap := va_apart (own := cN cls) hts (lay_in h13) (cTy (kl o)) (tys (kl o) h13) (nms (kl o) h13) hWd.1 (cls_get (kl o) h13 h10)
  obtain ⟨r, h1, cell, q1, q2, q3, q4⟩ := hP o _ hw
  have hr : r = (cN (kl o), cT (kl o), nf (kl o)) := Option.some.inj (h1.symm.trans (cls_get (kl o) h13 h10))
  subst hr
  obtain ⟨hSl, hfc, kC, hkC, hkind⟩ := hWd.1.1 (kl o) _ (cls_get (kl o) h13 h10)
  obtain ⟨cf, kf, fi, f, hi, hsl⟩ := hSl j hj
  have hlay := hts _ (lay_in h13 _ (u_in_lay hj))
  have hst := (u_facts hfc hkC (u_lays hts (lay_in h13) hj) hi).1
  unfold u_lay at hlay
  cases hfin : ((cT (kl o)) j).2.2.2 with
  | false =>
    rw [if_neg (by rw [hfin]; decide)] at hlay
    have h6 := u_store hfc hkC hkind hlay hi hpd hnar hfit
    refine W.putK hx hb (f := f) ⟨hown, hlk, ⟨_, _, _, hsame _ hi⟩, hst⟩ (by rw [q2]; exact h6) q1 q3 (by rw [hsl]; exact k2_hasslot (q4 j hj)) rfl rfl hd fun H' e1 e2 e3 => ?_
    rw [hsl] at e1 ⊢
    exact kk H' _ (hP.set hD hw ⟨_, cls_get (kl o) h13 h10, t_OB.to (V := updV (vp_V (fvu ad S.2.1 (stw z S.2.2) o)) j v) ⟨_, e1, q2, q3, t_set q4 hap hj v⟩ (fun i _ => vp_updV_set hln v i)⟩ e3) (hS.put e2 e3 (hD.2 o _ hw)) e2
  | true =>
    rw [if_pos hfin] at hlay
    have hcf : m.cls = cf := by
      obtain ⟨_, _, c', _, _, _, -, -, hf', -, -, -, hown2, -⟩ := Cond.laysFinal_spec hlay
      have e1 : c' = cf := by have := hi.symm.trans hf'; simp at this; exact this.1.symm
      rw [hdecl, hown' hfin] at hown2
      rw [← e1]; exact Option.some.inj (hown.symm.trans hown2)
    have h6 := u_fits hfc hkC hkind (Or.inr hlay) hi hpd hnar hfit
    refine W.putFinK hx hb hown hlk (hsame _ hi) hst hcf (hin (by have := hown' hfin; omega)) (by rw [q2]; exact h6) q1 q3 (by rw [hsl]; exact k2_hasslot (q4 j hj)) rfl rfl hd fun H' e1 e2 e3 => ?_
    rw [hsl] at e1 ⊢
    exact kk H' _ (hP.set hD hw ⟨_, cls_get (kl o) h13 h10, t_OB.to (V := updV (vp_V (fvu ad S.2.1 (stw z S.2.2) o)) j v) ⟨_, e1, q2, q3, t_set q4 hap hj v⟩ (fun i _ => vp_updV_set hln v i)⟩ e3) (hS.put e2 e3 (hD.2 o _ hw)) e2
theorem ci_call {a b d : Nat} {as r : List V} {S' : CTt} {i : Instr × Nat} (hcls : cls < 13) (X : Ci p R s m args meth c cc nL cls nO ad cA D b0 n0 ne z) (hC : CSi l R nO ad cA D b0 n0 z dd call) (hg : cGr call nO) (hi : i = (.invokespecial d, 3)) (h1 : ckJi cls d a = true) (hd : decode cc pc = .ok i) (hpn : pn b [] stk = some (as, r)) (h8 : r.length ≤ 8) (hc : call a as S = some S') (hcap : S'.1 - ne ≤ R.cells ∧ SL S'.1 - SL ne ≤ R.slots) (k : Wc p l e R s m args below meth c QW nL nO ad cA D b0 ne z (pc + i.2) ls r S') : Wc p l e R s m args below meth c QW nL nO ad cA D b0 ne z pc ls stk S := by
  subst hi
  intro H locs lsM q1 q2 q3 hP hS hl
  obtain ⟨hx, hb, hml, hown, hts, ⟨hWd, hNS⟩, hjj, hin, -, -, had, hn0, hz⟩ := X
  obtain ⟨c1, c2, hC⟩ := hC
  obtain ⟨hs, hlen⟩ := pn_spec _ _ _ _ _ hpn
  rw [List.reverse_nil, List.nil_append] at hs
  obtain ⟨hk12, hal, ⟨o, as', has⟩, hM⟩ := hC a as S S' hc (by have := hn0 hcls; omega) q3
  obtain ⟨g1, g2⟩ := hg a as S S' hc q3
  obtain ⟨m1, m2, m3, m4, m5, m6, m7⟩ := okIt_q hk12
  have hcn := cN_ok (kI a) (by omega)
  subst has
  have hst : stk.map (ev ad) = (as'.map (ev ad)).reverse ++ .ref (ad o) :: r.map (ev ad) := by
    rw [hs, List.map_append, List.map_reverse, List.map_cons, List.reverse_cons, List.append_assoc]
    rfl
  have hws : ∀ w ∈ wI a, w ∈ TB := by
    intro w hw
    rcases List.mem_cons.mp hw with rfl | hw
    · exact code_TI a hk12
    · exact hw
  have hpre : ∀ U : State, U.heap = H → s.WarmedH U.vm → PcI ad cA D b0 z (some (.inr o) :: as') S (Value.ref (ad o) :: as'.map (ev ad)).toArray U := fun U hU hW => ⟨rfl, by rw [hU]; exact q1, by rw [hU]; exact hP, hWd.warm hW, hNS.warm hW⟩
  have hnar : ∀ sig, parseMethodDescriptor (yI a).desc = some sig → as'.length = sig.parameters.length := by
    intro sig hsig
    rw [hsig] at m6
    simp at m6
    rw [List.length_cons] at hal
    omega
  have hwm : ∀ w ∈ wI a, ∀ (a' : Array Value) (U : State), s.WarmedH U.vm → w.before a' U = true := fun w hw a' U hW => word_at hW (TB_good w (hws w hw)) (hts w (hws w hw))
  have hroom : 8 + (lI a + 11) + (rmI dd S S').locals ≤ R.locals := by
    show 8 + (lI a + 11) + 38 * dd ≤ R.locals
    omega
  have hle1 := SL_le q2
  have hle2 := SL_le g1
  have hfit : S.1 - ne + (S'.1 - S.1) ≤ R.cells ∧ SL S.1 - SL ne + (SL S'.1 - SL S.1) ≤ R.slots := by omega
  have hyc : (yI a).cls ≠ "java/lang/invoke/MethodHandle" ∧ (yI a).cls ≠ "java/lang/invoke/VarHandle" := by rw [m3]; exact ⟨hcn.1, hcn.2.1⟩
  have hrun : va_Run p l e R s m args below meth c H locs (S.1 - ne) (SL S.1 - SL ne) (S'.1 - S.1) (SL S'.1 - SL S.1) (F0 m pc lsM (stk.map (ev ad))) (r.map (ev ad)) (QcI nO ad cA D b0 z S' (Value.ref (ad o) :: as'.map (ev ad)).toArray) (A0 nO ad) := by
    obtain ⟨q, hq, hq1⟩ := List.any_eq_true.mp h1
    simp only [Bool.and_eq_true, decide_eq_true_eq] at hq1
    obtain ⟨⟨w1, w2⟩, w3⟩ := hq1
    have hj := List.all_eq_true.mp JL_ok q hq
    unfold okJ at hj
    by_cases hnest : q.2.2.2.1 = 1
    · have hnw := hNS q hq hnest
      unfold jwN at hnw
      rw [w1, w2, w3] at hnw
      exact va_runIN (n := as'.length) (As := as'.map (ev ad)) (rest := r.map (ev ad)) (b := ad o) ⟨hx, hb, hml, hown, hts⟩ hM ⟨⟨⟨rfl, rfl, c1, hroom, hwm, List.mem_cons_self⟩, hts _ (code_TI a hk12), hts _ m1, hyc, hnar, va_Nw.use rfl hnw⟩, m5, hts _ m2⟩ ⟨PcI_blind _ _ _ _ _ _ _, hpre⟩ rfl (by simp) hl.1 (by rw [hst]) (lv_room (rest8 h8)) hd hfit
    · rw [if_neg hnest] at hj
      have hjw := atp_mem hj
      unfold jw0 at hjw
      rw [w1, w2, w3] at hjw
      exact va_runI (n := as'.length) (As := as'.map (ev ad)) (rest := r.map (ev ad)) (b := ad o) ⟨hx, hb, hml, hown, hts⟩ hM ⟨⟨rfl, rfl, c1, hroom, hwm, List.mem_cons_self, hts _ (code_TI a hk12), hts _ m1, hyc, hnar, hts _ hjw⟩, m5, hts _ m2⟩ ⟨PcI_blind _ _ _ _ _ _ _, hpre⟩ rfl (by simp) hl.1 (by rw [hst]) (lv_room (rest8 h8)) hd hfit
  refine ci_run hrun hS (fun H1 locs1 y1 y2 y3 => ?_)
  rw [show S.1 - ne + (S'.1 - S.1) = S'.1 - ne by omega, show SL S.1 - SL ne + (SL S'.1 - SL S.1) = SL S'.1 - SL ne by omega]
  exact k H1 locs1 lsM y1 (by omega) g2 y2 y3 hl
theorem ci_step {t a b d : Nat} {i : Instr × Nat} {stk' : List V} {S' : CTt} (hcls : cls < 13) (X : Ci p R s m args meth c cc nL cls nO ad cA D b0 n0 ne z) (hC : CSi l R nO ad cA D b0 n0 z dd call) (hg : cGr call nO) (h : ckc1 cls i t a b d = true) (hd : decode cc pc = .ok i) (hs : cStep nO call t a b ls stk S = some (stk', S')) (hcap : S'.1 - ne ≤ R.cells ∧ SL S'.1 - SL ne ≤ R.slots) (k : Wc p l e R s m args below meth c QW nL nO ad cA D b0 ne z (pc + i.2) ls stk' S') : Wc p l e R s m args below meth c QW nL nO ad cA D b0 ne z pc ls stk S := by
  obtain ⟨hx, hb, hml, hown, hts, ⟨hWd, hNS⟩, hjj, hin, ⟨hfr, hlo⟩, hn146, had, hn0, hz⟩ := id X
  unfold cStep at hs
  split at hs
  · cases hs
    exact ci_isI X h hd k
  · cases hs
    exact ci_isI X h hd k
  · split at hs
    · rename_i x hgx
      cases hs
      intro H locs lsM q1 q2 q3 hP hS hl
      have k := k H locs lsM q1 q2 q3 hP hS hl
      have hr := lv_rd ad hl hgx
      simp only [ckc1, Bool.or_eq_true, Bool.and_eq_true, decide_eq_true_eq] at h
      rcases h with h | ⟨h, h4⟩
      · subst h
        exact lv_iload hx hb hd hr k
      · subst h
        exact lv_iload_n hx hb hd (f4_val h4) hr k
    · cases hs
  · split at hs
    · rename_i x hgx
      cases hs
      intro H locs lsM q1 q2 q3 hP hS hl
      have k := k H locs lsM q1 q2 q3 hP hS hl
      have hr := lv_rd ad hl hgx
      simp only [ckc1, Bool.or_eq_true, Bool.and_eq_true, decide_eq_true_eq] at h
      rcases h with h | ⟨h, h4⟩
      · subst h
        exact lv_aload hx hb hd hr k
      · subst h
        exact lv_aload_n hx hb hd (f4_val h4) hr k
    · cases hs
  · split at hs
    · cases hs
      simp only [ckc1, decide_eq_true_eq] at h
      subst h
      intro H locs lsM q1 q2 q3 hP hS hl
      exact lv_dup hx hb hd (ev_cat ad _) (k H locs lsM q1 q2 q3 hP hS hl)
    · cases hs
  · split at hs
    · split at hs
      · rename_i y x r hh
        obtain ⟨h8, ⟨x1, x2⟩, y1, y2⟩ := hh
        cases hs
        simp only [ckc1, Bool.and_eq_true, decide_eq_true_eq] at h
        obtain ⟨h, h1⟩ := h
        subst h
        intro H locs lsM q1 q2 q3 hP hS hl
        have hy : InR y := ⟨by omega, by omega⟩
        have hx' : InR x := ⟨by omega, by omega⟩
        have e : (if oI x < oI y then oI y else oI x) = oI (if y ≤ x then x else y) := by
          by_cases hxy : y ≤ x
          · rw [if_pos hxy, if_neg (by rw [oI_lt hx' hy]; omega)]
          · rw [if_neg hxy, if_pos (by rw [oI_lt hx' hy]; omega)]
        exact va_mmax hx hb (by rw [hml, hl.1]) hown (hts _ (ckM_q h1)) (hts _ w_max.1) (hts _ w_min.2.1) (hts _ w_max.2) hfr (by have := rest8 (ad := ad) h8; omega) (by omega) (by omega) hd (by rw [e]; exact k H locs lsM q1 q2 q3 hP hS hl)
      · cases hs
    · cases hs
  · split at hs
    · rename_i y x r
      cases hs
      simp only [ckc1, decide_eq_true_eq] at h
      subst h
      intro H locs lsM q1 q2 q3 hP hS hl
      exact lv_imul hx hb hd (by rw [oI_mul, oI_wr]; exact k H locs lsM q1 q2 q3 hP hS hl)
    · cases hs
  · split at hs
    · split at hs
      · rename_i o r h8
        cases hs
        simp only [ckc1, Bool.and_eq_true, decide_eq_true_eq] at h
        obtain ⟨h, h1⟩ := h
        subst h
        intro H locs lsM q1 q2 q3 hP hS hl
        exact W.objInit hx hb hown (hts _ (OL_q h1)) (hts _ obj_TB.1) (hts _ obj_TB.2) rfl (by rw [hml]; exact hl.1) rfl hd hfr (by show 2 * 0 + _ + 12 ≤ _; have := rest8 (ad := ad) h8; omega) (k H locs lsM q1 q2 q3 hP hS hl)
      · cases hs
    · cases hs
  · split at hs
    · rename_i hh
      obtain ⟨hok, hk, h13⟩ := hh
      cases hs
      simp only [ckc1, Bool.and_eq_true, decide_eq_true_eq] at h
      obtain ⟨⟨h, h1⟩, h2⟩ := h
      subst h
      intro H locs lsM q1 q2 q3 hP hS hl
      exact ci_new X h1 h2 hd hok hk h13 hcap (by have := hn0 hcls; omega) q1 q2 hP hS (fun H1 y1 y2 y3 => k H1 locs lsM y1 (Nat.le_succ_of_le q2) (newOK_q hok).1 y2 y3 hl)
    · cases hs
  · split at hs
    · split at hs
      · rename_i x r hh
        obtain ⟨hok, hk, h13, hxl, hlen⟩ := hh
        cases hs
        subst hxl
        intro H locs lsM q1 q2 q3 hP hS hl
        simp only [ckc1, Bool.or_eq_true, Bool.and_eq_true, decide_eq_true_eq] at h
        rcases h with (⟨h0, h⟩ | ⟨h0, h⟩) | ⟨h0, h⟩
        · subst h
          exact ci_arr X (Or.inl ⟨h0, rfl⟩) hd hok hk hlen hcap (by have := hn0 hcls; omega) q1 q2 hP hS (fun H1 y1 y2 y3 => k H1 locs lsM y1 (Nat.le_succ_of_le q2) (newOK_q hok).1 y2 y3 hl)
        · subst h
          exact ci_arr X (Or.inr (Or.inl ⟨h0, rfl⟩)) hd hok hk hlen hcap (by have := hn0 hcls; omega) q1 q2 hP hS (fun H1 y1 y2 y3 => k H1 locs lsM y1 (Nat.le_succ_of_le q2) (newOK_q hok).1 y2 y3 hl)
        · subst h
          exact ci_arr X (Or.inr (Or.inr ⟨h0, rfl⟩)) hd hok hk hlen hcap (by have := hn0 hcls; omega) q1 q2 hP hS (fun H1 y1 y2 y3 => k H1 locs lsM y1 (Nat.le_succ_of_le q2) (newOK_q hok).1 y2 y3 hl)
      · cases hs
    · cases hs
  · split at hs
    · split at hs
      · rename_i t' o r hh
        obtain ⟨hk, hbn, hfk, hto, ho, h13⟩ := hh
        cases hs
        subst hk
        subst hto
        simp only [ckc1, Bool.and_eq_true, decide_eq_true_eq] at h
        obtain ⟨⟨⟨h, h1⟩, h2⟩, h3⟩ := h
        subst h
        obtain ⟨f1, f2⟩ := FLa_q h1
        intro H locs lsM q1 q2 q3 hP hS hl
        have nf' : narrow ((cTy (kl o)) b) (.ref (ad (o + fk (kl o) b))) = .ref (ad (o + fk (kl o) b)) ∧ fits ((cTy (kl o)) b) (.ref (ad (o + fk (kl o) b))) = true := by
          split at h3
          · rename_i e0; rw [e0]; exact ⟨rfl, rfl⟩
          · rename_i e0; rw [e0]; exact ⟨rfl, rfl⟩
          · cases h3
        refine ci_put X f1 f2 (fun _ => h2) q3 ho h13 hbn rfl nf'.1 nf'.2 hd hP hS (fun H1 locs1 y1 y2 y3 => ?_)
        have y0 : va_P D classes (wsU ad cA S.1 ((o + fk (kl o) b) :: S.2.1) (stw z S.2.2)) H1 := by
          rw [← wsU_putR ad cA (by omega) ho h13 hbn hfk]
          exact y1
        exact k H1 locs1 lsM (by rw [y3]; exact q1) q2 q3 y0 y2 hl
      · cases hs
    · cases hs
  · split at hs
    · split at hs
      · rename_i v o r hh
        obtain ⟨hk, hbn, hfk, ho, h13⟩ := hh
        cases hs
        subst hk
        simp only [ckc1, Bool.and_eq_true, decide_eq_true_eq] at h
        obtain ⟨⟨⟨h, h1⟩, h2⟩, h3⟩ := h
        subst h
        obtain ⟨f1, f2⟩ := FLa_q h1
        intro H locs lsM q1 q2 q3 hP hS hl
        refine ci_put X f1 f2 (fun hf => by rw [h3] at hf; cases hf) q3 ho h13 hbn h2 rfl rfl hd hP hS (fun H1 locs1 y1 y2 y3 => ?_)
        have y0 : va_P D classes (wsU ad cA S.1 S.2.1 (up2 (stw z S.2.2) o b v)) H1 := by
          rw [← wsU_putI ad cA h13 hbn hfk]
          exact y1
        exact k H1 locs1 lsM (by rw [y3]; exact q1) q2 q3 y0 y2 hl
      · cases hs
    · cases hs
  · split at hs
    · split at hs
      · split at hs
        · rename_i hpn h8 _ _ hcl
          cases hs
          simp only [ckc1, Bool.and_eq_true, decide_eq_true_eq] at h
          obtain ⟨⟨h, h1⟩, h2⟩ := h
          exact ci_call hcls X hC hg h h1 hd hpn h8 hcl hcap k
        · cases hs
      · cases hs
    · cases hs
  · cases hs
theorem ci_body {pe : Nat} {S' : CTt} (hcls : cls < 13) (X : Ci p R s m args meth c cc nL cls nO ad cA D b0 n0 ne z) (hC : CSi l R nO ad cA D b0 n0 z dd call) (hg : cGr call nO) (hcap : S'.1 - ne ≤ R.cells ∧ SL S'.1 - SL ne ≤ R.slots) (k : Wc p l e R s m args below meth c QW nL nO ad cA D b0 ne z pe ls [] S') : ∀ (is : List Ai) (pc : Nat) (stk : List V) (S : CTt), S.1 ≤ nO → ckc cc cls pe pc is = true → cRun nO call is ls stk S = some S' → Wc p l e R s m args below meth c QW nL nO ad cA D b0 ne z pc ls stk S
  | [], _, _, _, _, _, hs => by cases hs
  | (t, a, b, d) :: r, pc, stk, S, hS, h, hs => by
    unfold ckc at h
    unfold cRun at hs
    by_cases h46 : t = 46
    · rw [if_pos h46] at h hs
      have hpc := of_decide_eq_true h
      split at hs
      · rename_i he
        cases hs
        rw [List.isEmpty_iff.mp he, hpc]
        exact k
      · cases hs
    · rw [if_neg h46] at h hs
      split at h
      · rename_i i hd
        rw [Bool.and_eq_true] at h
        split at hs
        · rename_i q hq
          have g := cStep_gr hg (stk' := q.1) (S' := q.2) hq hS
          have g' := cRun_gr hg r ls q.1 q.2 S' hs g.2
          have hle := SL_le g'.1
          exact ci_step hcls X hC hg h.1 hd (stk' := q.1) (S' := q.2) hq (by omega) (ci_body hcls X hC hg hcap k r (pc + i.2) q.1 q.2 g.2 h.2 hs)
        · cases hs
      · cases h
end CTU
