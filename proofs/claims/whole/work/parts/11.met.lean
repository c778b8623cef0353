/-! the methods' meaning, and that the machine keeps it -/
def aok (k : Nat) (as : List V) : Bool := decide (as.length ≤ mL k) && as.all Option.isSome && (mS k || (match as with | some (.inr o) :: _ => kl o == mK k | _ => false))
def rmd (d : Nat) : Room := { frames := d, cells := 0, slots := 0, locals := 38 * d }
def MS : Nat → Cn
  | 0 => fun _ _ _ _ => False
  | d + 1 => fun k as st Q => aok k as = true ∧ AW (P k) Q (MS d) 0 (fun _ => 0) 0 (as ++ List.replicate (mL k - as.length) none) [] st
theorem MS_mono : ∀ d, Cm (MS d)
  | 0 => fun _ _ _ _ _ _ h => h
  | d + 1 => fun k a st Q Q' hQ h => ⟨h.1, AW.mono hQ (MS_mono d) h.2⟩
theorem MS_up : ∀ d k a st Q Q', (∀ v t, Q v t → Q' v t) → MS d k a st Q → MS (d + 1) k a st Q'
  | 0, _, _, _, _, _, _, h => h.elim
  | d + 1, k, a, st, Q, Q', hQ, h => ⟨h.1, AW.mono hQ (MS_up d) h.2⟩
theorem aok_rcv {k : Nat} {as : List V} (h : aok k as = true) : as.length ≤ mL k ∧ (∀ v ∈ as, ∃ x, v = some x) ∧ rcv k as := by
  unfold aok at h
  simp only [Bool.and_eq_true, decide_eq_true_eq, Bool.or_eq_true] at h
  obtain ⟨⟨h1, h2⟩, h3⟩ := h
  refine ⟨h1, fun v hv => ?_, ?_⟩
  · have := List.all_eq_true.mp h2 v hv
    cases v with
    | none => cases this
    | some x => exact ⟨x, rfl⟩
  · rcases h3 with h3 | h3
    · exact Or.inl h3
    · split at h3
      · rename_i o as'
        exact Or.inr ⟨o, as', rfl, by simpa using h3⟩
      · cases h3
theorem lv_args_mem (ad : Nat → Nat) : ∀ (as : List V) (i n : Nat) (x : Int ⊕ Nat), as[i]? = some (some x) → (n + i, ev ad (some x)) ∈ lv_args n (as.map (ev ad))
  | [], i, n, x, h => by simp at h
  | v :: as, 0, n, x, h => by
    have : v = some x := by simpa using h
    subst this
    exact List.mem_cons_self
  | v :: as, i + 1, n, x, h => by
    have h' : as[i]? = some (some x) := by simpa using h
    have := lv_args_mem ad as i (n + 1) x h'
    rw [List.map_cons]
    unfold lv_args
    rw [if_neg (by rw [ev_cat]; decide)]
    refine List.mem_cons_of_mem _ ?_
    rw [show n + (i + 1) = n + 1 + i by omega]
    exact this
theorem lg_sl_len (ad : Nat → Nat) (as : List V) : (lg_sl (as.map (ev ad))).length = as.length := by
  induction as with
  | nil => rfl
  | cons v as ih =>
    have e : lg_sl ((v :: as).map (ev ad)) = [.val (ev ad v)] ++ lg_sl (as.map (ev ad)) := by
      rw [List.map_cons]
      unfold lg_sl
      rw [List.flatMap_cons, if_neg (by rw [ev_cat]; decide)]
    rw [e, List.length_append, ih]
    simp
    omega
/-- the checker's say on all methods -/
def CKs : Prop := ∀ k, k < NM → ckBs k = true
theorem pcs_0 : ∀ k, k < NM → pcs k 0 = 0 := by
  have h : (List.range NM).all (fun k => decide (pcs k 0 = 0)) = true := by decide +kernel
  intro k hk
  exact of_decide_eq_true (List.all_eq_true.mp h k (List.mem_range.mpr hk))
theorem P_out {k b : Nat} (h : ¬ b < nblk k) (hk : (bL.getD k []).length = nblk k) : P k b = [] := by
  unfold P
  rw [List.getD_eq_getElem?_getD, List.getElem?_eq_none (by omega)]
  rfl
theorem P_len : ∀ k, k < NM → (bL.getD k []).length = nblk k := by
  have h : (List.range NM).all (fun k => decide ((bL.getD k []).length = nblk k)) = true := by decide +kernel
  intro k hk
  exact of_decide_eq_true (List.all_eq_true.mp h k (List.mem_range.mpr hk))
section MET
variable {p : Program} {l : Launch} {e : Env} {R : Room} {s : State} {m : MethodId} {args : Array Value} {below : List Frame} {meth : Method} {c : Code} {cells slots : Nat} {QW : State → Prop} {cc : ByteArray} {nL cls : Nat} {nO : Nat} {ad : Nat → Nat} {cA : Nat → ClassId} {D : va_G} {pc : Nat} {ls stk : List V} {st : St} {rmD : Room} {C : Cn} {L : Nat} {sx : Nat → Int} {rt : Option FieldType} {K : Nat → Kn} {Rr : Rn} {q : Nat → Nat}
theorem aw_sound {B : Nat → List Ai} {b : Nat} (X : Cx p R s m args c cells slots cc nL cls nO ad cA D) (hC : CS l R nO ad cA D rmD C) (hm : Cm C) (hX : SX s nO ad L sx) (hR : RT p l e R s m args below meth c cells slots QW cc nO ad cA D rt Rr) (hB : ∀ b, ck cc cls nL rt q (q b) (B b) = true ∨ B b = []) (h : AW B Rr C L sx b ls stk st) : Wx p l e R s m args below meth c cells slots QW nL nO ad cA D (q b) ls stk st := by
  refine h (fun b => Wx p l e R s m args below meth c cells slots QW nL nO ad cA D (q b)) (fun b ls stk st hx => ?_)
  rcases hB b with h1 | h1
  · exact ex_sound X hC hm hX (fun _ _ _ _ z => z) hR (B b) (q b) ls stk st h1 hx
  · rw [h1] at hx
    exact hx.elim
theorem met_MS (hck : CKs) (hj : inj nO ad) (hcl0 : Cl nO) : ∀ (d k : Nat) (as : List V) (st : St) (Q : Rn), k < NM → MS d k as st Q → okLs nO as → okS st → rcv k as ∧ Met l (yN k) (wM k) (rmd d) (PcC nO ad cA D as st) (QcC nO ad cA D Q) 0 0 (A0 nO ad)
  | 0, _, _, _, _, _, h, _, _ => h.elim
  | d + 1, k, as, st, Q, hk, h, oas, ost => by
    obtain ⟨h0, h⟩ := h
    obtain ⟨a1, a2, a3⟩ := aok_rcv h0
    refine ⟨a3, ?_⟩
    obtain ⟨m1, m2, m3, m4⟩ := MT_q hk
    have hcn := cN_ok (mK k) (by have := mK_lt k; omega)
    refine Met.ofW (cc := mC k) (maxL := mL k) (ret := mR k) (by rw [m4]; exact hcn.2.2) rfl ?_
    intro p e s m args below meth c s₁ B hml hv
    obtain ⟨rfl, hP, hWd⟩ := hv
    have hx := B.exec
    have hb := B.bytes
    have hr := B.returns
    have hts : ∀ w ∈ wM k, w.before (as.map (ev ad)).toArray s = true := atoms_spec (ws := wM k) B.pre
    have hown : s.vm.findClass (yN k).cls = some m.cls := findClass_of_methodNamed B.named
    rw [m4] at hown
    have hlocks := B.notSynchronized
    have X : Cx p (rmd (d + 1)) s m (as.map (ev ad)).toArray c 0 0 (mC k) (mL k) (mK k) nO ad cA D := ⟨hx, hb, hml, hown, fun w hw => hts w (List.mem_cons_of_mem _ hw), hWd, hj, hcl0, by show 1 ≤ d + 1; omega, by show 38 ≤ 38 * (d + 1); omega, Nat.zero_le _, Nat.zero_le _⟩
    have hC : CS l (rmd (d + 1)) nO ad cA D (rmd d) (MS d) := ⟨rfl, rfl, Nat.le_refl _, by show 38 + 38 * d ≤ 38 * (d + 1); omega, fun k as st Q hk h o1 o2 => met_MS hck hj hcl0 d k as st Q hk h o1 o2⟩
    have hl := lv_entry (as.map (ev ad)) (n := mL k) (by rw [lg_sl_len]; exact a1)
    rw [lg_entry_eq]
    generalize (lg_sl (as.map (ev ad)) ++ List.replicate (mL k - (lg_sl (as.map (ev ad))).length) Slot.unset).toArray = lsM at hl ⊢
    have hl : lv_has lsM (mL k) (lvl ad (as ++ List.replicate (mL k - as.length) none)) := lvl_entry ad a2 hl (fun i x hi => by have := lv_args_mem ad as i 0 x hi; rw [Nat.zero_add] at this; exact this)
    have hR : RT p l e (rmd (d + 1)) s m (as.map (ev ad)).toArray below meth c 0 0 (MQ below (QcC nO ad cA D Q) (as.map (ev ad)).toArray s 0 0 (A0 nO ad)) (mC k) nO ad cA D (mR k) Q := by
      intro v st' ins pc H locs lsM hQ ov ost' hP' hS' hd hrt
      have hq : ∀ t : State, t.heap = H → QcC nO ad cA D Q (as.map (ev ad)).toArray s (.returned (evr ad v)) t := fun t ht => ⟨⟨v, st', rfl, ov, ost', hQ, by rw [ht]; exact hP'⟩, hS'.F ht⟩
      rcases hrt with ⟨rfl, h1, x, rfl⟩ | ⟨rfl, h1, x, h2, rfl⟩ | ⟨rfl, ⟨n, h1⟩, o, rfl⟩ | ⟨rfl, h1, rfl⟩
      · exact W.iret hx hb (hr.trans h1) (fun t ht _ => hq t ht) (fun q hq => hS'.2.2 q hq) hd
      · exact W.zret hx hb (hr.trans h1) (by rcases h2 with rfl | rfl <;> decide) (fun t ht _ => hq t ht) (fun q hq => hS'.2.2 q hq) hd
      · exact W.aret hx hb (hr.trans h1) (Or.inl ⟨n, rfl⟩) (Or.inr ⟨_, rfl⟩) (fun t ht _ => hq t ht) (fun q hq => hS'.2.2 q hq) hd
      · exact W.vret hx hb (hr.trans h1) (fun t ht _ => hq t ht) (fun q hq => hS'.2.2 q hq) hd
    have hB : ∀ b, ck (mC k) (mK k) (mL k) (mR k) (pcs k) (pcs k b) (P k b) = true ∨ P k b = [] := by
      intro b
      by_cases hb : b < nblk k
      · have := List.all_eq_true.mp (hck k hk) b (List.mem_range.mpr hb)
        rw [Bool.or_eq_true] at this
        exact this.imp id (fun h => List.isEmpty_iff.mp h)
      · exact Or.inr (P_out hb (P_len k hk))
    have okR : okLs nO (as ++ List.replicate (mL k - as.length) none) := by
      intro v hv
      rcases List.mem_append.mp hv with hv | hv
      · exact oas v hv
      · rw [(List.mem_replicate.mp hv).2]
        trivial
    have := aw_sound X hC (MS_mono d) (Or.inl rfl) hR hB h okR (fun v hv => by cases hv) ost s.heap [] lsM hP va_S.rf hl
    rw [pcs_0 k hk] at this
    exact this
end MET
