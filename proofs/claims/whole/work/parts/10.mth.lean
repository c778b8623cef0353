/-! whole blocks and methods -/
def retOK (rt : Option FieldType) (ins : Instr) (v : V) : Prop := (ins = .ireturn ∧ rt = some .int ∧ ∃ x, v = some (.inl x)) ∨ (ins = .ireturn ∧ rt = some .boolean ∧ ∃ x, ok01 x ∧ v = some (.inl x)) ∨ (ins = .areturn ∧ (∃ n, rt = some (.object n)) ∧ ∃ o, v = some (.inr o)) ∨ (ins = .return_ ∧ rt = none ∧ v = none)
section MTH
variable {p : Program} {l : Launch} {e : Env} {R : Room} {s : State} {m : MethodId} {args : Array Value} {below : List Frame} {meth : Method} {c : Code} {cells slots : Nat} {QW : State → Prop} {cc : ByteArray} {nL cls : Nat} {nO : Nat} {ad : Nat → Nat} {cA : Nat → ClassId} {D : va_G} {pc : Nat} {ls stk : List V} {st : St} {rmD : Room} {C : Cn} {L : Nat} {sx : Nat → Int} {rt : Option FieldType} {K : Nat → Kn} {Rr : Rn} {q : Nat → Nat}
/-- a return with what is due is the walk's end -/
def RT (p : Program) (l : Launch) (e : Env) (R : Room) (s : State) (m : MethodId) (args : Array Value) (below : List Frame) (meth : Method) (c : Code) (cells slots : Nat) (QW : State → Prop) (cc : ByteArray) (nO : Nat) (ad : Nat → Nat) (cA : Nat → ClassId) (D : va_G) (rt : Option FieldType) (Rr : Rn) : Prop :=
  ∀ (v : V) (st : St) (ins : Instr) (pc : Nat) (H : Heap) (locs : List Loc) (lsM : Array Slot), Rr v st → okV nO v → okS st → va_P D classes (wsO nO ad cA st) H → va_S (A0 nO ad) s.heap H locs → decode cc pc = .ok (ins, 1) → retOK rt ins v → W p l e R s m args below meth c H locs cells slots QW (F0 m pc lsM (evr ad v).toList)
theorem snd_sw {a b : Nat} {r : List Ai} {i : Instr × Nat} {x : Int} {rr : List V} (X : Cx p R s m args c cells slots cc nL cls nO ad cA D) (hJ : ∀ b ls stk st, K b ls stk st → Wx p l e R s m args below meth c cells slots QW nL nO ad cA D (q b) ls stk st) (h : ckT rt q pc i 68 a b r = true) (hd : decode cc pc = .ok i) (k : t_sw K x a ls rr st r) : Wx p l e R s m args below meth c cells slots QW nL nO ad cA D pc ls (some (.inl x) :: rr) st := by
  obtain ⟨hx, hb, hml, hown, hts, hWd, hj, hcl0, -⟩ := id X
  intro o1 o2 o3 H locs lsM hP hS hl
  have hxR : InR x := okLs_hd o2
  simp only [ckT] at h
  split at h
  · rename_i df lo hi offs ln
    simp only [Bool.and_eq_true, decide_eq_true_eq, ckJ] at h
    obtain ⟨⟨h1, h2⟩, h3⟩ := h
    obtain ⟨i1, i2, i3⟩ := sw_tab r offs.toList lo x K a ls rr st h2 k
    by_cases hin : ¬ x < lo ∧ x < lo + r.length
    · obtain ⟨off, tgt, j1, j2, j3⟩ := i2 hin
      refine lv_tableIn hx hb hd (x := oI x) (by rw [oI_toInt hxR]; exact hin.1) (by rw [oI_toInt hxR]; omega) (off := off) ?_ j2 (hJ _ _ _ _ j3 o1 (okLs_tl o2) o3 H locs lsM hP hS hl)
      rw [oI_toInt hxR, ← Array.getElem?_toList]
      exact j1
    · refine lv_tableOut hx hb hd (x := oI x) (by rw [oI_toInt hxR]; omega) h1 (hJ _ _ _ _ (i3 (by omega)) o1 (okLs_tl o2) o3 H locs lsM hP hS hl)
  · rename_i df ps ln
    simp only [Bool.and_eq_true, decide_eq_true_eq, ckJ] at h
    obtain ⟨⟨h1, h2⟩, h3⟩ := h
    have k' : t_sw K (oI x).toInt a ls rr st r := by rw [oI_toInt hxR]; exact k
    obtain ⟨tgt, j2, j3⟩ := sw_look h1 r ps.toList (oI x) K ls rr st h2 k'
    exact lv_lookup hx hb hd h3 rfl j2 (hJ _ _ _ _ j3 o1 (okLs_tl o2) o3 H locs lsM hP hS hl)
  · cases h
theorem tm_sound {t a b : Nat} {r : List Ai} {i : Instr × Nat} (X : Cx p R s m args c cells slots cc nL cls nO ad cA D) (hJ : ∀ b ls stk st, K b ls stk st → Wx p l e R s m args below meth c cells slots QW nL nO ad cA D (q b) ls stk st) (hR : RT p l e R s m args below meth c cells slots QW cc nO ad cA D rt Rr) (h : ckT rt q pc i t a b r = true) (hd : decode cc pc = .ok i) (k : tm K Rr t a b r ls stk st) : Wx p l e R s m args below meth c cells slots QW nL nO ad cA D pc ls stk st := by
  obtain ⟨hx, hb, hml, hown, hts, hWd, hj, hcl0, -⟩ := id X
  have cmp : ∀ t', t' < 6 → (match i with | (.if_icmp op off, 3) => decide (op = cOp t') && ckJ q pc off a && decide (q b = pc + 3) | _ => false) = true → t_cmp K t' a b ls stk st → Wx p l e R s m args below meth c cells slots QW nL nO ad cA D pc ls stk st := by
    intro t' ht h k
    split at h
    · rename_i op off
      simp only [Bool.and_eq_true, decide_eq_true_eq, ckJ] at h
      obtain ⟨⟨h1, h2⟩, h3⟩ := h
      subst h1
      unfold t_cmp at k
      split at k
      · exact snd_icmp X ht hd h2 h3 (fun z => hJ _ _ _ _ (k.1 z)) (fun z => hJ _ _ _ _ (k.2 z))
      · exact k.elim
    · cases h
  have cif : ∀ t', t' < 6 → (match i with | (.ifCond op off, 3) => decide (op = cOp t') && ckJ q pc off a && decide (q b = pc + 3) | _ => false) = true → t_if K t' a b ls stk st → Wx p l e R s m args below meth c cells slots QW nL nO ad cA D pc ls stk st := by
    intro t' ht h k
    split at h
    · rename_i op off
      simp only [Bool.and_eq_true, decide_eq_true_eq, ckJ] at h
      obtain ⟨⟨h1, h2⟩, h3⟩ := h
      subst h1
      unfold t_if at k
      split at k
      · exact snd_if X ht hd h2 h3 (fun z => hJ _ _ _ _ (k.1 z)) (fun z => hJ _ _ _ _ (k.2 z))
      · exact k.elim
    · cases h
  have ht : 51 ≤ t ∧ t ≤ 68 := by
    unfold ckT at h
    split at h <;> first | omega | (split at h <;> first | omega | (split at h <;> first | omega | cases h))
  obtain ⟨u, rfl⟩ : ∃ u, t = u + 51 := ⟨t - 51, by omega⟩
  have hu : u < 18 := by omega
  clear ht
  match u, hu, h, k with
  | 0, _, h, k =>
    have h : ckT rt q pc i 51 a b r = true := h
    have k : K a ls stk st := k
    simp only [ckT] at h
    split at h
    · rename_i off
      intro o1 o2 o3 H locs lsM hP hS hl
      exact lv_goto hx hb hd (of_decide_eq_true h) (hJ _ _ _ _ k o1 o2 o3 H locs lsM hP hS hl)
    · cases h
  | 1, _, h, k => exact cmp 0 (by decide) h k
  | 2, _, h, k => exact cmp 1 (by decide) h k
  | 3, _, h, k => exact cmp 2 (by decide) h k
  | 4, _, h, k => exact cmp 3 (by decide) h k
  | 5, _, h, k => exact cmp 4 (by decide) h k
  | 6, _, h, k => exact cmp 5 (by decide) h k
  | 7, _, h, k => exact cif 0 (by decide) h k
  | 8, _, h, k => exact cif 1 (by decide) h k
  | 9, _, h, k => exact cif 2 (by decide) h k
  | 10, _, h, k => exact cif 3 (by decide) h k
  | 11, _, h, k => exact cif 4 (by decide) h k
  | 12, _, h, k => exact cif 5 (by decide) h k
  | 13, _, h, k =>
    have h : ckT rt q pc i 64 a b r = true := h
    have k : tm K Rr 64 a b r ls stk st := k
    simp only [tm] at k
    simp only [ckT, Bool.and_eq_true, decide_eq_true_eq] at h
    obtain ⟨h, h1⟩ := h
    subst h
    split at k
    · rename_i x
      intro o1 o2 o3 H locs lsM hP hS hl
      exact hR _ _ _ _ H locs lsM k (okLs_hd o2) o3 hP hS hd (Or.inl ⟨rfl, h1, _, rfl⟩)
    · exact k.elim
  | 14, _, h, k =>
    have h : ckT rt q pc i 65 a b r = true := h
    have k : tm K Rr 65 a b r ls stk st := k
    simp only [tm] at k
    simp only [ckT, Bool.and_eq_true, decide_eq_true_eq] at h
    obtain ⟨h, h1⟩ := h
    subst h
    split at k
    · rename_i x
      intro o1 o2 o3 H locs lsM hP hS hl
      exact hR _ _ _ _ H locs lsM k.2 (okLs_hd o2) o3 hP hS hd (Or.inr (Or.inl ⟨rfl, h1, _, k.1, rfl⟩))
    · exact k.elim
  | 15, _, h, k =>
    have h : ckT rt q pc i 66 a b r = true := h
    have k : tm K Rr 66 a b r ls stk st := k
    simp only [tm] at k
    simp only [ckT, Bool.and_eq_true, decide_eq_true_eq] at h
    obtain ⟨h, h1⟩ := h
    subst h
    split at k
    · rename_i x
      intro o1 o2 o3 H locs lsM hP hS hl
      refine hR _ _ _ _ H locs lsM k (okLs_hd o2) o3 hP hS hd (Or.inr (Or.inr (Or.inl ⟨rfl, ?_, _, rfl⟩)))
      split at h1
      · exact ⟨_, rfl⟩
      · cases h1
    · exact k.elim
  | 16, _, h, k =>
    have h : ckT rt q pc i 67 a b r = true := h
    have k : tm K Rr 67 a b r ls stk st := k
    simp only [tm] at k
    simp only [ckT, Bool.and_eq_true, decide_eq_true_eq] at h
    obtain ⟨h, h1⟩ := h
    subst h
    split at k
    · intro o1 o2 o3 H locs lsM hP hS hl
      exact hR _ _ _ _ H locs lsM k trivial o3 hP hS hd (Or.inr (Or.inr (Or.inr ⟨rfl, h1, rfl⟩)))
    · exact k.elim
  | 17, _, h, k =>
    match stk, k with
    | some (.inl x) :: rr, k => exact snd_sw X hJ h hd k
    | [], k => exact False.elim k
    | none :: _, k => exact False.elim k
    | some (.inr _) :: _, k => exact False.elim k

theorem ex_sound (X : Cx p R s m args c cells slots cc nL cls nO ad cA D) (hC : CS l R nO ad cA D rmD C) (hm : Cm C) (hX : SX s nO ad L sx) (hJ : ∀ b ls stk st, K b ls stk st → Wx p l e R s m args below meth c cells slots QW nL nO ad cA D (q b) ls stk st) (hR : RT p l e R s m args below meth c cells slots QW cc nO ad cA D rt Rr) : ∀ (is : List Ai) (pc : Nat) (ls stk : List V) (st : St), ck cc cls nL rt q pc is = true → ex K Rr C L sx is ls stk st → Wx p l e R s m args below meth c cells slots QW nL nO ad cA D pc ls stk st
  | [], _, _, _, _, _, k => k.elim
  | (t, a, b, d) :: r, pc, ls, stk, st, h, k => by
    unfold ck at h
    unfold ex at k
    by_cases h50 : t = 50
    · rw [if_pos h50, decide_eq_true_eq] at h
      rw [if_neg (by omega)] at k
      subst h50
      have k : K a ls stk st := k
      rw [← h]
      exact hJ _ _ _ _ k
    · rw [if_neg h50] at h
      split at h
      · rename_i i hd
        by_cases ht : t < 50
        · rw [if_pos ht, Bool.and_eq_true] at h
          rw [if_pos ht] at k
          exact s1_sound X hC hX h.1 hd (s1_mono hm (fun ls stk st hk => ex_sound X hC hm hX hJ hR r (pc + i.2) ls stk st h.2 hk) _ _ _ _ _ _ k)
        · rw [if_neg ht] at h k
          exact tm_sound X hJ hR h hd k
      · cases h
end MTH
