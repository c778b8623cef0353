/-! one instruction of the abstract machine is one of the machine -/
def TB : List Cond := lw_tbl.filter goodWord
theorem tb_sub {j : Nat} {w : Cond} (h : w ∈ tb j) : w ∈ lw_tbl := by
  match j, h with
  | 0, h => exact tb_0 h
  | 1, h => exact tb_1 h
  | 2, h => exact tb_2 h
  | 3, h => exact tb_3 h
  | 4, h => exact tb_4 h
  | 5, h => exact tb_5 h
  | 6, h => exact tb_6 h
  | 7, h => exact tb_7 h
  | 8, h => exact tb_8 h
  | j + 9, h => exact absurd h (by simp [tb])
theorem atq_mem {pos : Nat} {w : Cond} (h : atq pos w = true) : w ∈ lw_tbl := tb_sub (List.mem_of_getElem? (of_decide_eq_true h))
theorem atp_mem {pos : Nat} {w : Cond} (h : atp pos w = true) : w ∈ TB := by
  unfold atp at h
  rw [Bool.and_eq_true] at h
  exact List.mem_filter.mpr ⟨atq_mem h.1, h.2⟩
theorem TB_good : ∀ w ∈ TB, (w.onTables && w.keeps) = true ∨ ∃ ty, w = .arrayClass ty := fun w h => good_of_word (List.mem_filter.mp h).2
theorem code_TB {k : Nat} (h : k < NM) : Cond.code (yN k) (mC k) (mL k) (mR k) ∈ TB := List.mem_filter.mpr ⟨cwA k h, rfl⟩
abbrev Fq := Nat × Nat × Nat × Nat × Nat × Nat
def nw (q : Fq) : Cond := .fieldLinkNest (cN q.1) q.2.1 (cN q.2.2.1) ((cT q.2.2.1) q.2.2.2.1).2.1 ((cT q.2.2.1) q.2.2.2.1).2.2.1 "WordFolder"
def fw (q : Fq) : Cond := .fieldLink (cN q.1) q.2.1 (cN q.2.2.1) ((cT q.2.2.1) q.2.2.2.1).2.1 ((cT q.2.2.1) q.2.2.2.1).2.2.1
def NSt (U : State) : Prop := ∀ q : Fq, q ∈ FL → q.2.2.2.2.1 = 1 → va_Nw (nw q) U
def tyA (cA : Nat → ClassId) : List (ClassId × FieldType) := [(cA 50, .int), (cA 51, .byte), (cA 52, .boolean)]
def Wd (cA : Nat → ClassId) (D : va_G) (U : State) : Prop := va_K D classes (tyA cA) U ∧ NSt U
theorem Wd.warm {cA : Nat → ClassId} {D : va_G} {s U : State} (hW : s.WarmedH U.vm) (h : Wd cA D s) : Wd cA D U := ⟨va_K.moved hW.alike h.1, fun q hq h1 => va_Nw.warmF hW (h.2 q hq h1)⟩
theorem Wd.same {cA : Nat → ClassId} {D : va_G} {u U : State} (hv : u.vm = U.vm) (h : Wd cA D u) : Wd cA D U := ⟨va_K.moved (by rw [hv]; exact Vm.Alike.refl _) h.1, fun q hq h1 => va_Nw.same rfl hv (h.2 q hq h1)⟩
theorem FL_q {q : Fq} (h : q ∈ FL) : (q.2.2.2.2.1 ≠ 1 → fw q ∈ TB) ∧ q.2.2.1 < 13 ∧ q.2.2.2.1 < nf q.2.2.1 ∧ ((cT q.2.2.1) q.2.2.2.1).1 = cN q.2.2.1 := by
  have h1 := List.all_eq_true.mp FL_ok q h
  unfold okF at h1
  simp only [Bool.and_eq_true, decide_eq_true_eq] at h1
  obtain ⟨⟨⟨h1, h2⟩, h3⟩, h4⟩ := h1
  refine ⟨fun hne => ?_, h2, h3, h4⟩
  rw [if_neg hne] at h1
  exact atp_mem h1
theorem ckF_q {c d ci k : Nat} (h : ckF c d ci k = true) : ∃ q : Fq, q ∈ FL ∧ q.1 = c ∧ q.2.1 = d ∧ q.2.2.1 = ci ∧ q.2.2.2.1 = k := by
  obtain ⟨q, hq, h⟩ := List.any_eq_true.mp h
  simp only [Bool.and_eq_true, decide_eq_true_eq] at h
  exact ⟨q, hq, h.1.1.1, h.1.1.2, h.1.2, h.2⟩
theorem ckR_q {c d ci off : Nat} (h : ckR c d ci off = true) : ∃ q : Fq, q ∈ FL ∧ q.1 = c ∧ q.2.1 = d ∧ q.2.2.1 = ci ∧ fk ci q.2.2.2.1 = off := by
  obtain ⟨q, hq, h⟩ := List.any_eq_true.mp h
  simp only [Bool.and_eq_true, decide_eq_true_eq] at h
  exact ⟨q, hq, h.1.1.1, h.1.1.2, h.1.2, h.2⟩
theorem ckM_q {c d k : Nat} (h : ckM c d k = true) : Cond.methodLink (cN c) d (yE k) ∈ TB := by
  obtain ⟨q, hq, h⟩ := List.any_eq_true.mp h
  simp only [Bool.and_eq_true, decide_eq_true_eq] at h
  have h1 := List.all_eq_true.mp ML_ok q hq
  unfold okL at h1
  have h2 := atp_mem h1
  rw [h.1.1, h.1.2, h.2] at h2
  exact h2
theorem ckC_q {c d : Nat} {v : Int} (h : ckC c d v = true) : Cond.constant (cN c) d (oI v) ∈ TB := by
  obtain ⟨q, hq, h⟩ := List.any_eq_true.mp h
  simp only [Bool.and_eq_true, decide_eq_true_eq] at h
  have h1 := List.all_eq_true.mp CL_ok q hq
  unfold okC at h1
  have h2 := atp_mem h1
  rw [h.1.1, h.1.2, h.2] at h2
  exact h2
theorem lay_in {ci : Nat} (h : ci < 13) : ∀ w ∈ u_ws (cN ci) (cT ci) (nf ci), w ∈ TB := by
  intro w hw
  obtain ⟨k, hk, rfl⟩ := List.mem_map.mp hw
  have h1 := okLays ci h
  unfold okLay at h1
  exact atp_mem (List.all_eq_true.mp h1 k hk)
theorem cls_get : ∀ ci, ci < 13 → ci ≠ 10 → classes[ci]? = some (cN ci, cT ci, nf ci) := by
  intro ci h h10
  match ci, h, h10 with
  | 0, _, _ => rfl
  | 1, _, _ => rfl
  | 2, _, _ => rfl
  | 3, _, _ => rfl
  | 4, _, _ => rfl
  | 5, _, _ => rfl
  | 6, _, _ => rfl
  | 7, _, _ => rfl
  | 8, _, _ => rfl
  | 9, _, _ => rfl
  | 10, _, h => exact absurd rfl h
  | 11, _, _ => rfl
  | 12, _, _ => rfl
theorem kl_ne (o : Nat) : kl o ≠ 10 := by
  have h : klL.all (fun x => decide (x ≠ 10)) = true := by decide +kernel
  unfold kl
  rw [List.getD_eq_getElem?_getD]
  cases e : klL[o]? with
  | none => decide
  | some x => exact of_decide_eq_true (List.all_eq_true.mp h x (List.mem_of_getElem? e))
theorem nf_ne {ci k : Nat} (h : k < nf ci) : ci ≠ 10 := fun e => by
  rw [e] at h
  have h : k < 0 := h
  exact absurd h (Nat.not_lt_zero _)
/-- what a walk stands on -/
def Cx (p : Program) (R : Room) (s : State) (m : MethodId) (args : Array Value) (c : Code) (cells slots : Nat) (cc : ByteArray) (nL cls : Nat) (nO : Nat) (ad : Nat → Nat) (cA : Nat → ClassId) (D : va_G) : Prop :=
  p.tables.exec = Jvm.exec ∧ c.code = cc ∧ c.maxLocals = nL ∧ s.vm.findClass (cN cls) = some m.cls ∧ (∀ w ∈ TB, w.before args s = true) ∧ Wd cA D s ∧ inj nO ad ∧ Cl nO ∧ 1 ≤ R.frames ∧ 38 ≤ R.locals ∧ cells ≤ R.cells ∧ slots ≤ R.slots
def Wx (p : Program) (l : Launch) (e : Env) (R : Room) (s : State) (m : MethodId) (args : Array Value) (below : List Frame) (meth : Method) (c : Code) (cells slots : Nat) (QW : State → Prop) (nL : Nat) (nO : Nat) (ad : Nat → Nat) (cA : Nat → ClassId) (D : va_G) (pc : Nat) : Kn := fun ls stk st =>
  okLs nO ls → okLs nO stk → okS st → ∀ (H : Heap) (locs : List Loc) (lsM : Array Slot), va_P D classes (wsO nO ad cA st) H → va_S (A0 nO ad) s.heap H locs → lv_has lsM nL (lvl ad ls) → W p l e R s m args below meth c H locs cells slots QW (F0 m pc lsM (stk.map (ev ad)))
section STP
variable {p : Program} {l : Launch} {e : Env} {R : Room} {s : State} {m : MethodId} {args : Array Value} {below : List Frame} {meth : Method} {c : Code} {cells slots : Nat} {QW : State → Prop} {cc : ByteArray} {nL cls : Nat} {nO : Nat} {ad : Nat → Nat} {cA : Nat → ClassId} {D : va_G} {pc : Nat} {ls stk : List V} {st : St}
theorem isI_q {v : Int} {d : Nat} {i : Instr × Nat} (X : Cx p R s m args c cells slots cc nL cls nO ad cA D) (h : isI v cls d i = true) (hd : decode cc pc = .ok i) (k : Wx p l e R s m args below meth c cells slots QW nL nO ad cA D (pc + i.2) ls (some (.inl v) :: stk) st) : Wx p l e R s m args below meth c cells slots QW nL nO ad cA D pc ls stk st := by
  obtain ⟨hx, hb, hml, hown, hts, hWd, hj, hcl0, -⟩ := X
  unfold isI at h
  simp only [Bool.or_eq_true, Bool.and_eq_true, decide_eq_true_eq] at h
  intro o1 o2 o3 H locs lsM hP hS hl
  have fin : InR v → W p l e R s m args below meth c H locs cells slots QW (F0 m (pc + i.2) lsM (.int (oI v) :: stk.map (ev ad))) := fun hv => k o1 (okLs_cons hv o2) o3 H locs lsM hP hS hl
  rcases h with ((h | h) | h) | h
  · obtain ⟨⟨h, h1⟩, h2⟩ := h
    subst h
    exact lv_iconst hx hb hd rfl (fin ⟨by omega, by omega⟩)
  · obtain ⟨⟨h, h1⟩, h2⟩ := h
    subst h
    refine lv_bipush hx hb hd (v := oI v) ?_ (fin ⟨by omega, by omega⟩)
    apply Int32.toInt_inj.mp
    rw [oI_toInt ⟨by omega, by omega⟩, Int8.toInt_toInt32, Int8.toInt_ofInt]
    exact Int.bmod_eq_of_le (by have e : ((Int8.size : Nat) : Int) = 256 := rfl; rw [e]; omega) (by have e : ((Int8.size : Nat) : Int) = 256 := rfl; rw [e]; omega)
  · obtain ⟨⟨h, h1⟩, h2⟩ := h
    subst h
    refine lv_sipush hx hb hd (v := oI v) ?_ (fin ⟨by omega, by omega⟩)
    apply Int32.toInt_inj.mp
    rw [oI_toInt ⟨by omega, by omega⟩, Int16.toInt_toInt32, Int16.toInt_ofInt]
    exact Int.bmod_eq_of_le (by have e : ((Int16.size : Nat) : Int) = 65536 := rfl; rw [e]; omega) (by have e : ((Int16.size : Nat) : Int) = 65536 := rfl; rw [e]; omega)
  · obtain ⟨⟨⟨h, h3⟩, h1⟩, h2⟩ := h
    rcases h with h | h
    · subst h
      exact lv_ldc hx hb hown (hts _ (ckC_q h3)) hd (fin ⟨h1, h2⟩)
    · subst h
      exact lv_ldcw hx hb hown (hts _ (ckC_q h3)) hd (fin ⟨h1, h2⟩)
theorem f4_val {a : Nat} (h : a < 4) : ((f4 a : Fin 4) : Nat) = a := by
  unfold f4
  show a % 4 = a
  exact Nat.mod_eq_of_lt h
theorem snd_load {a b d : Nat} {i : Instr × Nat} (X : Cx p R s m args c cells slots cc nL cls nO ad cA D) (h : ckI cls nL i 2 a b d = true) (hd : decode cc pc = .ok i) (k : i_load (Wx p l e R s m args below meth c cells slots QW nL nO ad cA D (pc + i.2)) a ls stk st) : Wx p l e R s m args below meth c cells slots QW nL nO ad cA D pc ls stk st := by
  obtain ⟨hx, hb, hml, hown, hts, hWd, hj, hcl0, -⟩ := X
  unfold i_load at k
  split at k
  · rename_i x hg
    intro o1 o2 o3 H locs lsM hP hS hl
    have k := k o1 (okLs_cons (o1 _ (lg_mem hg)) o2) o3 H locs lsM hP hS hl
    have hr := lv_rd ad hl hg
    simp only [ckI, Bool.or_eq_true, Bool.and_eq_true, decide_eq_true_eq] at h
    rcases h with h | ⟨h, h4⟩
    · subst h
      exact lv_iload hx hb hd hr k
    · subst h
      exact lv_iload_n hx hb hd (f4_val h4) hr k
  · exact k.elim
theorem snd_loadR {a b d : Nat} {i : Instr × Nat} (X : Cx p R s m args c cells slots cc nL cls nO ad cA D) (h : ckI cls nL i 37 a b d = true) (hd : decode cc pc = .ok i) (k : i_loadR (Wx p l e R s m args below meth c cells slots QW nL nO ad cA D (pc + i.2)) a ls stk st) : Wx p l e R s m args below meth c cells slots QW nL nO ad cA D pc ls stk st := by
  obtain ⟨hx, hb, hml, hown, hts, hWd, hj, hcl0, -⟩ := X
  unfold i_loadR at k
  split at k
  · rename_i x hg
    intro o1 o2 o3 H locs lsM hP hS hl
    have k := k o1 (okLs_cons (o1 _ (lg_mem hg)) o2) o3 H locs lsM hP hS hl
    have hr := lv_rd ad hl hg
    simp only [ckI, Bool.or_eq_true, Bool.and_eq_true, decide_eq_true_eq] at h
    rcases h with h | ⟨h, h4⟩
    · subst h
      exact lv_aload hx hb hd hr k
    · subst h
      exact lv_aload_n hx hb hd (f4_val h4) hr k
  · exact k.elim
theorem snd_store {a b d : Nat} {i : Instr × Nat} (X : Cx p R s m args c cells slots cc nL cls nO ad cA D) (h : ckI cls nL i 3 a b d = true) (hd : decode cc pc = .ok i) (k : i_store (Wx p l e R s m args below meth c cells slots QW nL nO ad cA D (pc + i.2)) a ls stk st) : Wx p l e R s m args below meth c cells slots QW nL nO ad cA D pc ls stk st := by
  obtain ⟨hx, hb, hml, hown, hts, hWd, hj, hcl0, -⟩ := X
  unfold i_store at k
  split at k
  · rename_i x r
    intro o1 o2 o3 H locs lsM hP hS hl
    have kk : ∀ lsM', lv_has lsM' nL (lvl ad (lp ls a (some (.inl x)))) → _ := fun lsM' hl' => k (okLs_lp o1 (okLs_hd o2)) (okLs_tl o2) o3 H locs lsM' hP hS hl'
    simp only [ckI, Bool.or_eq_true, Bool.and_eq_true, decide_eq_true_eq] at h
    obtain ⟨h | ⟨h, h4⟩, hn⟩ := h
    · subst h
      exact lv_istore hx hb hd hl hn rfl (fun ls' h' => kk ls' (lv_wr ad rfl h'))
    · subst h
      exact lv_istore_n hx hb hd (f4_val h4) hl hn rfl (fun ls' h' => kk ls' (lv_wr ad rfl h'))
  · exact k.elim
theorem snd_storeR {a b d : Nat} {i : Instr × Nat} (X : Cx p R s m args c cells slots cc nL cls nO ad cA D) (h : ckI cls nL i 38 a b d = true) (hd : decode cc pc = .ok i) (k : i_storeR (Wx p l e R s m args below meth c cells slots QW nL nO ad cA D (pc + i.2)) a ls stk st) : Wx p l e R s m args below meth c cells slots QW nL nO ad cA D pc ls stk st := by
  obtain ⟨hx, hb, hml, hown, hts, hWd, hj, hcl0, -⟩ := X
  unfold i_storeR at k
  split at k
  · rename_i x r
    intro o1 o2 o3 H locs lsM hP hS hl
    have kk : ∀ lsM', lv_has lsM' nL (lvl ad (lp ls a (some (.inr x)))) → _ := fun lsM' hl' => k (okLs_lp o1 (okLs_hd o2)) (okLs_tl o2) o3 H locs lsM' hP hS hl'
    simp only [ckI, Bool.or_eq_true, Bool.and_eq_true, decide_eq_true_eq] at h
    obtain ⟨h | ⟨h, h4⟩, hn⟩ := h
    · subst h
      exact lv_astore hx hb hd hl hn rfl (fun ls' h' => kk ls' (lv_wr ad rfl h'))
    · subst h
      exact lv_astore_n hx hb hd (f4_val h4) hl hn rfl (fun ls' h' => kk ls' (lv_wr ad rfl h'))
  · exact k.elim
theorem snd_inc {a : Nat} {n : Int} {i : Instr × Nat} (X : Cx p R s m args c cells slots cc nL cls nO ad cA D) (h : i = (.iinc a n, 3)) (hn : a < nL) (hd : decode cc pc = .ok i) (k : i_inc (Wx p l e R s m args below meth c cells slots QW nL nO ad cA D (pc + i.2)) a n ls stk st) : Wx p l e R s m args below meth c cells slots QW nL nO ad cA D pc ls stk st := by
  obtain ⟨hx, hb, hml, hown, hts, hWd, hj, hcl0, -⟩ := X
  unfold i_inc at k
  split at k
  · rename_i x hg
    subst h
    intro o1 o2 o3 H locs lsM hP hS hl
    have kk : ∀ lsM', lv_has lsM' nL (lvl ad (lp ls a (some (.inl (wr (x + n)))))) → _ := fun lsM' hl' => k (okLs_lp o1 (InR_wr _)) o2 o3 H locs lsM' hP hS hl'
    obtain ⟨j, hj⟩ := List.getElem?_of_mem ((lvl_mem ad (q := (a, ev ad (some (.inl x))))).mpr ⟨_, hg, rfl⟩)
    refine lv_iinc hx hb hd hl hj (v := oI (wr (x + n))) ?_ hn rfl (fun ls' h' => kk ls' (lv_wr ad rfl h'))
    rw [oI_wr]
    unfold oI
    rw [Int32.ofInt_add]
  · exact k.elim
theorem snd_bin {t : Nat} {i : Instr × Nat} {ins : Instr} (X : Cx p R s m args c cells slots cc nL cls nO ad cA D) (hi : i = (ins, 1)) (hd : decode cc pc = .ok i)
    (row : ∀ (x y : Int) (H : Heap) (locs : List Loc) (lsM : Array Slot) (rest : List Value), InR x → InR y → W p l e R s m args below meth c H locs cells slots QW (F0 m (pc + 1) lsM (.int (oI (bop t x y)) :: rest)) → W p l e R s m args below meth c H locs cells slots QW (F0 m pc lsM (.int (oI y) :: .int (oI x) :: rest)))
    (hr : ∀ x y, InR x → InR y → InR (bop t x y)) (k : i_bin (Wx p l e R s m args below meth c cells slots QW nL nO ad cA D (pc + i.2)) t ls stk st) : Wx p l e R s m args below meth c cells slots QW nL nO ad cA D pc ls stk st := by
  unfold i_bin at k
  split at k
  · rename_i y x r
    subst hi
    intro o1 o2 o3 H locs lsM hP hS hl
    have hy : InR y := okLs_hd o2
    have hx : InR x := okLs_hd (okLs_tl o2)
    exact row x y H locs lsM _ hx hy (k o1 (okLs_cons (hr x y hx hy) (okLs_tl (okLs_tl o2))) o3 H locs lsM hP hS hl)
  · exact k.elim
theorem snd_div {t : Nat} {i : Instr × Nat} {ins : Instr} (X : Cx p R s m args c cells slots cc nL cls nO ad cA D) (hi : i = (ins, 1)) (hd : decode cc pc = .ok i)
    (row : ∀ (x y : Int) (H : Heap) (locs : List Loc) (lsM : Array Slot) (rest : List Value), InR x → InR y → ¬ y = 0 → W p l e R s m args below meth c H locs cells slots QW (F0 m (pc + 1) lsM (.int (oI (bop t x y)) :: rest)) → W p l e R s m args below meth c H locs cells slots QW (F0 m pc lsM (.int (oI y) :: .int (oI x) :: rest)))
    (hr : ∀ x y, InR x → InR y → InR (bop t x y)) (k : i_div (Wx p l e R s m args below meth c cells slots QW nL nO ad cA D (pc + i.2)) t ls stk st) : Wx p l e R s m args below meth c cells slots QW nL nO ad cA D pc ls stk st := by
  unfold i_div at k
  split at k
  · rename_i y x r
    subst hi
    intro o1 o2 o3 H locs lsM hP hS hl
    have hy : InR y := okLs_hd o2
    have hx : InR x := okLs_hd (okLs_tl o2)
    exact row x y H locs lsM _ hx hy k.1 (k.2 o1 (okLs_cons (hr x y hx hy) (okLs_tl (okLs_tl o2))) o3 H locs lsM hP hS hl)
  · exact k.elim
theorem InR_bop (t : Nat) (x y : Int) : InR (bop t x y) := by
  unfold bop
  split <;> first | exact InR_wr _ | exact InR_toInt _
theorem snd_bins {t a b d : Nat} {i : Instr × Nat} (ht : t = 17 ∨ t = 18 ∨ t = 19 ∨ t = 22 ∨ t = 23 ∨ t = 24 ∨ t = 25) (X : Cx p R s m args c cells slots cc nL cls nO ad cA D) (h : ckI cls nL i t a b d = true) (hd : decode cc pc = .ok i) (k : i_bin (Wx p l e R s m args below meth c cells slots QW nL nO ad cA D (pc + i.2)) t ls stk st) : Wx p l e R s m args below meth c cells slots QW nL nO ad cA D pc ls stk st := by
  obtain ⟨hx, hb, hml, hown, hts, hWd, hj, hcl0, -⟩ := id X
  rcases ht with rfl | rfl | rfl | rfl | rfl | rfl | rfl <;> simp only [ckI, decide_eq_true_eq] at h <;> subst h
  · exact snd_bin (t := 17) X rfl hd (fun x y H locs lsM rest hx' hy' kk => lv_iadd hx hb hd (by rw [oI_add]; exact kk)) (fun _ _ _ _ => InR_bop _ _ _) k
  · exact snd_bin (t := 18) X rfl hd (fun x y H locs lsM rest hx' hy' kk => lv_isub hx hb hd (by rw [oI_sub]; exact kk)) (fun _ _ _ _ => InR_bop _ _ _) k
  · exact snd_bin (t := 19) X rfl hd (fun x y H locs lsM rest hx' hy' kk => lv_imul hx hb hd (by rw [oI_mul]; exact kk)) (fun _ _ _ _ => InR_bop _ _ _) k
  · exact snd_bin (t := 22) X rfl hd (fun x y H locs lsM rest hx' hy' kk => lv_iand hx hb hd (by have e : oI (bop 22 x y) = oI x &&& oI y := oI_ofToInt _; rw [e] at kk; exact kk)) (fun _ _ _ _ => InR_bop _ _ _) k
  · exact snd_bin (t := 23) X rfl hd (fun x y H locs lsM rest hx' hy' kk => lv_ior hx hb hd (by have e : oI (bop 23 x y) = oI x ||| oI y := oI_ofToInt _; rw [e] at kk; exact kk)) (fun _ _ _ _ => InR_bop _ _ _) k
  · exact snd_bin (t := 24) X rfl hd (fun x y H locs lsM rest hx' hy' kk => lv_ishl hx hb hd (by have e : oI (bop 24 x y) = oI x <<< (oI y &&& 31) := oI_ofToInt _; rw [e] at kk; exact kk)) (fun _ _ _ _ => InR_bop _ _ _) k
  · exact snd_bin (t := 25) X rfl hd (fun x y H locs lsM rest hx' hy' kk => lv_ishr hx hb hd (by have e : oI (bop 25 x y) = oI x >>> (oI y &&& 31) := oI_ofToInt _; rw [e] at kk; exact kk)) (fun _ _ _ _ => InR_bop _ _ _) k
theorem oI_ne0 {y : Int} (hy : InR y) (h : ¬ y = 0) : ¬ oI y = 0 := fun e => h (by rw [← oI_0] at e; exact (oI_inj hy InR_0).mp e)
theorem snd_divs {t a b d : Nat} {i : Instr × Nat} (ht : t = 20 ∨ t = 21) (X : Cx p R s m args c cells slots cc nL cls nO ad cA D) (h : ckI cls nL i t a b d = true) (hd : decode cc pc = .ok i) (k : i_div (Wx p l e R s m args below meth c cells slots QW nL nO ad cA D (pc + i.2)) t ls stk st) : Wx p l e R s m args below meth c cells slots QW nL nO ad cA D pc ls stk st := by
  obtain ⟨hx, hb, hml, hown, hts, hWd, hj, hcl0, -⟩ := id X
  rcases ht with rfl | rfl <;> simp only [ckI, decide_eq_true_eq] at h <;> subst h
  · exact snd_div (t := 20) X rfl hd (fun x y H locs lsM rest hx' hy' h0 kk => lv_idiv hx hb hd (oI_ne0 hy' h0) (by rw [oI_div hx' hy']; exact kk)) (fun _ _ _ _ => InR_bop _ _ _) k
  · exact snd_div (t := 21) X rfl hd (fun x y H locs lsM rest hx' hy' h0 kk => lv_irem hx hb hd (oI_ne0 hy' h0) (by rw [oI_div hx' hy', oI_mul, oI_sub]; exact kk)) (fun _ _ _ _ => InR_bop _ _ _) k
theorem snd_i2b {a b d : Nat} {i : Instr × Nat} (X : Cx p R s m args c cells slots cc nL cls nO ad cA D) (h : ckI cls nL i 26 a b d = true) (hd : decode cc pc = .ok i) (k : i_i2b (Wx p l e R s m args below meth c cells slots QW nL nO ad cA D (pc + i.2)) ls stk st) : Wx p l e R s m args below meth c cells slots QW nL nO ad cA D pc ls stk st := by
  obtain ⟨hx, hb, hml, hown, hts, hWd, hj, hcl0, -⟩ := X
  simp only [ckI, decide_eq_true_eq] at h
  subst h
  unfold i_i2b at k
  split at k
  · intro o1 o2 o3 H locs lsM hP hS hl
    exact lv_i2b hx hb hd (w8_eq _).symm (k o1 (okLs_cons (InR_w8 _) (okLs_tl o2)) o3 H locs lsM hP hS hl)
  · exact k.elim
theorem snd_dup {a b d : Nat} {i : Instr × Nat} (X : Cx p R s m args c cells slots cc nL cls nO ad cA D) (h : ckI cls nL i 27 a b d = true) (hd : decode cc pc = .ok i) (k : i_dup (Wx p l e R s m args below meth c cells slots QW nL nO ad cA D (pc + i.2)) ls stk st) : Wx p l e R s m args below meth c cells slots QW nL nO ad cA D pc ls stk st := by
  obtain ⟨hx, hb, hml, hown, hts, hWd, hj, hcl0, -⟩ := X
  simp only [ckI, decide_eq_true_eq] at h
  subst h
  unfold i_dup at k
  split at k
  · intro o1 o2 o3 H locs lsM hP hS hl
    exact lv_dup hx hb hd (ev_cat ad _) (k o1 (okLs_cons (okLs_hd o2) o2) o3 H locs lsM hP hS hl)
  · exact k.elim
theorem snd_pop {a b d : Nat} {i : Instr × Nat} (X : Cx p R s m args c cells slots cc nL cls nO ad cA D) (h : ckI cls nL i 28 a b d = true) (hd : decode cc pc = .ok i) (k : i_pop (Wx p l e R s m args below meth c cells slots QW nL nO ad cA D (pc + i.2)) ls stk st) : Wx p l e R s m args below meth c cells slots QW nL nO ad cA D pc ls stk st := by
  obtain ⟨hx, hb, hml, hown, hts, hWd, hj, hcl0, -⟩ := X
  simp only [ckI, decide_eq_true_eq] at h
  subst h
  unfold i_pop at k
  split at k
  · intro o1 o2 o3 H locs lsM hP hS hl
    exact lv_pop hx hb hd (ev_cat ad _) (k o1 (okLs_tl o2) o3 H locs lsM hP hS hl)
  · exact k.elim
theorem snd_dup2 {a b d : Nat} {i : Instr × Nat} (X : Cx p R s m args c cells slots cc nL cls nO ad cA D) (h : ckI cls nL i 29 a b d = true) (hd : decode cc pc = .ok i) (k : i_dup2 (Wx p l e R s m args below meth c cells slots QW nL nO ad cA D (pc + i.2)) ls stk st) : Wx p l e R s m args below meth c cells slots QW nL nO ad cA D pc ls stk st := by
  obtain ⟨hx, hb, hml, hown, hts, hWd, hj, hcl0, -⟩ := X
  simp only [ckI, decide_eq_true_eq] at h
  subst h
  unfold i_dup2 at k
  split at k
  · intro o1 o2 o3 H locs lsM hP hS hl
    exact lv_dup2_11 hx hb hd (ev_cat ad _) (ev_cat ad _) (k o1 (okLs_cons (okLs_hd o2) (okLs_cons (okLs_hd (okLs_tl o2)) o2)) o3 H locs lsM hP hS hl)
  · exact k.elim
theorem FL_lnk {q : Fq} (hts : ∀ w ∈ TB, w.before args s = true) (hWd : Wd cA D s) (hq : q ∈ FL) : (fw q).before args s = true ∨ (nw q).before args s = true := by
  by_cases h : q.2.2.2.2.1 = 1
  · exact Or.inr (va_Nw.use rfl (hWd.2 q hq h))
  · exact Or.inl (hts _ ((FL_q hq).1 h))
theorem snd_field {q : Fq} {o d ci k : Nat} {v : Value} {H : Heap} {locs : List Loc} {lsM : Array Slot} {rest : List Value} (X : Cx p R s m args c cells slots cc nL cls nO ad cA D) (hq : q ∈ FL) (e1 : q.1 = cls) (e2 : q.2.1 = d) (e3 : q.2.2.1 = ci) (e4 : q.2.2.2.1 = k) (ho : o < nO) (hk : kl o = ci) (hv : (fvs ad st o)[k]? = some v) (hd : decode cc pc = .ok (.getfield d, 3)) (hP : va_P D classes (wsO nO ad cA st) H)
    (kk : W p l e R s m args below meth c H locs cells slots QW (F0 m (pc + 3) lsM (v :: rest))) : W p l e R s m args below meth c H locs cells slots QW (F0 m pc lsM (.ref (ad o) :: rest)) := by
  obtain ⟨hx, hb, hml, hown, hts, hWd, hj, hcl0, -⟩ := X
  obtain ⟨-, h13, hkn, hdecl⟩ := FL_q hq
  have hL := FL_lnk hts hWd hq
  unfold fw nw at hL
  rw [e1, e2] at hL
  rw [e3, e4] at hL hkn hdecl
  rw [e3] at h13
  have hw : (wsO nO ad cA st)[o]? = some (ad o, .inr (ci, fvs ad st o)) := by rw [wsO_get nO ad cA ho, cel_obj ad cA (by omega), hk]
  have hsame : ∀ x, s.fieldFound? ((cT ci) k).1 ((cT ci) k).2.1 ((cT ci) k).2.2.1 = some x → s.fieldFound? (cN ci) ((cT ci) k).2.1 ((cT ci) k).2.2.1 = some x := fun x hx => by rw [hdecl] at hx; exact hx
  rcases hL with hL | hL
  · exact va_get hx hb hts (lay_in h13) hown hWd.1 hP o hw (cls_get ci h13 (nf_ne hkn)) k hkn hL hsame hv hd kk
  · exact va_getN hx hb hts (lay_in h13) hown hWd.1 hP o hw (cls_get ci h13 (nf_ne hkn)) k hkn hL hsame hv hd kk
theorem snd_get {a b d : Nat} {i : Instr × Nat} (X : Cx p R s m args c cells slots cc nL cls nO ad cA D) (h : ckI cls nL i 6 a b d = true) (hd : decode cc pc = .ok i) (k : i_get (Wx p l e R s m args below meth c cells slots QW nL nO ad cA D (pc + i.2)) a b ls stk st) : Wx p l e R s m args below meth c cells slots QW nL nO ad cA D pc ls stk st := by
  simp only [ckI, Bool.and_eq_true, decide_eq_true_eq] at h
  obtain ⟨⟨h, h1⟩, h2⟩ := h
  subst h
  obtain ⟨q, hq, e1, e2, e3, e4⟩ := ckF_q h1
  have hkn := (FL_q hq).2.2.1
  rw [e3, e4] at hkn
  unfold i_get at k
  split at k
  · rename_i o r
    obtain ⟨hk, k⟩ := k
    intro o1 o2 o3 H locs lsM hP hS hl
    refine snd_field X hq e1 e2 e3 e4 (kl_lt (okLs_hd o2) (by have := (FL_q hq).2.1; omega)) hk (v := .int (oI (st o b))) ?_ hd hP (k o1 (okLs_cons (o3 o b) (okLs_tl o2)) o3 H locs lsM hP hS hl)
    rw [fvs_get ad (by rw [hk]; exact hkn), hk, if_pos h2]
  · exact k.elim
theorem snd_getR {a b d : Nat} {i : Instr × Nat} (X : Cx p R s m args c cells slots cc nL cls nO ad cA D) (h : ckI cls nL i 7 a b d = true) (hd : decode cc pc = .ok i) (k : i_getR (Wx p l e R s m args below meth c cells slots QW nL nO ad cA D (pc + i.2)) a b ls stk st) : Wx p l e R s m args below meth c cells slots QW nL nO ad cA D pc ls stk st := by
  simp only [ckI, Bool.and_eq_true, decide_eq_true_eq] at h
  obtain ⟨⟨h, h1⟩, h2⟩ := h
  subst h
  obtain ⟨q, hq, e1, e2, e3, e4⟩ := ckR_q h1
  have hkn := (FL_q hq).2.2.1
  rw [e3] at hkn
  unfold i_getR at k
  split at k
  · rename_i o r
    obtain ⟨hk, k⟩ := k
    intro o1 o2 o3 H locs lsM hP hS hl
    have ho := kl_lt (okLs_hd o2) (by have := (FL_q hq).2.1; omega)
    have hcl1 := X.2.2.2.2.2.2.2.1 o q.2.2.2.1 ho (by rw [hk]; exact hkn)
    rw [hk, e4] at hcl1
    refine snd_field X hq e1 e2 e3 rfl ho hk (v := .ref (ad (o + b))) ?_ hd hP (k o1 (okLs_cons (Or.inl hcl1) (okLs_tl o2)) o3 H locs lsM hP hS hl)
    rw [fvs_get ad (by rw [hk]; exact hkn), hk, e4, if_neg (by omega)]
  · exact k.elim
theorem snd_putw {q : Fq} {o d ci k : Nat} {v : Int} {ty : FieldType} {H : Heap} {locs : List Loc} {lsM : Array Slot} {rest : List Value} (X : Cx p R s m args c cells slots cc nL cls nO ad cA D) (hq : q ∈ FL) (e1 : q.1 = cls) (e2 : q.2.1 = d) (e3 : q.2.2.1 = ci) (e4 : q.2.2.2.1 = k) (ho : o < nO) (hk : kl o = ci) (hz : fk ci k = 0) (hty : (cTy ci) k = ty) (hnar : narrow ty (.int (oI v)) = .int (oI v)) (hfit : fits ty (.int (oI v)) = true) (hfin : ((cT ci) k).2.2.2 = false) (hd : decode cc pc = .ok (.putfield d, 3)) (hP : va_P D classes (wsO nO ad cA st) H) (hS : va_S (A0 nO ad) s.heap H locs)
    (kk : ∀ (H1 : Heap) (locs1 : List Loc), va_P D classes (wsO nO ad cA (up2 st o k v)) H1 → va_S (A0 nO ad) s.heap H1 locs1 → W p l e R s m args below meth c H1 locs1 cells slots QW (F0 m (pc + 3) lsM rest)) : W p l e R s m args below meth c H locs cells slots QW (F0 m pc lsM (.int (oI v) :: .ref (ad o) :: rest)) := by
  obtain ⟨hx, hb, hml, hown, hts, hWd, hj, hcl0, -⟩ := X
  obtain ⟨-, h13, hkn, hdecl⟩ := FL_q hq
  have hL := FL_lnk hts hWd hq
  unfold fw nw at hL
  rw [e1, e2] at hL
  rw [e3, e4] at hL hkn hdecl
  rw [e3] at h13
  have ho13 : kl o < 13 := by omega
  have hw : (wsO nO ad cA st)[o]? = some (ad o, .inr (ci, fvs ad st o)) := by rw [wsO_get nO ad cA ho, cel_obj ad cA ho13, hk]
  have hsame : ∀ x, s.fieldFound? ((cT ci) k).1 ((cT ci) k).2.1 ((cT ci) k).2.2.1 = some x → s.fieldFound? (cN ci) ((cT ci) k).2.1 ((cT ci) k).2.2.1 = some x := fun x hx => by rw [hdecl] at hx; exact hx
  have hset : (wsO nO ad cA st).set o (ad o, .inr (ci, (fvs ad st o).set k (.int (oI v)))) = wsO nO ad cA (up2 st o k v) := by
    have := wsO_put nO ad cA (st := st) (o := o) (k := k) (v := v) ho13 (by rw [hk]; exact hkn) (by rw [hk]; exact hz)
    rw [hk] at this
    exact this
  have hpd : parseFieldDescriptor ((cT ci) k).2.2.1 = some ty := by rw [tys ci h13 k hkn, hty]
  have kk' : ∀ (H1 : Heap) (locs1 : List Loc), va_P D classes ((wsO nO ad cA st).set o (ad o, .inr (ci, (fvs ad st o).set k (.int (oI v))))) H1 → va_D (A0 nO ad) ((wsO nO ad cA st).set o (ad o, .inr (ci, (fvs ad st o).set k (.int (oI v))))) → va_S (A0 nO ad) s.heap H1 locs1 → W p l e R s m args below meth c H1 locs1 cells slots QW (F0 m (pc + 3) lsM rest) := fun H1 locs1 h1 _ h3 => kk H1 locs1 (by rw [hset] at h1; exact h1) h3
  have hln : k < (fvs ad st o).length := by rw [fvs_len, hk]; exact hkn
  rcases hL with hL | hL
  · exact va_put hx hb hts (lay_in h13) (cTy ci) (tys ci h13) (nms ci h13) hown hWd.1 hP (wsO_D nO ad cA hj) hS o hw (cls_get ci h13 (nf_ne hkn)) k hkn hL hsame hfin hpd hnar hfit hln hd kk'
  · exact va_putN hx hb hts (lay_in h13) (cTy ci) (tys ci h13) (nms ci h13) hown hWd.1 hP (wsO_D nO ad cA hj) hS o hw (cls_get ci h13 (nf_ne hkn)) k hkn hL hsame hfin hpd hnar hfit hln hd kk'
theorem snd_put {a b d : Nat} {i : Instr × Nat} (X : Cx p R s m args c cells slots cc nL cls nO ad cA D) (h : ckI cls nL i 8 a b d = true) (hd : decode cc pc = .ok i) (k : i_put (Wx p l e R s m args below meth c cells slots QW nL nO ad cA D (pc + i.2)) a b ls stk st) : Wx p l e R s m args below meth c cells slots QW nL nO ad cA D pc ls stk st := by
  simp only [ckI, Bool.and_eq_true, decide_eq_true_eq] at h
  obtain ⟨⟨⟨⟨h, h1⟩, h2⟩, h3⟩, h4⟩ := h
  subst h
  obtain ⟨q, hq, e1, e2, e3, e4⟩ := ckF_q h1
  unfold i_put at k
  split at k
  · rename_i v o r
    obtain ⟨hk, k⟩ := k
    intro o1 o2 o3 H locs lsM hP hS hl
    exact snd_putw X hq e1 e2 e3 e4 (kl_lt (okLs_hd (okLs_tl o2)) (by have := (FL_q hq).2.1; omega)) hk h2 h3 rfl rfl h4 hd hP hS (fun H1 locs1 q1 q2 => k o1 (okLs_tl (okLs_tl o2)) (okS_up2 o3 (okLs_hd o2)) H1 locs1 lsM q1 q2 hl)
  · exact k.elim
theorem snd_putZ {a b d : Nat} {i : Instr × Nat} (X : Cx p R s m args c cells slots cc nL cls nO ad cA D) (h : ckI cls nL i 9 a b d = true) (hd : decode cc pc = .ok i) (k : i_putZ (Wx p l e R s m args below meth c cells slots QW nL nO ad cA D (pc + i.2)) a b ls stk st) : Wx p l e R s m args below meth c cells slots QW nL nO ad cA D pc ls stk st := by
  simp only [ckI, Bool.and_eq_true, decide_eq_true_eq] at h
  obtain ⟨⟨⟨⟨h, h1⟩, h2⟩, h3⟩, h4⟩ := h
  subst h
  obtain ⟨q, hq, e1, e2, e3, e4⟩ := ckF_q h1
  unfold i_putZ at k
  split at k
  · rename_i v o r
    obtain ⟨hk, hv, k⟩ := k
    intro o1 o2 o3 H locs lsM hP hS hl
    refine snd_putw X hq e1 e2 e3 e4 (kl_lt (okLs_hd (okLs_tl o2)) (by have := (FL_q hq).2.1; omega)) hk h2 h3 ?_ ?_ h4 hd hP hS (fun H1 locs1 q1 q2 => k o1 (okLs_tl (okLs_tl o2)) (okS_up2 o3 (okLs_hd o2)) H1 locs1 lsM q1 q2 hl)
    · rcases hv with rfl | rfl <;> decide
    · rcases hv with rfl | rfl <;> decide
  · exact k.elim
theorem arr_w {o ty : Nat} (ho : okV nO (some (.inr o))) (hk : kl o = ty) (h13 : ¬ ty < 13) (h99 : ty < 99) : (wsO nO ad cA st)[o]? = some (ad o, .inl (cA ty, len o, .inl (fun i => oI (st o i)))) := by
  rw [wsO_get nO ad cA (kl_lt ho (by omega)), cel_arr ad cA (by omega), hk]
theorem snd_ald {ty a b d t : Nat} {i : Instr × Nat} (ht : (t = 10 ∧ ty = 50) ∨ (t = 11 ∧ ty = 51) ∨ (t = 15 ∧ ty = 52)) (X : Cx p R s m args c cells slots cc nL cls nO ad cA D) (h : ckI cls nL i t a b d = true) (hd : decode cc pc = .ok i) (k : i_ald (Wx p l e R s m args below meth c cells slots QW nL nO ad cA D (pc + i.2)) ty ls stk st) : Wx p l e R s m args below meth c cells slots QW nL nO ad cA D pc ls stk st := by
  obtain ⟨hx, hb, hml, hown, hts, hWd, hj, hcl0, -⟩ := X
  unfold i_ald at k
  split at k
  · rename_i j o r
    obtain ⟨hk, hin, k⟩ := k
    intro o1 o2 o3 H locs lsM hP hS hl
    have hjR : InR j := okLs_hd o2
    have k := k o1 (okLs_cons (o3 _ _) (okLs_tl (okLs_tl o2))) o3 H locs lsM hP hS hl
    have e0 : oI (st o (oI j).toNatClampNeg) = oI (st o j.toNat) := by rw [oI_cl hjR]
    rcases ht with ⟨rfl, rfl⟩ | ⟨rfl, rfl⟩ | ⟨rfl, rfl⟩ <;> simp only [ckI, decide_eq_true_eq] at h <;> subst h
    · exact va_iald hx hb hWd.1 hP o 0 (arr_w (okLs_hd (okLs_tl o2)) hk (by decide) (by decide)) rfl (oI_in hjR hin) hd (by rw [e0]; exact k)
    · exact va_bald hx hb hWd.1 hP o 1 (arr_w (okLs_hd (okLs_tl o2)) hk (by decide) (by decide)) rfl (oI_in hjR hin) hd (by rw [e0]; exact k)
    · exact va_zald hx hb hWd.1 hP o 2 (arr_w (okLs_hd (okLs_tl o2)) hk (by decide) (by decide)) rfl (oI_in hjR hin) hd (by rw [e0]; exact k)
  · exact k.elim
theorem snd_ast {a b d : Nat} {i : Instr × Nat} (X : Cx p R s m args c cells slots cc nL cls nO ad cA D) (h : ckI cls nL i 12 a b d = true) (hd : decode cc pc = .ok i) (k : i_ast (Wx p l e R s m args below meth c cells slots QW nL nO ad cA D (pc + i.2)) ls stk st) : Wx p l e R s m args below meth c cells slots QW nL nO ad cA D pc ls stk st := by
  obtain ⟨hx, hb, hml, hown, hts, hWd, hj, hcl0, -⟩ := X
  simp only [ckI, decide_eq_true_eq] at h
  subst h
  unfold i_ast at k
  split at k
  · rename_i v j o r
    obtain ⟨hk, hin, k⟩ := k
    intro o1 o2 o3 H locs lsM hP hS hl
    have hjR : InR j := okLs_hd (okLs_tl o2)
    refine va_iast hx hb hWd.1 hP (wsO_D nO ad cA hj) hS o 0 (arr_w (okLs_hd (okLs_tl (okLs_tl o2))) hk (by decide) (by decide)) rfl (oI_in hjR hin) hd (fun H1 locs1 q1 _ q3 => ?_)
    have e := wsO_ast nO ad cA (st := st) (o := o) (i := j.toNat) (v := v) (x := oI v) (by omega) rfl
    rw [hk] at e
    rw [oI_cl hjR, e] at q1
    exact k o1 (okLs_tl (okLs_tl (okLs_tl o2))) (okS_up2 o3 (okLs_hd o2)) H1 locs1 lsM q1 q3 hl
  · exact k.elim
theorem snd_astB {a b d : Nat} {i : Instr × Nat} (X : Cx p R s m args c cells slots cc nL cls nO ad cA D) (h : ckI cls nL i 13 a b d = true) (hd : decode cc pc = .ok i) (k : i_astB (Wx p l e R s m args below meth c cells slots QW nL nO ad cA D (pc + i.2)) ls stk st) : Wx p l e R s m args below meth c cells slots QW nL nO ad cA D pc ls stk st := by
  obtain ⟨hx, hb, hml, hown, hts, hWd, hj, hcl0, -⟩ := X
  simp only [ckI, decide_eq_true_eq] at h
  subst h
  unfold i_astB at k
  split at k
  · rename_i v j o r
    obtain ⟨hk, hin, k⟩ := k
    intro o1 o2 o3 H locs lsM hP hS hl
    have hjR : InR j := okLs_hd (okLs_tl o2)
    refine va_bast hx hb hWd.1 hP (wsO_D nO ad cA hj) hS o 1 (arr_w (okLs_hd (okLs_tl (okLs_tl o2))) hk (by decide) (by decide)) rfl (oI_in hjR hin) hd (fun H1 locs1 q1 _ q3 => ?_)
    have e := wsO_ast nO ad cA (st := st) (o := o) (i := j.toNat) (v := w8 v) (x := vp_nar .byte (oI v)) (by omega) (by rw [vp_nar_byte, w8_eq])
    rw [hk] at e
    rw [oI_cl hjR, e] at q1
    exact k o1 (okLs_tl (okLs_tl (okLs_tl o2))) (okS_up2 o3 (InR_w8 v)) H1 locs1 lsM q1 q3 hl
  · exact k.elim
theorem snd_astZ {a b d : Nat} {i : Instr × Nat} (X : Cx p R s m args c cells slots cc nL cls nO ad cA D) (h : ckI cls nL i 14 a b d = true) (hd : decode cc pc = .ok i) (k : i_astZ (Wx p l e R s m args below meth c cells slots QW nL nO ad cA D (pc + i.2)) ls stk st) : Wx p l e R s m args below meth c cells slots QW nL nO ad cA D pc ls stk st := by
  obtain ⟨hx, hb, hml, hown, hts, hWd, hj, hcl0, -⟩ := X
  simp only [ckI, decide_eq_true_eq] at h
  subst h
  unfold i_astZ at k
  split at k
  · rename_i v j o r
    obtain ⟨hk, hin, hv, k⟩ := k
    intro o1 o2 o3 H locs lsM hP hS hl
    have hjR : InR j := okLs_hd (okLs_tl o2)
    refine va_zast hx hb hWd.1 hP (wsO_D nO ad cA hj) hS o 2 (arr_w (okLs_hd (okLs_tl (okLs_tl o2))) hk (by decide) (by decide)) rfl (oI_in hjR hin) hd (fun H1 locs1 q1 _ q3 => ?_)
    have e := wsO_ast nO ad cA (st := st) (o := o) (i := j.toNat) (v := v) (x := vp_nar .boolean (oI v)) (by omega) (by rcases hv with rfl | rfl <;> decide)
    rw [hk] at e
    rw [oI_cl hjR, e] at q1
    exact k o1 (okLs_tl (okLs_tl (okLs_tl o2))) (okS_up2 o3 (okLs_hd o2)) H1 locs1 lsM q1 q3 hl
  · exact k.elim
theorem len_lt {o : Nat} : len o < 50000 := by
  have h : lenL.all (fun x => decide (x < 50000)) = true := by decide +kernel
  unfold len
  rw [List.getD_eq_getElem?_getD]
  cases hq : lenL[o]? with
  | none => exact Nat.lt_of_sub_pos (by decide)
  | some x => exact of_decide_eq_true (List.all_eq_true.mp h x (List.mem_of_getElem? hq))
theorem snd_alen {a b d : Nat} {i : Instr × Nat} (X : Cx p R s m args c cells slots cc nL cls nO ad cA D) (h : ckI cls nL i 16 a b d = true) (hd : decode cc pc = .ok i) (k : i_alen (Wx p l e R s m args below meth c cells slots QW nL nO ad cA D (pc + i.2)) ls stk st) : Wx p l e R s m args below meth c cells slots QW nL nO ad cA D pc ls stk st := by
  obtain ⟨hx, hb, hml, hown, hts, hWd, hj, hcl0, -⟩ := X
  simp only [ckI, decide_eq_true_eq] at h
  subst h
  unfold i_alen at k
  split at k
  · rename_i o r
    obtain ⟨hk, k⟩ := k
    intro o1 o2 o3 H locs lsM hP hS hl
    have hlen := @len_lt o
    have k := k o1 (okLs_cons ⟨by omega, by omega⟩ (okLs_tl o2)) o3 H locs lsM hP hS hl
    have e : Int32.ofNat (len o) = oI (len o : Int) := rfl
    rcases hk with hk | hk | hk
    · exact va_alen hx hb hWd.1 hP o 0 (arr_w (okLs_hd o2) hk (by decide) (by decide)) rfl (v := oI (len o : Int)) e hd k
    · exact va_alen hx hb hWd.1 hP o 1 (arr_w (okLs_hd o2) hk (by decide) (by decide)) rfl (v := oI (len o : Int)) e hd k
    · exact va_alen hx hb hWd.1 hP o 2 (arr_w (okLs_hd o2) hk (by decide) (by decide)) rfl (v := oI (len o : Int)) e hd k
  · exact k.elim
end STP
