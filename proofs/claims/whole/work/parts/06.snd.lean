/-! the abstract machine's values as the machine's; the cells as a world -/
def InR (x : Int) : Prop := -2147483648 ≤ x ∧ x ≤ 2147483647
def okV (nO : Nat) (v : V) : Prop := match v with
  | some (.inl x) => InR x
  | some (.inr k) => k < nO ∨ k = 500
  | none => True
def okLs (nO : Nat) (l : List V) : Prop := ∀ v ∈ l, okV nO v
def okS (st : St) : Prop := ∀ k i, InR (st k i)
def oI (x : Int) : Int32 := Int32.ofInt x
theorem oI_toInt {x : Int} (h : InR x) : (oI x).toInt = x := by
  unfold oI
  rw [Int32.toInt_ofInt]
  have h1 := h.1
  have h2 := h.2
  have e : ((Int32.size : Nat) : Int) = 4294967296 := rfl
  exact Int.bmod_eq_of_le (by rw [e]; omega) (by rw [e]; omega)
theorem oI_wr (x : Int) : oI (wr x) = oI x := by
  apply Int32.toInt_inj.mp
  unfold oI wr
  rw [Int32.toInt_ofInt, Int32.toInt_ofInt]
  exact Int.bmod_bmod
theorem InR_toInt (x : Int32) : InR x.toInt := ⟨by have := Int32.le_toInt x; omega, by have := Int32.toInt_lt x; omega⟩
theorem InR_wr (x : Int) : InR (wr x) := by
  have h : (oI x).toInt = wr x := by unfold oI wr; rw [Int32.toInt_ofInt]
  rw [← h]
  exact InR_toInt _
theorem oI_ofToInt (x : Int32) : oI x.toInt = x := by unfold oI; exact Int32.ofInt_toInt x
theorem oI_add (x y : Int) : oI x + oI y = oI (wr (x + y)) := by rw [oI_wr]; unfold oI; rw [Int32.ofInt_add]
theorem oI_sub (x y : Int) : oI x - oI y = oI (wr (x - y)) := by rw [oI_wr]; unfold oI; rw [Int32.ofInt_sub]
theorem oI_mul (x y : Int) : oI x * oI y = oI (wr (x * y)) := by rw [oI_wr]; unfold oI; rw [Int32.ofInt_mul]
theorem oI_div {x y : Int} (hx : InR x) (hy : InR y) : oI x / oI y = oI (wr (x.tdiv y)) := by
  apply Int32.toInt_inj.mp
  rw [Int32.toInt_div, oI_toInt hx, oI_toInt hy]
  unfold oI
  rw [Int32.toInt_ofInt]
  unfold wr
  rw [Int.bmod_bmod]
theorem oI_inj {x y : Int} (hx : InR x) (hy : InR y) : oI x = oI y ↔ x = y := ⟨fun h => by rw [← oI_toInt hx, ← oI_toInt hy, h], fun h => by rw [h]⟩
theorem oI_le {x y : Int} (hx : InR x) (hy : InR y) : oI x ≤ oI y ↔ x ≤ y := by rw [Int32.le_iff_toInt_le, oI_toInt hx, oI_toInt hy]
theorem oI_lt {x y : Int} (hx : InR x) (hy : InR y) : oI x < oI y ↔ x < y := by rw [Int32.lt_iff_toInt_lt, oI_toInt hx, oI_toInt hy]
theorem InR_0 : InR 0 := ⟨by decide, by decide⟩
theorem oI_0 : oI 0 = 0 := by decide
theorem oI_cl {x : Int} (hx : InR x) : (oI x).toNatClampNeg = x.toNat := by
  unfold Int32.toNatClampNeg
  rw [oI_toInt hx]
theorem oI_in {x : Int} {n : Nat} (hx : InR x) (h : 0 ≤ x ∧ x < n) : vp_in (oI x) n := by
  rw [vp_in_iff, oI_toInt hx]
  exact h
theorem InR_ok01 {x : Int} (h : ok01 x) : InR x := by
  rcases h with rfl | rfl
  · exact InR_0
  · exact ⟨by decide, by decide⟩
theorem w8_eq (x : Int) : oI (w8 x) = (oI x).toInt8.toInt32 := by
  apply Int32.toInt_inj.mp
  have h1 : InR (w8 x) := by
    unfold w8
    have a1 := Int.bmod_lt (x := x) (m := 256) (by decide)
    have a2 := Int.le_bmod (x := x) (m := 256) (by decide)
    exact ⟨by omega, by omega⟩
  rw [oI_toInt h1, Int8.toInt_toInt32, Int32.toInt_toInt8]
  unfold oI w8
  rw [Int32.toInt_ofInt]
  exact (Int.bmod_bmod_of_dvd (by decide)).symm
theorem InR_w8 (x : Int) : InR (w8 x) := by
  unfold w8
  have a1 := Int.bmod_lt (x := x) (m := 256) (by decide)
  have a2 := Int.le_bmod (x := x) (m := 256) (by decide)
  exact ⟨by omega, by omega⟩
theorem kl_500 : kl 500 = 99 := by decide +kernel
theorem kl_lt {nO o : Nat} (hv : okV nO (some (.inr o))) (h : kl o < 99) : o < nO := by
  rcases hv with hv | hv
  · exact hv
  · rw [hv, kl_500] at h
    exact absurd h (by decide)
/-- the cells up to nO hold references to such alone -/
def Cl (nO : Nat) : Prop := ∀ o k, o < nO → k < nf (kl o) → o + fk (kl o) k < nO
theorem Cl_of {nO : Nat} (h : (List.range nO).all (fun o => (List.range (nf (kl o))).all (fun k => decide (o + fk (kl o) k < nO))) = true) : Cl nO := fun o k ho hk => of_decide_eq_true (List.all_eq_true.mp (List.all_eq_true.mp h o (List.mem_range.mpr ho)) k (List.mem_range.mpr hk))
theorem Cl_99 : Cl 99 := Cl_of (by decide +kernel)
theorem Cl_146 : Cl 146 := Cl_of (by decide +kernel)
/-! the locals -/
theorem lg_lt : ∀ {ls : List V} {a : Nat} {v : Int ⊕ Nat}, lg ls a = some v → a < ls.length
  | [], _, _, h => by cases h
  | _ :: _, 0, _, _ => Nat.succ_pos _
  | _ :: l, n + 1, _, h => Nat.succ_lt_succ (lg_lt (ls := l) h)
theorem lg_mem : ∀ {ls : List V} {a : Nat} {v : Int ⊕ Nat}, lg ls a = some v → some v ∈ ls
  | [], _, _, h => by cases h
  | w :: _, 0, _, h => by
    have : w = some _ := h
    rw [this]
    exact List.mem_cons_self
  | _ :: l, n + 1, _, h => List.mem_cons_of_mem _ (lg_mem (ls := l) h)
theorem lp_self : ∀ {ls : List V} {a : Nat} (v : V), a < ls.length → lg (lp ls a v) a = v
  | [], _, _, h => absurd h (Nat.not_lt_zero _)
  | _ :: _, 0, _, _ => rfl
  | _ :: l, n + 1, v, h => lp_self (ls := l) v (Nat.lt_of_succ_lt_succ h)
theorem lp_ne : ∀ {ls : List V} {a j : Nat} (v : V), j ≠ a → lg (lp ls a v) j = lg ls j
  | [], _, _, _, _ => rfl
  | _ :: _, 0, 0, _, h => absurd rfl h
  | _ :: _, 0, _ + 1, _, _ => rfl
  | _ :: _, _ + 1, 0, _, _ => rfl
  | _ :: l, n + 1, j + 1, v, h => lp_ne (ls := l) v (fun e => h (by rw [e]))
theorem lp_len : ∀ {ls : List V} {a : Nat} (v : V), (lp ls a v).length = ls.length
  | [], _, _ => rfl
  | _ :: _, 0, _ => rfl
  | _ :: l, n + 1, v => congrArg (· + 1) (lp_len (ls := l) (a := n) v)
theorem lp_mem : ∀ {ls : List V} {a : Nat} {v w : V}, w ∈ lp ls a v → w = v ∨ w ∈ ls
  | [], _, _, _, h => by cases h
  | _ :: _, 0, _, _, h => (List.mem_cons.mp h).imp id (List.mem_cons_of_mem _)
  | b :: l, n + 1, v, w, h => by
    rcases List.mem_cons.mp h with h | h
    · exact Or.inr (by rw [h]; exact List.mem_cons_self)
    · exact (lp_mem (ls := l) h).imp id (List.mem_cons_of_mem _)
theorem okLs_lp {nO : Nat} {ls : List V} {a : Nat} {v : V} (h : okLs nO ls) (hv : okV nO v) : okLs nO (lp ls a v) := by
  intro w hw
  rcases lp_mem hw with rfl | hw
  · exact hv
  · exact h w hw
theorem okLs_cons {nO : Nat} {v : V} {l : List V} (hv : okV nO v) (h : okLs nO l) : okLs nO (v :: l) := by
  intro w hw
  rcases List.mem_cons.mp hw with rfl | hw
  · exact hv
  · exact h w hw
theorem okLs_tl {nO : Nat} {v : V} {l : List V} (h : okLs nO (v :: l)) : okLs nO l := fun w hw => h w (List.mem_cons_of_mem _ hw)
theorem okLs_hd {nO : Nat} {v : V} {l : List V} (h : okLs nO (v :: l)) : okV nO v := h v List.mem_cons_self
section SND
variable (nO : Nat) (ad : Nat → Nat) (cA : Nat → ClassId)
def ev (v : V) : Value := match v with
  | some (.inl x) => .int (oI x)
  | some (.inr k) => .ref (ad k)
  | none => .null
def evr (v : V) : Option Value := match v with
  | some x => some (ev ad (some x))
  | none => none
theorem ev_cat (v : V) : (ev ad v).category = 1 := by
  match v with
  | some (.inl x) => rfl
  | some (.inr k) => rfl
  | none => rfl
def lvl (ls : List V) : List (Nat × Value) := (List.range ls.length).filterMap (fun i => match lg ls i with
  | some v => some (i, ev ad (some v))
  | none => none)
theorem lvl_mem {ls : List V} {q : Nat × Value} : q ∈ lvl ad ls ↔ ∃ v, lg ls q.1 = some v ∧ q.2 = ev ad (some v) := by
  constructor
  · intro h
    obtain ⟨i, -, hi⟩ := List.mem_filterMap.mp h
    split at hi
    · rename_i v hv
      cases hi
      exact ⟨v, hv, rfl⟩
    · cases hi
  · rintro ⟨v, hv, he⟩
    refine List.mem_filterMap.mpr ⟨q.1, List.mem_range.mpr (lg_lt hv), ?_⟩
    rw [hv]
    show some (q.1, ev ad (some v)) = some q
    rw [← he]
theorem lv_rd {ls : List V} {lsM : Array Slot} {nL a : Nat} {v : Int ⊕ Nat} (h : lv_has lsM nL (lvl ad ls)) (hg : lg ls a = some v) : lsM[a]? = some (.val (ev ad (some v))) := h.2.2 (a, _) ((lvl_mem ad).mpr ⟨v, hg, rfl⟩)
theorem lv_wr {ls : List V} {ls' : Array Slot} {nL a : Nat} {v : Int ⊕ Nat} {x : Value} (hx : x = ev ad (some v)) (h : lv_has ls' nL ((a, x) :: (lvl ad ls).filter (fun q => !(q.1 == a) && !(q.1 + 1 == a && q.2.category == 2)))) : lv_has ls' nL (lvl ad (lp ls a (some v))) := by
  subst hx
  refine ⟨h.1, h.2.1, fun q hq => ?_⟩
  obtain ⟨w, hw, he⟩ := (lvl_mem ad).mp hq
  apply h.2.2
  by_cases hqa : q.1 = a
  · have hl : a < ls.length := by
      have := lg_lt hw
      rw [lp_len] at this
      omega
    rw [hqa, lp_self _ hl] at hw
    cases hw
    rw [show q = (a, ev ad (some v)) from Prod.ext hqa he]
    exact List.mem_cons_self
  · rw [lp_ne _ hqa] at hw
    refine List.mem_cons_of_mem _ (List.mem_filter.mpr ⟨(lvl_mem ad).mpr ⟨w, hw, he⟩, ?_⟩)
    have hc : q.2.category = 1 := by rw [he]; exact ev_cat ad _
    simp [hqa, hc]
theorem lvl_entry {as : List V} {n nL : Nat} (h : ∀ v ∈ as, ∃ x, v = some x) {lsM : Array Slot} (hl : lv_has lsM nL (lv_args 0 (as.map (ev ad)))) (hargs : ∀ (i : Nat) (x : Int ⊕ Nat), as[i]? = some (some x) → (i, ev ad (some x)) ∈ lv_args 0 (as.map (ev ad))) : lv_has lsM nL (lvl ad (as ++ List.replicate n none)) := by
  refine ⟨hl.1, hl.2.1, fun q hq => ?_⟩
  obtain ⟨w, hw, he⟩ := (lvl_mem ad).mp hq
  apply hl.2.2
  have key : ∀ (l : List V) (i : Nat) (w : Int ⊕ Nat), lg (l ++ List.replicate n none) i = some w → l[i]? = some (some w) := by
    intro l
    induction l with
    | nil =>
      intro i w h
      exfalso
      have : ∀ (m i : Nat), lg (List.replicate m (none : V)) i = none := by
        intro m
        induction m with
        | zero => intro i; rfl
        | succ m ih => intro i; cases i with
          | zero => rfl
          | succ i => exact ih i
      rw [List.nil_append, this] at h
      cases h
    | cons b l ih =>
      intro i w h
      cases i with
      | zero =>
        have : b = some w := h
        rw [this]
        rfl
      | succ i => exact ih i w h
  have h2 := hargs q.1 w (key as q.1 w hw)
  rw [show q = (q.1, ev ad (some w)) from Prod.ext rfl he]
  exact h2
/-! the cells -/
def fvs (st : St) (k : Nat) : List Value := (List.range (nf (kl k))).map (fun j => if fk (kl k) j = 0 then .int (oI (st k j)) else .ref (ad (k + fk (kl k) j)))
def cel (st : St) (k : Nat) : va_E := if kl k < 13 then .inr (kl k, fvs ad st k) else .inl (cA (kl k), len k, .inl (fun i => oI (st k i)))
def wsO (st : St) : va_W := (List.range nO).map (fun k => (ad k, cel ad cA st k))
theorem wsO_get {st : St} {k : Nat} (h : k < nO) : (wsO nO ad cA st)[k]? = some (ad k, cel ad cA st k) := by
  unfold wsO
  rw [List.getElem?_map, List.getElem?_range h]
  rfl
theorem cel_congr {st st' : St} {k : Nat} (h : st' k = st k) : cel ad cA st' k = cel ad cA st k := by
  unfold cel fvs
  rw [h]
theorem wsO_set {st st' : St} {o : Nat} (h : ∀ k, k ≠ o → st' k = st k) : wsO nO ad cA st' = (wsO nO ad cA st).set o (ad o, cel ad cA st' o) := by
  apply List.ext_getElem?
  intro i
  by_cases hi : i < nO
  · rw [wsO_get nO ad cA hi]
    by_cases ho : o = i
    · subst ho
      rw [List.getElem?_set_self (by unfold wsO; simpa using hi)]
    · rw [List.getElem?_set_ne ho, wsO_get nO ad cA hi, cel_congr ad cA (h i (fun e => ho e.symm))]
  · have h1 : (wsO nO ad cA st').length ≤ i := by unfold wsO; simpa using hi
    have h2 : ((wsO nO ad cA st).set o (ad o, cel ad cA st' o)).length ≤ i := by rw [List.length_set]; unfold wsO; simpa using hi
    rw [List.getElem?_eq_none h1, List.getElem?_eq_none h2]
theorem up2_ne {st : St} {o i k : Nat} {v : Int} (h : k ≠ o) : up2 st o i v k = st k := by unfold up2; rw [if_neg h]
theorem up2_self {st : St} {o i : Nat} {v : Int} : up2 st o i v o = upf (st o) i v := by unfold up2; rw [if_pos rfl]
theorem up1_ne {st : St} {o k : Nat} {f : Nat → Int} (h : k ≠ o) : up1 st o f k = st k := by unfold up1; rw [if_neg h]
theorem up1_self {st : St} {o : Nat} {f : Nat → Int} : up1 st o f o = f := by unfold up1; rw [if_pos rfl]
theorem okS_up2 {st : St} {o i : Nat} {v : Int} (h : okS st) (hv : InR v) : okS (up2 st o i v) := by
  intro k j
  unfold up2
  split
  · unfold upf
    split
    · exact hv
    · exact h _ _
  · exact h _ _
theorem cel_obj {st : St} {o : Nat} (h : kl o < 13) : cel ad cA st o = .inr (kl o, fvs ad st o) := by unfold cel; rw [if_pos h]
theorem cel_arr {st : St} {o : Nat} (h : ¬ kl o < 13) : cel ad cA st o = .inl (cA (kl o), len o, .inl (fun i => oI (st o i))) := by unfold cel; rw [if_neg h]
theorem fvs_get {st : St} {o k : Nat} (hk : k < nf (kl o)) : (fvs ad st o)[k]? = some (if fk (kl o) k = 0 then .int (oI (st o k)) else .ref (ad (o + fk (kl o) k))) := by
  unfold fvs
  rw [List.getElem?_map, List.getElem?_range hk]
  rfl
theorem fvs_len {st : St} {o : Nat} : (fvs ad st o).length = nf (kl o) := by unfold fvs; simp
theorem fvs_set {st : St} {o k : Nat} {v : Int} (hk : k < nf (kl o)) (h0 : fk (kl o) k = 0) : fvs ad (up2 st o k v) o = (fvs ad st o).set k (.int (oI v)) := by
  apply List.ext_getElem?
  intro i
  by_cases hi : i < nf (kl o)
  · rw [fvs_get ad hi]
    by_cases hik : k = i
    · subst hik
      rw [List.getElem?_set_self (by rw [fvs_len]; exact hi), if_pos h0, up2_self]
      simp [upf]
    · rw [List.getElem?_set_ne hik, fvs_get ad hi, up2_self]
      simp [upf, Ne.symm hik]
  · rw [List.getElem?_eq_none (by rw [fvs_len]; omega), List.getElem?_eq_none (by rw [List.length_set, fvs_len]; omega)]
theorem wsO_put {st : St} {o k : Nat} {v : Int} (ho : kl o < 13) (hk : k < nf (kl o)) (h0 : fk (kl o) k = 0) : (wsO nO ad cA st).set o (ad o, .inr (kl o, (fvs ad st o).set k (.int (oI v)))) = wsO nO ad cA (up2 st o k v) := by
  rw [wsO_set nO ad cA (st := st) (st' := up2 st o k v) (o := o) (fun _ h => up2_ne h), cel_obj ad cA ho, fvs_set ad hk h0]
theorem wsO_ast {st : St} {o i : Nat} {v : Int} {x : Int32} (ho : ¬ kl o < 13) (hx : x = oI v) : (wsO nO ad cA st).set o (ad o, .inl (cA (kl o), len o, .inl (upd (fun i => oI (st o i)) i x))) = wsO nO ad cA (up2 st o i v) := by
  rw [wsO_set nO ad cA (st := st) (st' := up2 st o i v) (o := o) (fun _ h => up2_ne h), cel_arr ad cA ho]
  have : (fun j => oI (up2 st o i v o j)) = upd (fun i => oI (st o i)) i x := by
    funext j
    rw [up2_self, hx]
    unfold upf upd
    split <;> rfl
  rw [this]
def A0 (q : Nat) : Prop := ∃ k, k < nO ∧ q = ad k
def inj (f : Nat → Nat) : Prop := ∀ i j, i < nO → j < nO → f i = f j → i = j
theorem wsO_D {st : St} (h : inj nO ad) : va_D (A0 nO ad) (wsO nO ad cA st) := by
  have key : ∀ (i : Nat) (p : Nat × va_E), (wsO nO ad cA st)[i]? = some p → i < nO ∧ p.1 = ad i := by
    intro i p hp
    have hi : i < nO := by
      have := (List.getElem?_eq_some_iff.mp hp).1
      unfold wsO at this
      simpa using this
    rw [wsO_get nO ad cA hi] at hp
    cases hp
    exact ⟨hi, rfl⟩
  refine ⟨fun i j p q hp hq hpq => ?_, fun k q hq => ?_⟩
  · obtain ⟨h1, h2⟩ := key i p hp
    obtain ⟨h3, h4⟩ := key j q hq
    exact h i j h1 h3 (by rw [← h2, ← h4]; exact hpq)
  · obtain ⟨h1, h2⟩ := key k q hq
    exact ⟨k, h1, h2⟩
end SND
