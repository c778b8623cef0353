/-! the JDK's calls, the script, ends of blocks; whole blocks; the methods' contracts -/
theorem w_min : Cond.static minName ∈ TB ∧ Cond.initialized "java/lang/Math" ∈ TB ∧ Cond.code Lib.Math.min.name Lib.Math.min.code 2 (some .int) ∈ TB := ⟨atp_mem (pos := 2135) (by decide +kernel), atp_mem (pos := 1003) (by decide +kernel), List.mem_filter.mpr ⟨tb_2 (List.mem_of_getElem? (i := 136) rfl), rfl⟩⟩
theorem w_max : Cond.static maxName ∈ TB ∧ Cond.code Lib.Math.max.name Lib.Math.max.code 2 (some .int) ∈ TB := ⟨atp_mem (pos := 1031) (by decide +kernel), List.mem_filter.mpr ⟨tb_1 (List.mem_of_getElem? (i := 32) rfl), rfl⟩⟩
theorem w_cpy : Cond.static cpyName ∈ TB ∧ Cond.initialized "java/lang/System" ∈ TB ∧ Cond.native cpyName ∈ TB := ⟨atp_mem (pos := 2166) (by decide +kernel), atp_mem (pos := 1014) (by decide +kernel), atp_mem (pos := 2167) (by decide +kernel)⟩
/-- the script, where there is one -/
def SX (s : State) (nO : Nat) (ad : Nat → Nat) (L : Nat) (sx : Nat → Int) : Prop := L = 0 ∨ ∃ (n : Nat) (xs : Nat → Int32), L = n + 1 ∧ n < 2147483647 ∧ va_X (ad 500) n xs s s.heap ∧ ad 500 < s.heap.size ∧ ¬ A0 nO ad (ad 500) ∧ ∀ j, oI (sx j) = xs j ∧ InR (sx j)
section BLK
variable {p : Program} {l : Launch} {e : Env} {R : Room} {s : State} {m : MethodId} {args : Array Value} {below : List Frame} {meth : Method} {c : Code} {cells slots : Nat} {QW : State → Prop} {cc : ByteArray} {nL cls : Nat} {nO : Nat} {ad : Nat → Nat} {cA : Nat → ClassId} {D : va_G} {pc : Nat} {ls stk : List V} {st : St} {rmD : Room} {C : Cn} {L : Nat} {sx : Nat → Int}
theorem snd_min {a b d : Nat} {i : Instr × Nat} (X : Cx p R s m args c cells slots cc nL cls nO ad cA D) (h : ckI cls nL i 32 a b d = true) (hd : decode cc pc = .ok i) (k : i_min (Wx p l e R s m args below meth c cells slots QW nL nO ad cA D (pc + i.2)) ls stk st) : Wx p l e R s m args below meth c cells slots QW nL nO ad cA D pc ls stk st := by
  obtain ⟨hx, hb, hml, hown, hts, hWd, hj, hcl0, hfr, hlo, hcl, hsl⟩ := X
  simp only [ckI, Bool.and_eq_true, decide_eq_true_eq] at h
  obtain ⟨h, h1⟩ := h
  subst h
  unfold i_min at k
  split at k
  · rename_i y x r
    obtain ⟨h8, k⟩ := k
    intro o1 o2 o3 H locs lsM hP hS hl
    have hy : InR y := okLs_hd o2
    have hx' : InR x := okLs_hd (okLs_tl o2)
    have e : (if oI y < oI x then oI y else oI x) = oI (if x ≤ y then x else y) := by
      by_cases hxy : x ≤ y
      · rw [if_pos hxy, if_neg (by rw [oI_lt hy hx']; omega)]
      · rw [if_neg hxy, if_pos (by rw [oI_lt hy hx']; omega)]
    have hR : InR (if x ≤ y then x else y) := by split <;> assumption
    exact va_mmin hx hb (by rw [hml, hl.1]) hown (hts _ (ckM_q h1)) (hts _ w_min.1) (hts _ w_min.2.1) (hts _ w_min.2.2) hfr (by have := rest8 (ad := ad) h8; omega) hcl hsl hd (by rw [e]; exact k o1 (okLs_cons hR (okLs_tl (okLs_tl o2))) o3 H locs lsM hP hS hl)
  · exact k.elim
theorem snd_max {a b d : Nat} {i : Instr × Nat} (X : Cx p R s m args c cells slots cc nL cls nO ad cA D) (h : ckI cls nL i 33 a b d = true) (hd : decode cc pc = .ok i) (k : i_max (Wx p l e R s m args below meth c cells slots QW nL nO ad cA D (pc + i.2)) ls stk st) : Wx p l e R s m args below meth c cells slots QW nL nO ad cA D pc ls stk st := by
  obtain ⟨hx, hb, hml, hown, hts, hWd, hj, hcl0, hfr, hlo, hcl, hsl⟩ := X
  simp only [ckI, Bool.and_eq_true, decide_eq_true_eq] at h
  obtain ⟨h, h1⟩ := h
  subst h
  unfold i_max at k
  split at k
  · rename_i y x r
    obtain ⟨h8, k⟩ := k
    intro o1 o2 o3 H locs lsM hP hS hl
    have hy : InR y := okLs_hd o2
    have hx' : InR x := okLs_hd (okLs_tl o2)
    have e : (if oI x < oI y then oI y else oI x) = oI (if y ≤ x then x else y) := by
      by_cases hxy : y ≤ x
      · rw [if_pos hxy, if_neg (by rw [oI_lt hx' hy]; omega)]
      · rw [if_neg hxy, if_pos (by rw [oI_lt hx' hy]; omega)]
    have hR : InR (if y ≤ x then x else y) := by split <;> assumption
    exact va_mmax hx hb (by rw [hml, hl.1]) hown (hts _ (ckM_q h1)) (hts _ w_max.1) (hts _ w_min.2.1) (hts _ w_max.2) hfr (by have := rest8 (ad := ad) h8; omega) hcl hsl hd (by rw [e]; exact k o1 (okLs_cons hR (okLs_tl (okLs_tl o2))) o3 H locs lsM hP hS hl)
  · exact k.elim
theorem okS_up1 {st : St} {o : Nat} {f : Nat → Int} (h : okS st) (hf : ∀ j, InR (f j)) : okS (up1 st o f) := by
  intro k j
  unfold up1
  split
  · exact hf j
  · exact h _ _
theorem snd_copy {a b d : Nat} {i : Instr × Nat} (X : Cx p R s m args c cells slots cc nL cls nO ad cA D) (h : ckI cls nL i 34 a b d = true) (hd : decode cc pc = .ok i) (k : i_copy (Wx p l e R s m args below meth c cells slots QW nL nO ad cA D (pc + i.2)) ls stk st) : Wx p l e R s m args below meth c cells slots QW nL nO ad cA D pc ls stk st := by
  obtain ⟨hx, hb, hml, hown, hts, hWd, hj, hcl0, hfr, hlo, hcl, hsl⟩ := X
  simp only [ckI, Bool.and_eq_true, decide_eq_true_eq] at h
  obtain ⟨h, h1⟩ := h
  subst h
  unfold i_copy at k
  split at k
  · rename_i n dp dd sp o r
    obtain ⟨h8, hne, hk1, hk2, ⟨b1, b2, b3, b4, b5⟩, k⟩ := k
    intro o1 o2 o3 H locs lsM hP hS hl
    have hn : InR n := okLs_hd o2
    have hdp : InR dp := okLs_hd (okLs_tl o2)
    have hsp : InR sp := okLs_hd (okLs_tl (okLs_tl (okLs_tl o2)))
    have nlt : ∀ {z : Int}, InR z → 0 ≤ z → ¬ oI z < 0 := fun hz h0 hl => by
      rw [← oI_0, oI_lt hz InR_0] at hl
      omega
    have hnw : nativeFrameWords "java/lang/System" "arraycopy" 5 ≤ 10 := by decide +kernel
    have h88 := rest8 (ad := ad) h8
    have hlo' : ((r.map (ev ad)).map fun v => v.category).sum + (nativeFrameWords "java/lang/System" "arraycopy" 5 + 11) ≤ R.locals := by omega
    refine va_copyi hx hb (by rw [hml, hl.1]) hown (hts _ (ckM_q h1)) (hts _ w_cpy.2.2) (hts _ w_cpy.1) (hts _ w_cpy.2.1) hWd.1 hP (wsO_D nO ad cA hj) hS o dd 0 0 (arr_w (okLs_hd (okLs_tl (okLs_tl (okLs_tl (okLs_tl o2))))) hk1 (by decide) (by decide)) (arr_w (okLs_hd (okLs_tl (okLs_tl o2))) hk2 (by decide) (by decide)) rfl rfl rfl (nlt hsp b3) (nlt hdp b2) (nlt hn b1) (by rw [oI_cl hsp, oI_cl hn]; omega) (by rw [oI_cl hdp, oI_cl hn]; omega) (fun _ _ => rfl) hfr hlo' hd (fun H1 locs1 q1 _ q3 => ?_)
    have e : (wsO nO ad cA st).set dd (ad dd, .inl (cA 50, len dd, .inl (va_cpy (fun i => oI (st o i)) (fun i => oI (st dd i)) (oI sp).toNatClampNeg (oI dp).toNatClampNeg (oI n).toNatClampNeg))) = wsO nO ad cA (up1 st dd (cpf (st o) (st dd) sp.toNat dp.toNat n.toNat)) := by
      rw [wsO_set nO ad cA (st := st) (st' := up1 st dd (cpf (st o) (st dd) sp.toNat dp.toNat n.toNat)) (o := dd) (fun _ h => up1_ne h), cel_arr ad cA (by omega), hk2]
      have : (fun j => oI (up1 st dd (cpf (st o) (st dd) sp.toNat dp.toNat n.toNat) dd j)) = va_cpy (fun i => oI (st o i)) (fun i => oI (st dd i)) (oI sp).toNatClampNeg (oI dp).toNatClampNeg (oI n).toNatClampNeg := by
        funext j
        rw [up1_self, oI_cl hsp, oI_cl hdp, oI_cl hn]
        unfold cpf va_cpy
        split <;> rfl
      rw [this]
    rw [e] at q1
    refine k o1 (okLs_tl (okLs_tl (okLs_tl (okLs_tl (okLs_tl o2))))) (okS_up1 o3 (fun j => ?_)) H1 locs1 lsM q1 q3 hl
    unfold cpf
    split <;> exact o3 _ _
  · exact k.elim
theorem snd_sld {a b d : Nat} {i : Instr × Nat} (X : Cx p R s m args c cells slots cc nL cls nO ad cA D) (hX : SX s nO ad L sx) (h : ckI cls nL i 35 a b d = true) (hd : decode cc pc = .ok i) (k : i_sld L sx (Wx p l e R s m args below meth c cells slots QW nL nO ad cA D (pc + i.2)) ls stk st) : Wx p l e R s m args below meth c cells slots QW nL nO ad cA D pc ls stk st := by
  obtain ⟨hx, hb, hml, hown, hts, hWd, hj, hcl0, -⟩ := X
  simp only [ckI, decide_eq_true_eq] at h
  subst h
  unfold i_sld at k
  split at k
  · rename_i j o r
    obtain ⟨rfl, ⟨h1, h2⟩, k⟩ := k
    intro o1 o2 o3 H locs lsM hP hS hl
    have hjR : InR j := okLs_hd o2
    rcases hX with hX | ⟨n, xs, hL, hn, hV, hlt, hA, hsx⟩
    · exfalso
      omega
    · have k := k o1 (okLs_cons (hsx _).2 (okLs_tl (okLs_tl o2))) o3 H locs lsM hP hS hl
      refine va_sld hx hb hV hlt hA hS (oI_in hjR ⟨h1, by omega⟩) hd ?_
      rw [oI_cl hjR, ← (hsx j.toNat).1]
      exact k
  · exact k.elim
theorem snd_sln {a b d : Nat} {i : Instr × Nat} (X : Cx p R s m args c cells slots cc nL cls nO ad cA D) (hX : SX s nO ad L sx) (h : ckI cls nL i 36 a b d = true) (hd : decode cc pc = .ok i) (k : i_sln L (Wx p l e R s m args below meth c cells slots QW nL nO ad cA D (pc + i.2)) ls stk st) : Wx p l e R s m args below meth c cells slots QW nL nO ad cA D pc ls stk st := by
  obtain ⟨hx, hb, hml, hown, hts, hWd, hj, hcl0, -⟩ := X
  simp only [ckI, decide_eq_true_eq] at h
  subst h
  unfold i_sln at k
  split at k
  · rename_i o r
    obtain ⟨rfl, h1, k⟩ := k
    intro o1 o2 o3 H locs lsM hP hS hl
    rcases hX with hX | ⟨n, xs, hL, hn, hV, hlt, hA, hsx⟩
    · exfalso
      omega
    · have k := k o1 (okLs_cons ⟨by omega, by omega⟩ (okLs_tl o2)) o3 H locs lsM hP hS hl
      refine va_slen hx hb hV hlt hA hS hd ?_
      have e : ((L : Int) - 1) = (n : Int) := by omega
      rw [e] at k
      exact k
  · exact k.elim
theorem s1_sound {t a b d : Nat} {i : Instr × Nat} (X : Cx p R s m args c cells slots cc nL cls nO ad cA D) (hC : CS l R nO ad cA D rmD C) (hX : SX s nO ad L sx) (h : ckI cls nL i t a b d = true) (hd : decode cc pc = .ok i) (k : s1 C L sx t a b (Wx p l e R s m args below meth c cells slots QW nL nO ad cA D (pc + i.2)) ls stk st) : Wx p l e R s m args below meth c cells slots QW nL nO ad cA D pc ls stk st := by
  match t, h, k with
  | 0, h, k => exact isI_q X h hd k
  | 1, h, k => exact isI_q X h hd k
  | 2, h, k => exact snd_load X h hd k
  | 3, h, k => exact snd_store X h hd k
  | 4, h, k =>
    simp only [ckI, Bool.and_eq_true, decide_eq_true_eq] at h
    exact snd_inc X h.1.1 h.1.2 hd k
  | 5, h, k =>
    simp only [ckI, Bool.and_eq_true, decide_eq_true_eq] at h
    exact snd_inc X h.1.1 h.1.2 hd k
  | 6, h, k => exact snd_get X h hd k
  | 7, h, k => exact snd_getR X h hd k
  | 8, h, k => exact snd_put X h hd k
  | 9, h, k => exact snd_putZ X h hd k
  | 10, h, k => exact snd_ald (Or.inl ⟨rfl, rfl⟩) X h hd k
  | 11, h, k => exact snd_ald (Or.inr (Or.inl ⟨rfl, rfl⟩)) X h hd k
  | 12, h, k => exact snd_ast X h hd k
  | 13, h, k => exact snd_astB X h hd k
  | 14, h, k => exact snd_astZ X h hd k
  | 15, h, k => exact snd_ald (Or.inr (Or.inr ⟨rfl, rfl⟩)) X h hd k
  | 16, h, k => exact snd_alen X h hd k
  | 17, h, k => exact snd_bins (by simp) X h hd k
  | 18, h, k => exact snd_bins (by simp) X h hd k
  | 19, h, k => exact snd_bins (by simp) X h hd k
  | 20, h, k => exact snd_divs (by simp) X h hd k
  | 21, h, k => exact snd_divs (by simp) X h hd k
  | 22, h, k => exact snd_bins (by simp) X h hd k
  | 23, h, k => exact snd_bins (by simp) X h hd k
  | 24, h, k => exact snd_bins (by simp) X h hd k
  | 25, h, k => exact snd_bins (by simp) X h hd k
  | 26, h, k => exact snd_i2b X h hd k
  | 27, h, k => exact snd_dup X h hd k
  | 28, h, k => exact snd_pop X h hd k
  | 29, h, k => exact snd_dup2 X h hd k
  | 30, h, k => exact snd_call X hC h hd k
  | 31, h, k => exact snd_callI X hC h hd k
  | 32, h, k => exact snd_min X h hd k
  | 33, h, k => exact snd_max X h hd k
  | 34, h, k => exact snd_copy X h hd k
  | 35, h, k => exact snd_sld X hX h hd k
  | 36, h, k => exact snd_sln X hX h hd k
  | 37, h, k => exact snd_loadR X h hd k
  | 38, h, k => exact snd_storeR X h hd k
  | t + 39, h, k => exact absurd h (by simp [ckI])
/-! the ends -/
theorem snd_icmp {t : Nat} {off : Int} {tgt nx : Nat} (X : Cx p R s m args c cells slots cc nL cls nO ad cA D) (ht : t < 6) (hd : decode cc pc = .ok (.if_icmp (cOp t) off, 3)) (hj : (pc : Int) + off = (tgt : Int)) (hn : nx = pc + 3) {x y : Int} {r : List V} (k1 : cnd t x y → Wx p l e R s m args below meth c cells slots QW nL nO ad cA D tgt ls r st) (k2 : ¬ cnd t x y → Wx p l e R s m args below meth c cells slots QW nL nO ad cA D nx ls r st) : Wx p l e R s m args below meth c cells slots QW nL nO ad cA D pc ls (some (.inl y) :: some (.inl x) :: r) st := by
  obtain ⟨hx, hb, hml, hown, hts, hWd, hj', hcl0, -⟩ := X
  intro o1 o2 o3 H locs lsM hP hS hl
  have hy : InR y := okLs_hd o2
  have hx' : InR x := okLs_hd (okLs_tl o2)
  have o2' := okLs_tl (okLs_tl o2)
  subst hn
  have K1 : cnd t x y → _ := fun h => k1 h o1 o2' o3 H locs lsM hP hS hl
  have K2 : ¬ cnd t x y → _ := fun h => k2 h o1 o2' o3 H locs lsM hP hS hl
  match t, ht, hd, K1, K2 with
  | 0, _, hd, K1, K2 => exact lv_icmp_eq hx hb hd hj (fun h => K1 ((oI_inj hx' hy).mp h)) (fun h => K2 (fun h' => h ((oI_inj hx' hy).mpr h')))
  | 1, _, hd, K1, K2 => exact lv_icmp_ne hx hb hd hj (fun h => K1 (fun h' => h ((oI_inj hx' hy).mpr h'))) (fun h => K2 (fun h' => h' ((oI_inj hx' hy).mp h)))
  | 2, _, hd, K1, K2 => exact lv_icmp_lt hx hb hd hj (fun h => K1 ((oI_lt hx' hy).mp h)) (fun h => K2 (fun h' => h ((oI_lt hx' hy).mpr h')))
  | 3, _, hd, K1, K2 => exact lv_icmp_ge hx hb hd hj (fun h => K1 ((oI_le hy hx').mp h)) (fun h => K2 (fun h' => h ((oI_le hy hx').mpr h')))
  | 4, _, hd, K1, K2 => exact lv_icmp_gt hx hb hd hj (fun h => K1 ((oI_lt hy hx').mp h)) (fun h => K2 (fun h' => h ((oI_lt hy hx').mpr h')))
  | 5, _, hd, K1, K2 => exact lv_icmp_le hx hb hd hj (fun h => K1 ((oI_le hx' hy).mp h)) (fun h => K2 (fun h' => h ((oI_le hx' hy).mpr h')))
theorem snd_if {t : Nat} {off : Int} {tgt nx : Nat} (X : Cx p R s m args c cells slots cc nL cls nO ad cA D) (ht : t < 6) (hd : decode cc pc = .ok (.ifCond (cOp t) off, 3)) (hj : (pc : Int) + off = (tgt : Int)) (hn : nx = pc + 3) {x : Int} {r : List V} (k1 : cnd t x 0 → Wx p l e R s m args below meth c cells slots QW nL nO ad cA D tgt ls r st) (k2 : ¬ cnd t x 0 → Wx p l e R s m args below meth c cells slots QW nL nO ad cA D nx ls r st) : Wx p l e R s m args below meth c cells slots QW nL nO ad cA D pc ls (some (.inl x) :: r) st := by
  obtain ⟨hx, hb, hml, hown, hts, hWd, hj', hcl0, -⟩ := X
  intro o1 o2 o3 H locs lsM hP hS hl
  have hx' : InR x := okLs_hd o2
  have o2' := okLs_tl o2
  have hy := InR_0
  subst hn
  have K1 : cnd t x 0 → _ := fun h => k1 h o1 o2' o3 H locs lsM hP hS hl
  have K2 : ¬ cnd t x 0 → _ := fun h => k2 h o1 o2' o3 H locs lsM hP hS hl
  match t, ht, hd, K1, K2 with
  | 0, _, hd, K1, K2 => exact lv_if_eq hx hb hd hj (fun h => K1 ((oI_inj hx' hy).mp (by rw [oI_0]; exact h))) (fun h => K2 (fun h' => h (by rw [← oI_0]; exact (oI_inj hx' hy).mpr h')))
  | 1, _, hd, K1, K2 => exact lv_if_ne hx hb hd hj (fun h => K1 (fun h' => h (by rw [← oI_0]; exact (oI_inj hx' hy).mpr h'))) (fun h => K2 (fun h' => h' ((oI_inj hx' hy).mp (by rw [oI_0]; exact h))))
  | 2, _, hd, K1, K2 => exact lv_if_lt hx hb hd hj (fun h => K1 ((oI_lt hx' hy).mp (by rw [oI_0]; exact h))) (fun h => K2 (fun h' => h (by rw [← oI_0]; exact (oI_lt hx' hy).mpr h')))
  | 3, _, hd, K1, K2 => exact lv_if_ge hx hb hd hj (fun h => K1 ((oI_le hy hx').mp (by rw [oI_0]; exact h))) (fun h => K2 (fun h' => h (by rw [← oI_0]; exact (oI_le hy hx').mpr h')))
  | 4, _, hd, K1, K2 => exact lv_if_gt hx hb hd hj (fun h => K1 ((oI_lt hy hx').mp (by rw [oI_0]; exact h))) (fun h => K2 (fun h' => h (by rw [← oI_0]; exact (oI_lt hy hx').mpr h')))
  | 5, _, hd, K1, K2 => exact lv_if_le hx hb hd hj (fun h => K1 ((oI_le hx' hy).mp (by rw [oI_0]; exact h))) (fun h => K2 (fun h' => h (by rw [← oI_0]; exact (oI_le hx' hy).mpr h')))
theorem sw_tab {q : Nat → Nat} {pc : Nat} : ∀ (r : List Ai) (offs : List Int) (lo x : Int) (K : Nat → Kn) (dd : Nat) (ls s : List V) (st : St), ckSw q pc lo offs r = true → t_sw K x dd ls s st r → (offs.length = r.length) ∧ ((¬ x < lo ∧ x < lo + r.length) → ∃ off tgt, offs[(x - lo).toNat]? = some off ∧ (pc : Int) + off = (q tgt : Int) ∧ K tgt ls s st) ∧ ((x < lo ∨ lo + r.length ≤ x) → K dd ls s st)
  | [], [], lo, x, K, dd, ls, s, st, _, h2 => ⟨rfl, fun h => absurd h (by simp), fun _ => h2⟩
  | (key, tgt, _, _) :: r, o :: os, lo, x, K, dd, ls, s, st, h1, h2 => by
    simp only [ckSw, Bool.and_eq_true, decide_eq_true_eq, ckJ] at h1
    obtain ⟨⟨e1, e2⟩, h1⟩ := h1
    unfold t_sw at h2
    by_cases hx : x = (key : Int)
    · have hk := h2.1 hx
      have ih : os.length = r.length := by
        clear h2 hk
        have : ∀ (r : List Ai) (os : List Int) (lo : Int), ckSw q pc lo os r = true → os.length = r.length := by
          intro r
          induction r with
          | nil => intro os lo h; cases os with
            | nil => rfl
            | cons a b => simp [ckSw] at h
          | cons w r ih => intro os lo h; cases os with
            | nil => simp [ckSw] at h
            | cons a b =>
              simp only [ckSw, Bool.and_eq_true] at h
              simp [ih b _ h.2]
        exact this r os _ h1
      refine ⟨by simp [ih], fun _ => ⟨o, tgt, ?_, e2, hk⟩, fun h => ?_⟩
      · have : (x - lo).toNat = 0 := by omega
        rw [this]
        rfl
      · simp only [List.length_cons] at h
        omega
    · obtain ⟨i1, i2, i3⟩ := sw_tab r os (lo + 1) x K dd ls s st h1 (h2.2 hx)
      refine ⟨by simp [i1], fun h => ?_, fun h => i3 ?_⟩
      · simp only [List.length_cons] at h
        obtain ⟨off, tg, j1, j2, j3⟩ := i2 ⟨by omega, by omega⟩
        refine ⟨off, tg, ?_, j2, j3⟩
        have : (x - lo).toNat = (x - (lo + 1)).toNat + 1 := by omega
        rw [this]
        exact j1
      · simp only [List.length_cons] at h
        omega
  | [], _ :: _, _, _, _, _, _, _, _, h1, _ => by simp [ckSw] at h1
  | _ :: _, [], _, _, _, _, _, _, _, h1, _ => by simp [ckSw] at h1
theorem sw_look {q : Nat → Nat} {pc : Nat} {df : Int} {dd : Nat} (hdf : (pc : Int) + df = (q dd : Int)) : ∀ (r : List Ai) (ps : List (Int × Int)) (x : Int32) (K : Nat → Kn) (ls s : List V) (st : St), ckLk q pc ps r = true → t_sw K x.toInt dd ls s st r → ∃ tgt, (pc : Int) + Op.lookupswitch.offset ps df x.toInt = (q tgt : Int) ∧ K tgt ls s st
  | [], [], x, K, ls, s, st, _, h2 => ⟨dd, by simpa [Op.lookupswitch.offset] using hdf, h2⟩
  | (key, tgt, _, _) :: r, (v, o) :: os, x, K, ls, s, st, h1, h2 => by
    simp only [ckLk, Bool.and_eq_true, decide_eq_true_eq, ckJ] at h1
    obtain ⟨⟨e1, e2⟩, h1⟩ := h1
    unfold t_sw at h2
    by_cases hx : x.toInt = (key : Int)
    · refine ⟨tgt, ?_, h2.1 hx⟩
      have : Op.lookupswitch.offset ((v, o) :: os) df x.toInt = o := by
        simp [Op.lookupswitch.offset, ← e1, hx]
      rw [this]
      exact e2
    · obtain ⟨tg, j1, j2⟩ := sw_look hdf r os x K ls s st h1 (h2.2 hx)
      refine ⟨tg, ?_, j2⟩
      have : Op.lookupswitch.offset ((v, o) :: os) df x.toInt = Op.lookupswitch.offset os df x.toInt := by
        have hv : ¬ v = x.toInt := fun h => hx (by rw [← h, ← e1])
        simp [Op.lookupswitch.offset, List.find?, hv]
      rw [this]
      exact j1
  | [], _ :: _, _, _, _, _, _, h1, _ => by simp [ckLk] at h1
  | _ :: _, [], _, _, _, _, _, h1, _ => by simp [ckLk] at h1
end BLK
