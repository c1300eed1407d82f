/-! what a walk may forget; Arrays.fill; the throw whose class has another pool -/
def ab_le : List (Option Value) → List (Option Value) → Prop
  | [], [] => True
  | a :: as, b :: bs => (a = none ∨ a = b) ∧ ab_le as bs
  | _, _ => False
theorem ab_le_0 : ab_le [] [] := trivial
theorem ab_le_n {as bs : List (Option Value)} {b : Option Value} (h : ab_le as bs) : ab_le (none :: as) (b :: bs) := ⟨Or.inl rfl, h⟩
theorem ab_le_s {as bs : List (Option Value)} {b : Option Value} (h : ab_le as bs) : ab_le (b :: as) (b :: bs) := ⟨Or.inr rfl, h⟩
theorem ab_le_len : ∀ {as bs : List (Option Value)}, ab_le as bs → as.length = bs.length
  | [], [], _ => rfl
  | _ :: _, _ :: _, h => by rw [List.length_cons, List.length_cons, ab_le_len h.2]
  | [], _ :: _, h => h.elim
  | _ :: _, [], h => h.elim
theorem ab_le_at : ∀ {as bs : List (Option Value)}, ab_le as bs → ∀ (i : Nat) (v : Value), as[i]? = some (some v) → bs[i]? = some (some v)
  | [], [], _, i, v, h => by simp at h
  | a :: _, b :: _, h, 0, v, e => by
    rcases h.1 with q | q
    · rw [q] at e; simp at e
    · rw [← q]; exact e
  | _ :: as, _ :: bs, h, i + 1, v, e => by
    rw [List.getElem?_cons_succ] at e ⊢
    exact ab_le_at h.2 i v e
  | [], _ :: _, h, _, _, _ => h.elim
  | _ :: _, [], h, _, _, _ => h.elim
theorem ab_less {X : ab_M} {g : ab_G} {cells slots : Nat} {Q : State → Prop} {pc : Nat} {L L' : List (Option Value)} {st : List Value} {ws : List va_E} (h : Ab X g cells slots Q pc L' st ws) (e : ab_le L' L) : Ab X g cells slots Q pc L st ws := fun H locs ls hP hS hl => h H locs ls hP hS ⟨hl.1, hl.2.1, (ab_le_len e).trans hl.2.2.1, fun i v hi => hl.2.2.2 i v (ab_le_at e i v hi)⟩
theorem fill_loop {X : ab_M} {g : ab_G} {l : Launch} {fr : Prop} {d i n : Nat} {v : Int32} {ws : List va_E} {Qc : Array Value → State → Outcome → State → Prop} (O : ab_Ok X g cJ7_fill_53178 RJ7) (hn : n < 2 ^ 31) (f : Nat → Int32) (hi : i < ws.length)
    (hk : Ab X g 0 0 (tk_Q X g Qc (fun _ _ => False) 0 0) 20 [some (.ref i), some (.int v), some (.int (nI n)), some (.int (nI n))] [] (ws.set i (.inl (0, n, .inl (fun j => if j < n then v else f j))))) :
    ∀ (m k : Nat), k ≤ n → n - k < m → Ab X g 0 0 (tk_Q X g Qc (fun _ _ => False) 0 0) 5 [some (.ref i), some (.int v), some (.int (nI k)), some (.int (nI n))] [] (ws.set i (.inl (0, n, .inl (fun j => if j < k then v else f j)))) := by
  intro m
  induction m with
  | zero => intro k h1 h2; omega
  | succ m ih =>
    intro k h1 h2
    refine ab_iload_n O 2 dJ7_fill_53178_5 rfl rfl ?_
    refine ab_iload_n O 3 dJ7_fill_53178_6 rfl rfl ?_
    refine ab_icmp_ge O 20 dJ7_fill_53178_7 rfl (fun q => ?_) (fun q => ?_)
    · have hkn : k = n := by
        rcases Nat.lt_or_ge k n with z | z
        · exact absurd q (nI_ge z hn)
        · omega
      subst hkn
      exact hk
    · have hkn : k < n := by
        rcases Nat.lt_or_ge k n with z | z
        · exact z
        · exact absurd (nI_le z (by omega)) q
      refine ab_aload_n O 0 dJ7_fill_53178_10 rfl rfl ?_
      refine ab_iload_n O 2 dJ7_fill_53178_11 rfl rfl ?_
      refine ab_iload_n O 1 dJ7_fill_53178_12 rfl rfl ?_
      refine ab_iast O dJ7_fill_53178_13 (List.getElem?_set_self hi) (vp_in_nI hkn hn) ?_
      refine ab_iinc O (nI (k + 1)) dJ7_fill_53178_14 rfl (by rw [← nI_1]; rfl) ?_
      refine ab_goto O 5 dJ7_fill_53178_17 rfl ?_
      refine ab_eq (ih (k + 1) hkn (by omega)) rfl rfl rfl ?_
      rw [List.set_set, nI_clamp (by omega)]
      congr 5
      funext j
      show (if j < k + 1 then v else f j) = if j = k then v else if j < k then v else f j
      by_cases e1 : j = k
      · subst e1; simp
      · by_cases e2 : j < k
        · simp [e2, Nat.lt_succ_of_lt e2]
        · simp [e1, e2, show ¬ j < k + 1 by omega]
/-- Arrays.fill(int[], int) -/
theorem c_fill (l : Launch) (hl : l.stackTraces = false) (g : ab_G) (fr : Prop) (d : Nat) (ws : List va_E) (i n : Nat) (v : Int32) (f : Nat → Int32) (he : ws[i]? = some (.inl (0, n, .inl f))) (hn : n < 2 ^ 31) :
    Ct l g tk_strs fr d 0 0 yJ7_fill_53178 cJ7_fill_53178 4 none [.ref i, .int v] ws (tk_V g (fun u => u = ws.set i (.inl (0, n, .inl (fun j => if j < n then v else f j))))) (fun _ _ => False) := by
  refine ct_in (by decide +kernel) (show 2 ≤ 4 by decide) (by simp [Value.category]) hl (fun X I O _ => ?_)
  show Ab X g 0 0 _ 0 [some (.ref i), some (.int v), none, none] [] _
  have hi : i < ws.length := (List.getElem?_eq_some_iff.mp he).1
  refine ab_iconst O 0 dJ7_fill_53178_0 rfl ?_
  refine ab_istore_n O 2 dJ7_fill_53178_1 rfl (show 2 < 4 by decide) ?_
  refine ab_aload_n O 0 dJ7_fill_53178_2 rfl rfl ?_
  refine ab_alen O dJ7_fill_53178_3 he (v := nI n) rfl ?_
  refine ab_istore_n O 3 dJ7_fill_53178_4 rfl (show 3 < 4 by decide) ?_
  refine ab_eq (fill_loop (l := l) (fr := fr) (d := d) O hn f hi ?_ (n + 1) 0 (Nat.zero_le _) (by omega)) rfl rfl rfl ?_
  · exact ab_return O I dJ7_fill_53178_20 (by decide) (by decide) rfl
  · have e : (fun j => if j < 0 then v else f j) = f := funext fun j => if_neg (Nat.not_lt_zero j)
    rw [e]
    apply List.ext_getElem?
    intro j
    rw [List.getElem?_set]
    by_cases h : i = j
    · subst h; rw [if_pos rfl, if_pos hi, he]
    · rw [if_neg h]

theorem sw_fill_31 (V : Mm) (o : Nat → Int64) (D : Nat → UInt64) (x : Int32) : (SW V o D).set 31 (.inl (0, 20, .inl (fun j => if j < 20 then x else V 31 j))) = SW (wfill V 31 20 x) o D := rfl
theorem sw_fill_32 (V : Mm) (o : Nat → Int64) (D : Nat → UInt64) (x : Int32) : (SW V o D).set 32 (.inl (0, 20, .inl (fun j => if j < 20 then x else V 32 j))) = SW (wfill V 32 20 x) o D := rfl
theorem ab_throwWN {X : ab_M} {g : ab_G} {cells slots : Nat} {pc : Nat} {L : List (Option Value)} {st : List Value} {ws : List va_E} {cc : ByteArray} {own : String} {l : Launch} {strs : List (String × Nat × String)} {nL : Nat} {ret : Option FieldType} {name : String} {d mc ms : Nat} {px : String → List va_E → Prop} {Qc : Array Value → State → Outcome → State → Prop} (O : ab_Ok X g cc own) (I : ab_I X l strs nL ret name d mc ms) {cls text : String} {ik is ic : Nat} (T : th_okN own cls ik ic) (hstr : (own, is, text) ∈ strs)
    (d0 : decode cc pc = .ok (.new ik, 3)) (d3 : decode cc (pc + 3) = .ok (.dup, 1)) (d4 : decode cc (pc + 4) = .ok (.ldc_w is, 3)) (d6 : decode cc (pc + 7) = .ok (.invokespecial ic, 3)) (d9 : decode cc (pc + 10) = .ok (.athrow, 1))
    (hfr : 5 < d) (hlo : (st.map fun v => v.category).sum + 82 ≤ 36 * d) (hc : cells + 1 ≤ mc) (hs : slots + 6 ≤ ms) (hp : px cls ws) : Ab X g cells slots (tk_Q X g Qc px mc ms) pc L st ws := by
  sorry
theorem ab_throwN {X : ab_M} {g : ab_G} {cells slots : Nat} {pc : Nat} {L : List (Option Value)} {st : List Value} {ws : List va_E} {cc : ByteArray} {own : String} {l : Launch} {strs : List (String × Nat × String)} {nL : Nat} {ret : Option FieldType} {name : String} {d mc ms : Nat} {px : String → List va_E → Prop} {Qc : Array Value → State → Outcome → State → Prop} (O : ab_Ok X g cc own) (I : ab_I X l strs nL ret name d mc ms) {cls text : String} {ik is ic : Nat} (T : th_okN own cls ik ic) (hstr : (own, is, text) ∈ strs)
    (d0 : decode cc pc = .ok (.new ik, 3)) (d3 : decode cc (pc + 3) = .ok (.dup, 1)) (d4 : decode cc (pc + 4) = .ok (.ldc is, 2)) (d6 : decode cc (pc + 6) = .ok (.invokespecial ic, 3)) (d9 : decode cc (pc + 9) = .ok (.athrow, 1))
    (hfr : 5 < d) (hlo : (st.map fun v => v.category).sum + 82 ≤ 36 * d) (hc : cells + 1 ≤ mc) (hs : slots + 6 ≤ ms) (hp : px cls ws) : Ab X g cells slots (tk_Q X g Qc px mc ms) pc L st ws := by
  sorry
