section MEAN
theorem nn32 {r : UInt32} (h : FP.Core.val32 r ≠ .nan) : vf_n32 r := by
  unfold vf_n32
  rw [UInt32.le_iff_toNat_le, UInt32.toNat_and, show (0x7fffffff : UInt32).toNat = 2 ^ 31 - 1 by decide, Nat.and_two_pow_sub_one_eq_mod, show (0x7f800000 : UInt32).toNat = 2139095040 by decide]
  have hlt := r.toNat_lt
  refine Classical.byContradiction fun q => h ?_
  have hE : FP.Core.fieldE FP.Core.b32 r.toNat = FP.Core.b32.exps - 1 := by
    show r.toNat / 8388608 % 256 = 255
    omega
  have hT : ¬ FP.Core.fieldT FP.Core.b32 r.toNat = 0 := by
    show ¬ r.toNat % 8388608 = 0
    omega
  show FP.Core.decode FP.Core.b32 r.toNat = .nan
  unfold FP.Core.decode
  rw [if_pos hE, if_neg hT]
theorem nn64 {r : UInt64} (h : FP.Core.val64 r ≠ .nan) : vf_n64 r := by
  unfold vf_n64
  rw [UInt64.le_iff_toNat_le, UInt64.toNat_and, show (0x7fffffffffffffff : UInt64).toNat = 2 ^ 63 - 1 by decide, Nat.and_two_pow_sub_one_eq_mod, show (0x7ff0000000000000 : UInt64).toNat = 9218868437227405312 by decide]
  have hlt := r.toNat_lt
  refine Classical.byContradiction fun q => h ?_
  have hE : FP.Core.fieldE FP.Core.b64 r.toNat = FP.Core.b64.exps - 1 := by
    show r.toNat / 4503599627370496 % 2048 = 2047
    omega
  have hT : ¬ FP.Core.fieldT FP.Core.b64 r.toNat = 0 := by
    show ¬ r.toNat % 4503599627370496 = 0
    omega
  show FP.Core.decode FP.Core.b64 r.toNat = .nan
  unfold FP.Core.decode
  rw [if_pos hE, if_neg hT]
theorem rr_nn (f : FP.Core.Fmt) (s : Bool) (c d : Nat) (q : Int) : FP.Core.roundRatio f s c d q ≠ .nan := by
  unfold FP.Core.roundRatio FP.Core.roundAt FP.Core.settle FP.Core.bound
  repeat' split
  all_goals (intro h; cases h)
theorem rd_nn (f : FP.Core.Fmt) {d : FP.Core.Datum} (h : d ≠ .nan) : FP.Core.round f d ≠ .nan := by
  cases d with
  | nan => exact absurd rfl h
  | inf s => exact fun q => by cases q
  | fin s c q => exact rr_nn _ _ _ _ _
/-- a finite number that isn't 0 -/
def dnz : FP.Core.Datum → Bool
  | .fin _ d _ => d != 0
  | _ => false
theorem cnt_fin : ∀ c : Fin 20, dnz (FP.Core.val32 (FP.i2f (nI (c.1 + 1)))) = true := by decide +kernel
theorem mean_nn (s : Int32) {c : Nat} (h1 : 1 ≤ c) (h2 : c ≤ 20) : FP.Core.val32 (FP.fdiv (FP.i2f s) (FP.i2f (nI c))) ≠ .nan := by
  show FP.Core.val32 (FP.Core.fdiv (FP.Core.i2f s) (FP.Core.i2f (nI c))) ≠ .nan
  rw [FP.Core.val32_fdiv]
  have hc := cnt_fin ⟨c - 1, by omega⟩
  rw [show c - 1 + 1 = c by omega] at hc
  have hs : FP.Core.val32 (FP.Core.i2f s) ≠ .nan := by
    rw [FP.Core.val32_i2f]
    exact rd_nn _ (fun q => by cases q)
  have hc : dnz (FP.Core.val32 (FP.Core.i2f (nI c))) = true := hc
  generalize FP.Core.val32 (FP.Core.i2f s) = x at *
  generalize FP.Core.val32 (FP.Core.i2f (nI c)) = y at *
  cases y with
  | nan => cases hc
  | inf t => cases hc
  | fin t d r =>
    have hc : d ≠ 0 := fun z => by rw [z] at hc; exact absurd (show ((0 : Nat) != 0) = true from hc) (by decide)
    cases x with
    | nan => exact absurd rfl hs
    | inf t => exact fun q => by cases q
    | fin t' c' q' =>
      show (if d = 0 then (if c' = 0 then FP.Core.Datum.nan else .inf (t' != t)) else FP.Core.roundRatio FP.Core.b32 (t' != t) c' d (q' - r)) ≠ .nan
      rw [if_neg hc]
      exact rr_nn _ _ _ _ _
theorem f2d_nn {r : UInt32} (h : FP.Core.val32 r ≠ .nan) : FP.Core.val64 (FP.f2d r) ≠ .nan := by
  have hf : ¬ FP.Core.fIsNaN r = true := fun q => h (of_decide_eq_true q)
  have e : FP.f2d r = FP.Core.f2d r := if_neg hf
  rw [e, FP.Core.val64_f2d]
  exact rd_nn _ h
theorem ci (z : Int) : compare z z = Ordering.eq := by
  first
  | exact Std.ReflCmp.compare_self
  | (show compareOfLessAndEq z z = .eq
     unfold compareOfLessAndEq
     rw [if_neg (Int.lt_irrefl z), if_pos rfl])
theorem cmp_self {x : UInt64} (h : FP.Core.val64 x ≠ .nan) : Op.cmpValue (FP.dcmp x x) .l = 0 := by
  have e : FP.dcmp x x = some .eq := by
    show FP.Core.order (FP.Core.val64 x) (FP.Core.val64 x) = some .eq
    generalize FP.Core.val64 x = d at *
    cases d with
    | nan => exact absurd rfl h
    | inf s => exact congrArg some (ci _)
    | fin s c q => exact congrArg some (ci _)
  rw [e]; rfl
variable {V : Mm} {o : Nat → Int64} {D : Nat → UInt64} {a1 a2 a3 : Int32} {J : Mm → Prop}
/-- the law's last test of the mean -/
def finM (J : Mm → Prop) (D4 : Nat → UInt64) (k1 : Int32) (r5 : UInt32) (V6 : Mm) : Prop := wp_X9_thrown V6 (fun (r7 : Int32) (V8 : Mm) => ((r7 = k1 → ((k1 = 0 → (vf_n64 (FP.f2d (r5)) ∧ (((Op.cmpValue (FP.dcmp ((D4 0)) ((FP.f2d (r5)))) .l) = 0 → J V8) ∧ (¬ (Op.cmpValue (FP.dcmp ((D4 0)) ((FP.f2d (r5)))) .l) = 0 → (((Op.cmpValue (FP.dcmp ((D4 0)) ((D4 0))) .l) = 0 → False) ∧ (¬ (Op.cmpValue (FP.dcmp ((D4 0)) ((D4 0))) .l) = 0 → (((Op.cmpValue (FP.fcmp (r5) (r5)) .l) = 0 → False) ∧ (¬ (Op.cmpValue (FP.fcmp (r5) (r5)) .l) = 0 → J V8)))))))) ∧ (¬ k1 = 0 → J V8))) ∧ (¬ r7 = k1 → False)))
theorem finM_ok {r r5 : UInt32} {V6 : Mm} (hn : FP.Core.val32 r ≠ .nan) (h0 : V6 57 0 = 0) (hr : r5 = r) (hJ : J V6) : finM J (vf_upd D 0 (FP.f2d r)) 0 r5 V6 := by
  have e : vf_upd D 0 (FP.f2d r) 0 = FP.f2d r := if_pos rfl
  unfold finM wp_X9_thrown
  rw [h0, hr, e, cmp_self (f2d_nn hn)]
  exact ⟨fun _ => ⟨fun _ => ⟨nn64 (f2d_nn hn), fun _ => hJ, fun q => absurd rfl q⟩, fun _ => hJ⟩, fun q => absurd rfl q⟩
theorem finM_no {r5 : UInt32} {V6 : Mm} {kk : Int32} (h0 : V6 57 0 = kk) (hk : kk ≠ 0) (hJ : J V6) : finM J D kk r5 V6 := by
  unfold finM wp_X9_thrown
  rw [h0]
  exact ⟨fun _ => ⟨fun q => absurd q hk, fun _ => hJ⟩, fun q => absurd rfl q⟩
theorem j_30 (hJ : JJ V) : wpc_30 V o D a1 a2 a3 JJ := by
  obtain ⟨n, k, a, b, w, pr, F, gr, H⟩ := hJ
  have h20 := GV_n20 (ST_g H)
  unfold wpc_30 wp_L_mean wp_X8_mean
  refine s_requireVertices (ST_g H) (fun u v hu hv e1 e2 => ?_) (fun hb => Or.inl ⟨rfl, ?_⟩)
  · rw [e1, e2]
    refine s_plantHolding H hu hv (fun hc V1 hf H1 cnt ord par dep pe lp R T hR => ?_) (fun hc V1 hs => Or.inr ⟨rfl, ?_⟩)
    · have hA := FV_ac (ST_f H1)
      have hd := TV_d T hR
      have hn := mean_nn (ps (V1 2) par (dep v) v) (c := dep v + 1) (by omega) (by omega)
      rw [e_sumFromRoot (ST_g H1) T hR, e_depthR (ST_g H1) T hR, nI_1]
      unfold wp_X8_quotient
      rw [mb_f (fun z => absurd ((nI_eq0 (by omega)).mp z) (by omega))]
      refine ⟨nn32 hn, nn64 (f2d_nn hn), ?_⟩
      show wp_X9_mean V1 (nI u) (nI v) (fun r5 V6 => finM JJ (vf_upd D 0 (FP.f2d (FP.fdiv (FP.i2f (ps (V1 2) par (dep v) v)) (FP.i2f (nI (dep v + 1)))))) 0 r5 V6)
      unfold wp_X9_mean wp_X9_pathSum
      refine f_isApart H1 hv hu (fun _ V2 hs2 h0 cnt2 ord2 par2 dep2 pe2 R2 T2 hR2 => ?_) (fun q => absurd (cn_symm hc) q)
      have hps : ps (V2 58) par2 (dep2 u) u = ps (V1 2) par (dep v) v := by
        rw [ps_both (V1 2) hA (TV_rt T) (RT_rt T2) (fun x => TV_lt T) (fun x => RT_lt T2) hR]
        exact ps_congr (RT_rt T2) (fun x => RT_lt T2) (fun x hx => by rw [SF_f hs2 58 (by omega), ST_v H1 x hx]) hR2
      rw [mb_t rfl]
      have H2 := ST_sf H1 hs2
      refine f_pathSum T2 h20 hR2 ?_
      rw [h0, mb_t (by decide)]
      unfold wp_X9_pathVertices
      refine f_isApart H2 hv hu (fun _ V3 hs3 h03 cnt3 ord3 par3 dep3 pe3 R3 T3 hR3 => ?_) (fun q => absurd (cn_symm hc) q)
      have hdd := rt_dep_symm hA (FV_fk (ST_f H1)) (TV_rt T) (RT_rt T3) hR
      rw [mb_t rfl, nI_clamp (by omega), RT_dep T3 hR3, nI_1, ← hdd, hps]
      exact ⟨nI_in (by omega) (by omega), nn32 hn, finM_ok hn h03 rfl (JJ_sf H2 hs3)⟩
    · show wp_X9_mean V1 (nI u) (nI v) (fun r5 V6 => finM JJ D 2 r5 V6)
      unfold wp_X9_mean wp_X9_pathSum
      refine f_isApart (ST_sf H hs) hv hu (fun q => absurd (cn_symm q) hc) (fun _ V2 hs2 h0 => ?_)
      rw [mb_f (by decide)]
      show ((V2 57 0 ≤ 0 → _) ∧ (¬ V2 57 0 ≤ 0 → finM JJ D 2 0 V2))
      rw [h0, mb_f (by decide)]
      exact finM_no h0 (by decide) (JJ_sf (ST_sf H hs) hs2)
  · show wp_X9_mean V a1 a2 (fun r5 V6 => finM JJ D 1 r5 V6)
    unfold wp_X9_mean wp_X9_pathSum
    refine f_isApart_bad H hb.symm (fun V2 hs h0 => ?_)
    rw [mb_f (by decide)]
    show ((V2 57 0 ≤ 0 → _) ∧ (¬ V2 57 0 ≤ 0 → finM JJ D 1 0 V2))
    rw [h0, mb_f (by decide)]
    exact finM_no h0 (by decide) (JJ_sf H hs)
end MEAN
