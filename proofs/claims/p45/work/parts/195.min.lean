/-! Math.min of longs -/
theorem rs_lM : Jvm.Cond.methodLink RX2 85 Lib.MathLoose.min_long.x ∈ rv_tbl := (rv_mem4 (i := 214) (by decide +kernel) rfl)
theorem rs_iM : Jvm.Cond.static Lib.MathLoose.min_long.x ∈ rv_tbl := (rv_mem4 (i := 215) (by decide +kernel) rfl)
theorem rs_nM : Jvm.Cond.initialized "java/lang/Math" ∈ rv_tbl := (rv_mem1 (i := 17) (by decide +kernel) rfl)
theorem rs_cM : Jvm.Cond.code Lib.MathLoose.min_long.x Lib.MathLoose.min_long.code 4 (some .long) ∈ rv_tbl := (rv_mem4 (i := 216) (by decide +kernel) rfl)
theorem rs_min {p : Program} {l : Launch} {e : Env} {R : Room} {s : State} {m : MethodId} {args : Array Value} {below : List Frame} {meth : Method} {c : Code} {Q : State → Prop} {D : va_G} {cl : List vw_C} {A : Nat → Prop} {cy : Nat → ClassId} {nL : Nat} {st : Nat → Nat} {cc : ByteArray} {own : String} {y0 : MethodName} {ret0 : Option FieldType} {pc idx : Nat} {K : rv_K} {x y : Nat} (Cx : rv_Cx p s m args c cc own nL (rv_ws y0 cc nL ret0) D cl cy A st) (hw : rv_wfK K = true) (hl : Jvm.Cond.methodLink own idx Lib.MathLoose.min_long.x ∈ rv_tbl) (hdg : decode cc pc = .ok (.invokestatic idx, 3)) (hargs : K.2.1 = [(1, x), (1, y)]) (hout : K.2.2.2.1 = [([], [(rv_lo64, rv_hi64, K.1.length, Int.ofNat 0, [])], some (1, K.1.length), K.2.2.1)]) (hmc : K.2.2.2.2.1 = 0) (hms : K.2.2.2.2.2 = 0) (hR : 1 ≤ R.frames ∧ 23 ≤ R.locals) : rv_CallOk p l e R s m args below meth c Q D cl A cy nL st pc K := by
  obtain ⟨hx, hbb, hml, hown, hts, hK, hA, hSt⟩ := id Cx
  intro g ls H locs cn sn rest hsz hgs hpre hP hD hS hrest hce hsl kk
  rw [hargs]
  rw [hmc] at hce
  rw [hms] at hsl
  show W p l e R s m args below meth c H locs cn sn Q (F0 m pc ls (.long (Int64.ofInt (g.1 y)) :: .long (Int64.ofInt (g.1 x)) :: rest))
  refine va_mmin_long hx hbb (by rw [hml, hsz]) hown (hts _ (List.mem_cons_of_mem _ hl)) (hts _ (List.mem_cons_of_mem _ rs_iM)) (hts _ (List.mem_cons_of_mem _ rs_nM)) (hts _ (List.mem_cons_of_mem _ rs_cM)) hR.1 (by omega) (by omega) (by omega) hdg ?_
  generalize (if Int64.ofInt (g.1 y) < Int64.ofInt (g.1 x) then Int64.ofInt (g.1 y) else Int64.ofInt (g.1 x)) = v
  unfold rv_wfK at hw
  rw [Bool.and_eq_true, Bool.and_eq_true, Bool.and_eq_true] at hw
  have hok : ∀ cd ∈ K.2.2.1, rv_okc K.1.length K.2.2.1.length cd := fun cd hcd => rv_okcb_ok (List.all_eq_true.mp hw.2.2.1 cd hcd)
  have hag := rv_up_ag g K.1.length K.2.2.1.length v.toInt (fun _ => 0)
  have ew : rv_w cy (rv_up g K.1.length v.toInt (fun _ => 0)) K.2.2.1 = rv_w cy g K.2.2.1 := rv_w_ag hag hok
  have h9 := kk _ (by rw [hout]; exact List.mem_singleton.mpr rfl) (rv_up g K.1.length v.toInt (fun _ => 0)) H locs ⟨fun i hi => rv_z_ag hag hi, fun _ _ => rfl, rfl, fun q hq => (by cases hq), fun i b hb => ?_, fun k a hk => rv_a_ag hag (hok _ (List.mem_of_getElem? hk)) (hpre.2 k a hk)⟩ (by rw [ew]; exact hP) (by rw [ew]; exact hD) hS
  · rw [hmc, hms] at h9
    have e1 : rv_v (rv_up g K.1.length v.toInt (fun _ => 0)) (1, K.1.length) = .long v := by
      show Value.long (Int64.ofInt ((rv_up g K.1.length v.toInt (fun _ => 0)).1 K.1.length)) = .long v
      rw [rv_up_self, Int64.ofInt_toInt]
    have h9 : W p l e R s m args below meth c H locs cn sn Q (F0 m (pc + 3) ls (rv_v (rv_up g K.1.length v.toInt (fun _ => 0)) (1, K.1.length) :: rest)) := h9
    rw [e1] at h9
    exact h9
  · match i, hb with
    | 0, hb =>
      have hb : (rv_lo64, rv_hi64, K.1.length, Int.ofNat 0, ([] : List rv_Fc)) = b := Option.some.inj hb
      subst hb
      rw [Nat.add_zero, rv_up_self]
      have z1 := Int64.le_toInt v
      have z2 := Int64.toInt_lt v
      have y1 := rv_lo64_eq
      have y2 : rv_hi64 = 9223372036854775807 := by decide
      refine ⟨by show rv_lo64 ≤ _; omega, by show _ ≤ rv_hi64; omega, by show v.toInt = v.toInt + 0; omega, fun q hq => by cases hq⟩
    | i + 1, hb => cases hb
