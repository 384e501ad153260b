theorem fm_0 : decode cJ9_floorMod_f86c9 0 = .ok (.lload_n 0, 1) := by decide +kernel
theorem fm_1 : decode cJ9_floorMod_f86c9 1 = .ok (.lload_n 2, 1) := by decide +kernel
theorem fm_2 : decode cJ9_floorMod_f86c9 2 = .ok (.lrem, 1) := by decide +kernel
theorem fm_3 : decode cJ9_floorMod_f86c9 3 = .ok (.lstore 4, 2) := by decide +kernel
theorem fm_5 : decode cJ9_floorMod_f86c9 5 = .ok (.lload_n 0, 1) := by decide +kernel
theorem fm_6 : decode cJ9_floorMod_f86c9 6 = .ok (.lload_n 2, 1) := by decide +kernel
theorem fm_7 : decode cJ9_floorMod_f86c9 7 = .ok (.lxor, 1) := by decide +kernel
theorem fm_8 : decode cJ9_floorMod_f86c9 8 = .ok (.lconst 0, 1) := by decide +kernel
theorem fm_9 : decode cJ9_floorMod_f86c9 9 = .ok (.lcmp, 1) := by decide +kernel
theorem fm_10 : decode cJ9_floorMod_f86c9 10 = .ok (.ifCond .ge 15, 3) := by decide +kernel
theorem fm_13 : decode cJ9_floorMod_f86c9 13 = .ok (.lload 4, 2) := by decide +kernel
theorem fm_15 : decode cJ9_floorMod_f86c9 15 = .ok (.lconst 0, 1) := by decide +kernel
theorem fm_16 : decode cJ9_floorMod_f86c9 16 = .ok (.lcmp, 1) := by decide +kernel
theorem fm_17 : decode cJ9_floorMod_f86c9 17 = .ok (.ifCond .eq 8, 3) := by decide +kernel
theorem fm_20 : decode cJ9_floorMod_f86c9 20 = .ok (.lload 4, 2) := by decide +kernel
theorem fm_22 : decode cJ9_floorMod_f86c9 22 = .ok (.lload_n 2, 1) := by decide +kernel
theorem fm_23 : decode cJ9_floorMod_f86c9 23 = .ok (.ladd, 1) := by decide +kernel
theorem fm_24 : decode cJ9_floorMod_f86c9 24 = .ok (.lreturn, 1) := by decide +kernel
theorem fm_25 : decode cJ9_floorMod_f86c9 25 = .ok (.lload 4, 2) := by decide +kernel
theorem fm_27 : decode cJ9_floorMod_f86c9 27 = .ok (.lreturn, 1) := by decide +kernel
theorem fm_noRow0 : (NativeRow.find? natives "java/lang/Math" "floorMod" "(JJ)J").isNone = true := by decide +kernel
theorem fm_noRow (p : Program) : NativeRow.find? p.tables.natives yJ9_floorMod_f86c9.cls yJ9_floorMod_f86c9.name yJ9_floorMod_f86c9.desc = none := by
  cases p <;> exact Option.isNone_iff_eq_none.mp fm_noRow0
def fm_spec (a b r : Int64) : Spec := { pre := .and (.code yJ9_floorMod_f86c9 cJ9_floorMod_f86c9 6 (some .long)) (.and (.count 2) (.and (.and (.isLong (.arg 0)) (.isLong (.arg 1))) (.and (.eq (.arg 0) (.long a)) (.eq (.arg 1) (.long b))))), post := .and .returned (.eq .result (.long r)), changes := some [] }
set_option maxHeartbeats 4000000 in
theorem fm_meets (l : Launch) (a b : Int64) (hb0 : ¬ b = 0) (r : Int64) (hr : r = if 0 < a ^^^ b then a - a / b * b else if a = b then a - a / b * b else if a - a / b * b = 0 then a - a / b * b else (a - a / b * b) + b) : MeetsLoose l yJ9_floorMod_f86c9 (fm_spec a b r) := by
  refine MeetsLoose.of_body_ov (code := cJ9_floorMod_f86c9) (maxLocals := 6) (ret := some .long) fm_noRow ?_ ?_
  · intro args s h
    simp only [fm_spec, Cond.before_and, Bool.and_eq_true] at h
    exact h.1
  · intro p e s m args below meth c s₁ B
    have hpre := B.pre
    simp only [fm_spec, Cond.before_and, Bool.and_eq_true] at hpre
    obtain ⟨a', b', rfl⟩ := Lib.MathLoose.two_longs hpre.2.1 hpre.2.2.1.1 hpre.2.2.1.2
    have ea : a' = a := by have := hpre.2.2.2.1; simpa [Cond.before, Cond.holds, Cond.value, Term.eval] using this
    have eb : b' = b := by have := hpre.2.2.2.2; simpa [Cond.before, Cond.holds, Cond.value, Term.eval] using this
    subst ea
    subst eb
    have hloc : argsToLocals #[.long a', .long b'] 6 = #[.val (.long a'), .second, .val (.long b'), .second, .unset, .unset] := rfl
    have fin : (∀ fs, Steps p.tables e below (s₁.setTop (entryFrame m #[.long a', .long b'] 6)) (s₁.setFrames fs) ∨ handOver s₁ (some (.long r)) below ≠ some fs) →
        ∃ s₂ o, Steps p.tables e below (s₁.setTop (entryFrame m #[.long a', .long b'] 6)) s₂ ∧ s₂.status = .running ∧ Ended s₂ below o ∧
          (fm_spec a' b' r).ensures #[.long a', .long b'] s o s₂ := by
      intro hwalk
      obtain ⟨fs, hfs⟩ := handOver_isSome (s := s₁) (some (.long r)) B.hears₁
      refine ⟨s₁.setFrames fs, .returned (some (.long r)), (hwalk fs).resolve_right (fun h => h hfs), B.here.running, B.ended hfs (by intro h; cases h), ?_, State.sameBut_nil.mpr ?_⟩
      · simp [fm_spec, Cond.after, Cond.holds, Cond.value, Term.eval]
      · rw [State.frames_setFrames _ B.cur₁, B.back]
    refine fin (fun fs => ?_)
    by_cases hfs : handOver s₁ (some (.long r)) below = some fs
    · left
      unfold entryFrame; rw [hloc]
      refine Steps.instrAtOv (c := _) (by simpa using B.here) ?_
      simp [jvm, wpRun, exec, B.here.top, B.exec, B.bytes, fm_0]
      refine Steps.instrAtOv (c := _) (by simpa using B.here) ?_
      simp [jvm, wpRun, exec, B.here.top, B.exec, B.bytes, fm_1]
      refine Steps.instrAtOv (c := _) (by simpa using B.here) ?_
      simp [jvm, wpRun, exec, B.here.top, B.exec, B.bytes, fm_2, hb0]
      refine Steps.instrAtOv (c := _) (by simpa using B.here) ?_
      simp [jvm, wpRun, exec, B.here.top, B.exec, B.bytes, fm_3]
      generalize a' - a' / b' * b' = w at hr ⊢
      refine ⟨#[Slot.val (Value.long a'), .second, .val (.long b'), .second, .val (.long w), .second], rfl, ?_⟩
      refine Steps.instrAtOv (c := _) (by simpa using B.here) ?_
      simp [jvm, wpRun, exec, B.here.top, B.exec, B.bytes, fm_5]
      refine Steps.instrAtOv (c := _) (by simpa using B.here) ?_
      simp [jvm, wpRun, exec, B.here.top, B.exec, B.bytes, fm_6]
      refine Steps.instrAtOv (c := _) (by simpa using B.here) ?_
      simp [jvm, wpRun, exec, B.here.top, B.exec, B.bytes, fm_7]
      refine Steps.instrAtOv (c := _) (by simpa using B.here) ?_
      simp [jvm, wpRun, exec, B.here.top, B.exec, B.bytes, fm_8]
      by_cases h1 : 0 < a' ^^^ b'
      · obtain rfl : r = w := by rw [hr, if_pos h1]
        refine Steps.instrAtOv (c := _) (by simpa using B.here) ?_
        simp [jvm, wpRun, exec, B.here.top, B.exec, B.bytes, fm_9, h1]
        refine Steps.instrAtOv (c := _) (by simpa using B.here) ?_
        simp [jvm, wpRun, exec, B.here.top, B.exec, B.bytes, fm_10, ifCond.holds]
        refine Steps.instrAtOv (c := _) (by simpa using B.here) ?_
        simp [jvm, wpRun, exec, B.here.top, B.exec, B.bytes, fm_25]
        refine Steps.instrAtOv (c := _) (by simpa using B.here) ?_
        simp [jvm, wpRun, exec, B.here.top, B.exec, B.bytes, fm_27, B.method₁, B.returns]
        intro acts
        rw [ret_to B.frames₁ B.method₁ B.notSynchronized rfl rfl hfs]
        exact Steps.refl _
      by_cases h2 : a' = b'
      · obtain rfl : r = w := by rw [hr, if_neg h1, if_pos h2]
        subst h2
        refine Steps.instrAtOv (c := _) (by simpa using B.here) ?_
        simp [jvm, wpRun, exec, B.here.top, B.exec, B.bytes, fm_9]
        refine Steps.instrAtOv (c := _) (by simpa using B.here) ?_
        simp [jvm, wpRun, exec, B.here.top, B.exec, B.bytes, fm_10, ifCond.holds]
        refine Steps.instrAtOv (c := _) (by simpa using B.here) ?_
        simp [jvm, wpRun, exec, B.here.top, B.exec, B.bytes, fm_25]
        refine Steps.instrAtOv (c := _) (by simpa using B.here) ?_
        simp [jvm, wpRun, exec, B.here.top, B.exec, B.bytes, fm_27, B.method₁, B.returns]
        intro acts
        rw [ret_to B.frames₁ B.method₁ B.notSynchronized rfl rfl hfs]
        exact Steps.refl _
      refine Steps.instrAtOv (c := _) (by simpa using B.here) ?_
      simp [jvm, wpRun, exec, B.here.top, B.exec, B.bytes, fm_9, h1, h2]
      refine Steps.instrAtOv (c := _) (by simpa using B.here) ?_
      simp [jvm, wpRun, exec, B.here.top, B.exec, B.bytes, fm_10, ifCond.holds]
      refine Steps.instrAtOv (c := _) (by simpa using B.here) ?_
      simp [jvm, wpRun, exec, B.here.top, B.exec, B.bytes, fm_13]
      refine Steps.instrAtOv (c := _) (by simpa using B.here) ?_
      simp [jvm, wpRun, exec, B.here.top, B.exec, B.bytes, fm_15]
      by_cases h3 : w = 0
      · obtain rfl : r = w := by rw [hr, if_neg h1, if_neg h2, if_pos h3]
        subst h3
        refine Steps.instrAtOv (c := _) (by simpa using B.here) ?_
        simp [jvm, wpRun, exec, B.here.top, B.exec, B.bytes, fm_16]
        refine Steps.instrAtOv (c := _) (by simpa using B.here) ?_
        simp [jvm, wpRun, exec, B.here.top, B.exec, B.bytes, fm_17, ifCond.holds]
        refine Steps.instrAtOv (c := _) (by simpa using B.here) ?_
        simp [jvm, wpRun, exec, B.here.top, B.exec, B.bytes, fm_25]
        refine Steps.instrAtOv (c := _) (by simpa using B.here) ?_
        simp [jvm, wpRun, exec, B.here.top, B.exec, B.bytes, fm_27, B.method₁, B.returns]
        intro acts
        rw [ret_to B.frames₁ B.method₁ B.notSynchronized rfl rfl hfs]
        exact Steps.refl _
      obtain rfl : r = w + b' := by rw [hr, if_neg h1, if_neg h2, if_neg h3]
      by_cases h4 : 0 < w
      · refine Steps.instrAtOv (c := _) (by simpa using B.here) ?_
        simp [jvm, wpRun, exec, B.here.top, B.exec, B.bytes, fm_16, h4]
        refine Steps.instrAtOv (c := _) (by simpa using B.here) ?_
        simp [jvm, wpRun, exec, B.here.top, B.exec, B.bytes, fm_17, ifCond.holds]
        refine Steps.instrAtOv (c := _) (by simpa using B.here) ?_
        simp [jvm, wpRun, exec, B.here.top, B.exec, B.bytes, fm_20]
        refine Steps.instrAtOv (c := _) (by simpa using B.here) ?_
        simp [jvm, wpRun, exec, B.here.top, B.exec, B.bytes, fm_22]
        refine Steps.instrAtOv (c := _) (by simpa using B.here) ?_
        simp [jvm, wpRun, exec, B.here.top, B.exec, B.bytes, fm_23]
        refine Steps.instrAtOv (c := _) (by simpa using B.here) ?_
        simp [jvm, wpRun, exec, B.here.top, B.exec, B.bytes, fm_24, B.method₁, B.returns]
        intro acts
        rw [ret_to B.frames₁ B.method₁ B.notSynchronized rfl rfl hfs]
        exact Steps.refl _
      refine Steps.instrAtOv (c := _) (by simpa using B.here) ?_
      simp [jvm, wpRun, exec, B.here.top, B.exec, B.bytes, fm_16, h4, h3]
      refine Steps.instrAtOv (c := _) (by simpa using B.here) ?_
      simp [jvm, wpRun, exec, B.here.top, B.exec, B.bytes, fm_17, ifCond.holds]
      refine Steps.instrAtOv (c := _) (by simpa using B.here) ?_
      simp [jvm, wpRun, exec, B.here.top, B.exec, B.bytes, fm_20]
      refine Steps.instrAtOv (c := _) (by simpa using B.here) ?_
      simp [jvm, wpRun, exec, B.here.top, B.exec, B.bytes, fm_22]
      refine Steps.instrAtOv (c := _) (by simpa using B.here) ?_
      simp [jvm, wpRun, exec, B.here.top, B.exec, B.bytes, fm_23]
      refine Steps.instrAtOv (c := _) (by simpa using B.here) ?_
      simp [jvm, wpRun, exec, B.here.top, B.exec, B.bytes, fm_24, B.method₁, B.returns]
      intro acts
      rw [ret_to B.frames₁ B.method₁ B.notSynchronized rfl rfl hfs]
      exact Steps.refl _
    · exact Or.inr hfs
theorem xor_neg (a b : Int64) : (a ^^^ b).toInt < 0 ↔ (a.toInt < 0 ∧ ¬ b.toInt < 0) ∨ (¬ a.toInt < 0 ∧ b.toInt < 0) := by
  have h : ∀ z : Int64, (z.toInt < 0) ↔ z.toBitVec.msb = true := fun z => by
    rw [BitVec.msb_eq_toInt, decide_eq_true_eq]; rfl
  rw [h, h, h, Int64.toBitVec_xor, BitVec.msb_xor]
  cases a.toBitVec.msb <;> cases b.toBitVec.msb <;> simp
theorem fm_val {x y : Int} (hx : r64 x) (hy : r64 y) (h0 : 0 < y) : i64 (x % y) = if 0 < i64 x ^^^ i64 y then i64 x - i64 x / i64 y * i64 y else if i64 x = i64 y then i64 x - i64 x / i64 y * i64 y else if i64 x - i64 x / i64 y * i64 y = 0 then i64 x - i64 x / i64 y * i64 y else (i64 x - i64 x / i64 y * i64 y) + i64 y := by
  have hm := r64_tmod hx hy (ne_of_pos h0)
  rw [i64_rem hx hy]
  have hp : 0 ≤ x → i64 (x % y) = i64 (x.tmod y) := fun h => by rw [Int.tmod_eq_emod_of_nonneg h]
  have hxt := i64_t hx
  have hyt := i64_t hy
  have hxn := xor_neg (i64 x) (i64 y)
  rw [hxt, hyt] at hxn
  split
  · rename_i h1
    rw [Int64.lt_iff_toInt_lt] at h1
    have : ¬ (i64 x ^^^ i64 y).toInt < 0 := by have e : (0 : Int64).toInt = 0 := rfl; omega
    exact hp (by rw [hxn] at this; omega)
  · split
    · rename_i h1 h2
      exact hp (by rw [i64_eq hx hy] at h2; omega)
    · rename_i h1 h2
      rw [Int64.lt_iff_toInt_lt] at h1
      have e : (0 : Int64).toInt = 0 := rfl
      have h3 : x < 0 := by
        rcases Int.lt_or_le x 0 with q | q
        · exact q
        · exfalso
          have h4 : ¬ (i64 x ^^^ i64 y).toInt < 0 := by rw [hxn]; omega
          have h5 : (i64 x ^^^ i64 y).toInt = 0 := by omega
          have h6 : i64 x ^^^ i64 y = 0 := Int64.toInt_inj.mp (by rw [h5, e])
          exact h2 (by
            have h7 : (i64 x ^^^ i64 y) ^^^ i64 y = 0 ^^^ i64 y := by rw [h6]
            simpa [Int64.xor_assoc] using h7)
      have hem : x % y = if x.tmod y = 0 then 0 else x.tmod y + y := by
        have h8 := Int.tmod_add_mul_tdiv x y
        have h9 := Int.emod_add_mul_ediv x y
        have h10 := Int.emod_nonneg x (by omega : y ≠ 0)
        have h11 := Int.emod_lt_of_pos x h0
        have h12 : -y < x.tmod y ∧ x.tmod y ≤ 0 := by
          have h13 := tmod_bounds (a := x) h0
          refine ⟨h13.1, ?_⟩
          have h14 : (-x).tmod y = -(x.tmod y) := Int.neg_tmod x y
          have h15 := Int.tmod_nonneg (a := -x) y (by omega)
          omega
        have h16 : x.tmod y % y = x % y := by
          have : (x.tmod y + y * x.tdiv y) % y = x.tmod y % y := Int.add_mul_emod_self_left _ _ _
          rw [h8] at this; exact this.symm
        split
        · rename_i q; rw [q] at h16; simpa using h16.symm
        · rename_i q
          rw [← h16]
          have : (x.tmod y + y) % y = x.tmod y % y := Int.add_emod_right _ _
          rw [← this]
          exact Int.emod_eq_of_lt (by omega) (by omega)
      have hz : (i64 (x.tmod y) = 0) ↔ x.tmod y = 0 := by
        rw [show (0 : Int64) = i64 0 from rfl, i64_eq hm r64_0]
      rw [hem]
      by_cases q : x.tmod y = 0
      · rw [if_pos q, if_pos (hz.mpr q), q]
      · rw [if_neg q, if_neg (fun z => q (hz.mp z)), i64_add]
section QF
variable {X : Cx} {cc : ByteArray} {own : String} {ret : Option FieldType} {nL k n pc : Nat} {lv : List (Nat × Value)} {st : List Value} {ws : va_W}
theorem q_fmod (g : Gd X cc own ret nL) (ix : Nat) {x y : Int} (hx : r64 x) (hy : r64 y) (h0 : 0 < y) (w1 : Cond.methodLink own ix yJ9_floorMod_f86c9 ∈ TT) (w2 : Cond.static yJ9_floorMod_f86c9 ∈ TT) (w3 : Cond.initialized "java/lang/Math" ∈ TT) (w4 : Cond.code yJ9_floorMod_f86c9 cJ9_floorMod_f86c9 6 (some .long) ∈ TT) (hroom : 1 ≤ X.R.frames ∧ 100 ≤ X.R.locals ∧ k ≤ X.R.cells ∧ n ≤ X.R.slots) (hst : (st.map fun v => v.category).sum ≤ 8) (hd : decode cc pc = .ok (.invokestatic ix, 3)) (K : Wat X k n (pc + 3) lv (.long (i64 (x % y)) :: st) ws) : Wat X k n pc lv (.long (i64 y) :: .long (i64 x) :: st) ws := fun ls H locs hl hP hD hS => by
  intro T hT S
  have hb := g.b
  obtain ⟨v, T', X', ⟨first, t, hpost⟩, hstep⟩ := S.staticByContractV g.x g.ow (g.ts _ w1) (g.ts _ w2) (g.ts _ w3) (g.ts _ w4) (by decide)
    (fm_meets X.l (i64 x) (i64 y) (fun h => ne_of_pos h0 ((i64_eq hy r64_0).mp (by rw [h]; rfl))) (i64 (x % y)) (fm_val hx hy h0))
    rfl rfl rfl rfl
    (fun args' first o s₂ h => by
      cases o with
      | returned r => exact ⟨r, rfl⟩
      | threw yy =>
        have hz : (fm_spec (i64 x) (i64 y) (i64 (x % y))).post.value args' first (some (.threw yy)) s₂ [] = some true := by simpa [Cond.after, Cond.holds] using h
        exact absurd hz va_nvRet)
    (g := F0 X.m pc ls (.long (i64 y) :: .long (i64 x) :: st)) rfl (by rw [g.ml]; exact hl.1) (argsL := [.long (i64 x), .long (i64 y)]) (rest := st)
    (fun sig hs => by
      have h : parseMethodDescriptor "(JJ)J" = some { parameters := [.long, .long], returnType := some .long } := by decide +kernel
      rw [show yJ9_floorMod_f86c9.desc = "(JJ)J" from rfl, h] at hs
      rw [← Option.some.inj hs]; rfl)
    rfl (by rw [hb]; exact hd)
    (fun vm' hW => by
      simp only [fm_spec, Cond.before_and, Bool.and_eq_true]
      refine ⟨?_, rfl, ⟨rfl, rfl⟩, ?_, ?_⟩
      · have q := g.ts _ w4
        rw [← Cond.code_setVm hW.alike] at q
        simp only [Cond.before, Cond.holds, Cond.value, State.methodNamed?, State.vm_setVm] at q ⊢
        exact q
      · simp [Cond.before, Cond.holds, Cond.value, Term.eval]
      · simp [Cond.before, Cond.holds, Cond.value, Term.eval])
    (by show 0 + 1 ≤ X.R.frames; have := hroom.1; omega) (by have h1 := lv_room (m := X.m) (pc := pc) (ls := ls) (rest := (.long (i64 y) :: .long (i64 x) :: st)) hst; have h2 := hroom.2.1; show _ + _ + (6 + 11) + 0 ≤ X.R.locals; omega) (by show k + 0 ≤ X.R.cells; have := hroom.2.2.1; omega) (by show n + 0 ≤ X.R.slots; have := hroom.2.2.2; omega)
  have hv : v = some (.long (i64 (x % y))) := by
    rcases v with _ | w
    · simp [fm_spec, Cond.after, Cond.holds, Cond.value, Term.eval] at hpost
    · cases w <;> simp [fm_spec, Cond.after, Cond.holds, Cond.value, Term.eval] at hpost
      rw [hpost]
  subst hv
  obtain ⟨t2, a1, b1⟩ := K ls H locs hl hP hD hS (T.setVm T') hT X'
  exact ⟨t2, hstep t2 a1, b1⟩
end QF
