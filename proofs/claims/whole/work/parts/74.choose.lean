/-! ===== the class's choice of divisors ===== -/
def tkb (F : List Nat) (j y : Nat) : Bool := match F.drop (F.length - (j + 1)) with
  | [] => false
  | d :: r => decide (d ≤ y ∧ lst r (y - d) + 1 ≤ lst r y ∧ lst r (y - d) + 1 < 1000)
theorem tkb_eq {F : List Nat} {j y d : Nat} {r : List Nat} (h : F.drop (F.length - (j + 1)) = d :: r) : tkb F j y = decide (d ≤ y ∧ lst r (y - d) + 1 ≤ lst r y ∧ lst r (y - d) + 1 < 1000) := by
  unfold tkb
  rw [h]
theorem ch45 {Q : (Int → Int) → (Int → Int) → (Int → Int) → Int → Prop} {dv : Int → Int} {n : Int} {K : (Int → Int) → (Int → Int) → (Int → Int) → Int → Int → Int → Prop} {co : Int → Int} {sz : Int} {t k d : Nat} {r : List Nat} (ht : t ≤ 5000) (hk : k < 48) (hd1 : 1 ≤ d)
    {g0 : Int → Int} (hg0 : ∀ y : Nat, y ≤ t → bt (g0 y) k = false)
    (h : ∀ f g : Int → Int, (∀ y : Nat, y ≤ t → f y = (lst (d :: r) y : Nat)) → (∀ y j : Nat, y ≤ t → j ≠ k → bt (g y) j = bt (g0 y) j) → (∀ y : Nat, y ≤ t → bt (g y) k = decide (d ≤ y ∧ lst r (y - d) + 1 ≤ lst r y ∧ lst r (y - d) + 1 < 1000)) → K f g co sz t ((k + 1 : Nat) : Int)) :
    ∀ (x : Nat) (f g : Int → Int), x ≤ t + 1 → (∀ y : Nat, y < x → f y = (lst r y : Nat)) → (∀ y : Nat, x ≤ y → y ≤ t → f y = (lst (d :: r) y : Nat)) → (∀ y j : Nat, y ≤ t → j ≠ k → bt (g y) j = bt (g0 y) j) → (∀ y : Nat, y < x → g y = g0 y) → (∀ y : Nat, x ≤ y → y ≤ t → bt (g y) k = decide (d ≤ y ∧ lst r (y - d) + 1 ≤ lst r y ∧ lst r (y - d) + 1 < 1000)) →
      wp_X0_choose_45 Q dv n K (x + 1) f g co sz t k d ((x : Int) - 1) := by
  intro x
  have fin : ∀ (x : Nat) (f g : Int → Int), x ≤ t + 1 → x ≤ d → (∀ y : Nat, y < x → f y = (lst r y : Nat)) → (∀ y : Nat, x ≤ y → y ≤ t → f y = (lst (d :: r) y : Nat)) → (∀ y j : Nat, y ≤ t → j ≠ k → bt (g y) j = bt (g0 y) j) → (∀ y : Nat, y < x → g y = g0 y) → (∀ y : Nat, x ≤ y → y ≤ t → bt (g y) k = decide (d ≤ y ∧ lst r (y - d) + 1 ≤ lst r y ∧ lst r (y - d) + 1 < 1000)) → K f g co sz t ((k + 1 : Nat) : Int) := by
    intro x f g hx hxd a1 a2 a3 a4 a5
    refine h f g (fun y hy => ?_) a3 (fun y hy => ?_)
    · rcases Nat.lt_or_ge y x with w | w
      · rw [a1 y w, lst_big (by omega)]
      · exact a2 y w hy
    · rcases Nat.lt_or_ge y x with w | w
      · rw [a4 y w, hg0 y hy, decide_eq_false (by omega)]
      · exact a5 y w hy
  induction x with
  | zero =>
    intro f g hx a1 a2 a3 a4 a5
    rw [wp_X0_choose_45]
    have e1 : (k : Int) + 1 = ((k + 1 : Nat) : Int) := rfl
    rw [e1]
    exact ⟨fun _ => ⟨⟨by omega, by omega⟩, fin 0 f g hx (by omega) a1 a2 a3 a4 a5⟩, fun z => absurd z (by omega)⟩
  | succ x ih =>
    intro f g hx a1 a2 a3 a4 a5
    rw [wp_X0_choose_45]
    unfold wp_X0_choose_106
    have e1 : (k : Int) + 1 = ((k + 1 : Nat) : Int) := rfl
    have e0 : ((x + 1 : Nat) : Int) - 1 = (x : Int) := by omega
    have e9 : (x : Int) + (-1) = (x : Int) - 1 := rfl
    rw [e0, e1, e9]
    refine ⟨fun z => ⟨⟨by omega, by omega⟩, fin (x + 1) f g hx (by omega) a1 a2 a3 a4 a5⟩, fun z => ?_⟩
    have hdx : d ≤ x := by omega
    have e2 : (x : Int) - (d : Int) = ((x - d : Nat) : Int) := by omega
    rw [e2, a1 (x - d) (by omega), a1 x (by omega)]
    have b1 := lst_le r (x - d)
    have b2 := lst_le r x
    -- nothing changes
    have keep : ¬ (lst r (x - d) + 1 ≤ lst r x ∧ lst r (x - d) + 1 < 1000) → (r32 ((x : Int) - 1) ∧ wp_X0_choose_45 Q dv n K (x + 1) f g co sz t k d ((x : Int) - 1)) := by
      intro hn
      refine ⟨⟨by omega, by omega⟩, ih f g (by omega) (fun y hy => a1 y (by omega)) (fun y h1 h2 => ?_) a3 (fun y hy => a4 y (by omega)) (fun y h1 h2 => ?_)⟩
      · by_cases ey : y = x
        · subst ey
          rw [a1 y (by omega), lst_w hdx]
          split <;> omega
        · exact a2 y (by omega) h2
      · by_cases ey : y = x
        · subst ey
          rw [a4 y (by omega), hg0 y h2, decide_eq_false (by omega)]
        · exact a5 y (by omega) h2
    refine ⟨⟨by omega, by omega⟩, by omega, by omega, ⟨by omega, by omega⟩, fun v hv => ⟨by omega, by omega, fun w => keep (by omega), fun w => ⟨fun u => keep (by omega), fun u => ⟨by omega, by omega, by omega, by omega, fun c hc => ⟨by omega, by omega, ⟨by omega, by omega⟩, ih _ _ (by omega) (fun y hy => ?_) (fun y h1 h2 => ?_) (fun y j h1 h2 => ?_) (fun y hy => ?_) (fun y h1 h2 => ?_)⟩⟩⟩⟩⟩
    · rw [ups_n (by omega)]; exact a1 y (by omega)
    · by_cases ey : y = x
      · subst ey
        rw [ups_s, hv, lst_w hdx]
        split <;> omega
      · rw [ups_n (by omega)]; exact a2 y (by omega) h2
    · by_cases ey : y = x
      · subst ey
        rw [ups_s, hc, bt_lor, bt_pow (by omega), decide_eq_false h2, Bool.or_false]
        exact a3 y j h1 h2
      · rw [ups_n (by omega)]; exact a3 y j h1 h2
    · rw [ups_n (by omega)]; exact a4 y (by omega)
    · by_cases ey : y = x
      · subst ey
        rw [ups_s, hc, bt_lor, bt_pow (by omega), decide_eq_true rfl, Bool.or_true, decide_eq_true (by omega)]
      · rw [ups_n (by omega)]; exact a5 y (by omega) h2
theorem rc9 {Q : (Int → Int) → Int → Prop} {F : List Nat} {dv tk : Int → Int} {t : Nat} {A : List Nat} (ht : t ≤ 5000) (hF : F.length ≤ 48) (hFd : ∀ d ∈ F, 1 ≤ d ∧ d ≤ 5000) (hdv : rep dv F.reverse) (htk : ∀ y j : Nat, y ≤ t → j < F.length → bt (tk y) j = tkb F j y) (h : ∀ f, rep f A → Q f (A.length : Nat)) :
    ∀ (k x : Nat) (C : List Nat) (f : Int → Int), k ≤ F.length → x ≤ t → rep f C → C.length + k ≤ F.length → lst (F.drop (F.length - k)) x < 1000 → C ++ chs (F.drop (F.length - k)) x = A → wp_X0_readChosen_9 Q dv tk (F.length : Nat) (k + 1) f (C.length : Nat) x ((k : Int) - 1) := by
  intro k
  induction k with
  | zero =>
    intro x C f hk hx hr hl hlt hA
    rw [wp_X0_readChosen_9]
    unfold wp_X0_readChosen_72
    rw [Nat.sub_zero, List.drop_length, chs, List.append_nil] at hA
    subst hA
    exact ⟨fun _ => h f hr, fun z => absurd z (by omega)⟩
  | succ k ih =>
    intro x C f hk hx hr hl hlt hA
    rw [wp_X0_readChosen_9]
    unfold wp_X0_readChosen_72 wp_X0_readChosen_66
    have e0 : ((k + 1 : Nat) : Int) - 1 = (k : Int) := by omega
    have e9 : (k : Int) + (-1) = (k : Int) - 1 := rfl
    rw [e0, e9]
    obtain ⟨d, hd, hdk, hdrop⟩ := drop_s hdv (show k < F.length by omega)
    rw [hdk]
    have hdb := hFd d hd
    have hbit := htk x k hx (by omega)
    rw [tkb_eq hdrop] at hbit
    rw [ubit (show k < 64 by omega), hbit]
    rw [hdrop] at hlt hA
    refine ⟨fun z => absurd z (by omega), fun _ => ⟨fun z => ?_, fun z => ⟨by omega, by omega, fun w => ⟨⟨by omega, by omega⟩, ?_⟩, fun w => ?_⟩⟩⟩
    · have : x = 0 := by omega
      subst this
      rw [chs_0, List.append_nil] at hA
      subst hA
      exact h f hr
    · have hno : ¬ (d ≤ x ∧ lst (F.drop (F.length - k)) (x - d) + 1 ≤ lst (F.drop (F.length - k)) x ∧ lst (F.drop (F.length - k)) (x - d) + 1 < 1000) := by
        intro y
        rw [decide_eq_true y] at w
        exact absurd w (by decide)
      generalize F.drop (F.length - k) = r at *
      have hb := lst_le r x
      have e3 : lst (d :: r) x = lst r x := by
        by_cases hdx : d ≤ x
        · rw [lst_w hdx] at hlt ⊢
          split
          · rename_i q; rw [if_pos q] at hlt; exact absurd ⟨hdx, by omega, by omega⟩ hno
          · rfl
        · exact lst_big (by omega)
      have e4 : chs (d :: r) x = chs r x := by
        rw [chs, if_neg (by omega), if_neg]
        rintro ⟨q1, q2⟩
        rw [e3] at q2
        rw [e3] at hlt
        exact hno ⟨q1, by omega, by omega⟩
      rw [e3] at hlt
      rw [e4] at hA
      exact ih x C f (by omega) hx hr (by omega) hlt hA
    · have hyes : d ≤ x ∧ lst (F.drop (F.length - k)) (x - d) + 1 ≤ lst (F.drop (F.length - k)) x ∧ lst (F.drop (F.length - k)) (x - d) + 1 < 1000 := by
        by_cases y : d ≤ x ∧ lst (F.drop (F.length - k)) (x - d) + 1 ≤ lst (F.drop (F.length - k)) x ∧ lst (F.drop (F.length - k)) (x - d) + 1 < 1000
        · exact y
        · rw [decide_eq_false y] at w
          exact absurd rfl w
      generalize F.drop (F.length - k) = r at *
      obtain ⟨q1, q2, q3⟩ := hyes
      have e3 : lst r (x - d) + 1 = lst (d :: r) x := by
        rw [lst_w q1]
        split <;> omega
      have e4 : chs (d :: r) x = d :: chs r (x - d) := by rw [chs, if_neg (by omega), if_pos ⟨q1, e3⟩]
      rw [e4] at hA
      refine ⟨by omega, by omega, fun a ha => ⟨by omega, by omega, ⟨by omega, by omega⟩, fun b hb => ⟨by omega, by omega, ⟨by omega, by omega⟩, fun c hc => ⟨⟨by omega, by omega⟩, ?_⟩⟩⟩⟩
      have e5 : b = (((C ++ [d]).length : Nat) : Int) := by rw [List.length_append, List.length_singleton]; omega
      have e6 : c = ((x - d : Nat) : Int) := by omega
      rw [ha, e5, e6]
      exact ih (x - d) (C ++ [d]) _ (by omega) (by omega) (rep_add hr) (by rw [List.length_append, List.length_singleton]; omega) (by omega) (by rw [List.append_assoc]; exact hA)
theorem ch27 {Q : (Int → Int) → (Int → Int) → (Int → Int) → Int → Prop} {F : List Nat} {dv co : Int → Int} {t : Nat} (ht : t ≤ 5000) (hF : F.length ≤ 48) (hFd : ∀ d ∈ F, 1 ≤ d ∧ d ≤ 5000) (hdv : rep dv F.reverse) (hlt : lst F t < 1000) (h : ∀ f g c, rep c (chs F t) → Q f g c ((chs F t).length : Nat)) :
    ∀ (c k : Nat) (f g : Int → Int), k + c = F.length → (∀ y : Nat, y ≤ t → f y = (lst (F.drop (F.length - k)) y : Nat)) → (∀ y j : Nat, y ≤ t → bt (g y) j = (decide (j < k) && tkb F j y)) → wp_X0_choose_27 Q dv (F.length : Nat) (c + 1) f g co 0 t k := by
  intro c
  induction c with
  | zero =>
    intro k f g hk hf hg
    rw [wp_X0_choose_27]
    have e3 : k = F.length := by omega
    subst e3
    refine ⟨fun _ => ⟨⟨by omega, by omega⟩, fun x hx => ⟨F.length + 1, ?_⟩⟩, fun z => absurd z (by omega)⟩
    rw [hx]
    refine rc9 (A := chs F t) ht hF hFd hdv (fun y j hy hj => ?_) (fun f' hr' => h f g f' hr') F.length t [] co (Nat.le_refl _) (Nat.le_refl _) (rep_nil _) (by simp) (by rw [Nat.sub_self, List.drop_zero]; exact hlt) (by rw [Nat.sub_self, List.drop_zero]; rfl)
    rw [hg y j hy, decide_eq_true hj, Bool.true_and]
  | succ c ih =>
    intro k f g hk hf hg
    rw [wp_X0_choose_27]
    obtain ⟨d, hd, hdk, hdrop⟩ := drop_s hdv (show k < F.length by omega)
    refine ⟨fun z => absurd z (by omega), fun _ => ⟨by omega, by omega, fun x hx => ⟨t + 1 + 1, ?_⟩⟩⟩
    rw [hx, hdk]
    have := ch45 (Q := Q) (dv := dv) (n := (F.length : Nat)) (K := wp_X0_choose_27 Q dv (F.length : Nat) (c + 1)) (co := co) (sz := 0) (t := t) (k := k) (d := d) (r := F.drop (F.length - k)) ht (by omega) (hFd d hd).1 (g0 := g) (fun y hy => by rw [hg y k hy, decide_eq_false (by omega), Bool.false_and]) (fun f' g' h1 h2 h3 => ?_) (t + 1) f g (Nat.le_refl _) (fun y hy => hf y (by omega)) (fun y h1 h2 => by omega) (fun y j _ _ => rfl) (fun y _ => rfl) (fun y h1 h2 => by omega)
    · have e0 : ((t + 1 : Nat) : Int) - 1 = (t : Int) := by omega
      rw [e0] at this
      exact this
    · refine ih (k + 1) f' g' (by omega) (fun y hy => by rw [h1 y hy, hdrop]) (fun y j hy => ?_)
      by_cases ej : j = k
      · subst ej
        rw [h3 y hy, tkb_eq hdrop, decide_eq_true (show j < j + 1 by omega), Bool.true_and]
      · rw [h2 y j hy ej, hg y j hy]
        by_cases w : j < k
        · rw [decide_eq_true w, decide_eq_true (show j < k + 1 by omega)]
        · rw [decide_eq_false w, decide_eq_false (show ¬ j < k + 1 by omega)]
theorem choose0 {Q : (Int → Int) → (Int → Int) → (Int → Int) → Int → Prop} {F : List Nat} {dv fe ta co : Int → Int} {t : Nat} (ht : t ≤ 5000) (hF : F.length ≤ 48) (hFd : ∀ d ∈ F, 1 ≤ d ∧ d ≤ 5000) (hdv : rep dv F.reverse) (hlt : lst F t < 1000) (h : ∀ f g c, rep c (chs F t) → Q f g c ((chs F t).length : Nat)) : wp_X0_choose Q dv fe ta co (F.length : Nat) 0 t := by
  unfold wp_X0_choose
  refine fillI (by omega) (fun f1 h1 => fillL (by omega) (fun g1 g2 => ⟨F.length + 1, ch27 ht hF hFd hdv hlt h F.length 0 _ _ (by omega) (fun y hy => ?_) (fun y j hy => ?_)⟩) ta) fe
  · rw [Nat.sub_zero, List.drop_length, lst]
    by_cases e : y = 0
    · subst e
      rw [if_pos rfl]
      exact if_pos rfl
    · rw [if_neg e, ups_n (by omega), h1 y (by omega)]; rfl
  · rw [g2 y (by omega), bt_0]
    simp
