/-! ===== the reference's divisors and its table of the fewest ===== -/
theorem fdv7 {Q : Int → (Int → Int) → Prop} {v : Nat} (h1 : 1 ≤ v) (hv : v ≤ 5000) (h : ∀ f, rep f (dvL v v).reverse → Q ((dvL v v).length : Nat) f) :
    ∀ (k d : Nat) (f : Int → Int), d + k = v → rep f (dvL v d).reverse → wp_X8_findDivisors_7 Q (k + 1) ((dvL v d).length : Nat) f v ((d + 1 : Nat) : Int) := by
  intro k
  induction k with
  | zero =>
    intro d f hd hr
    have e : d = v := by omega
    subst e
    rw [wp_X8_findDivisors_7]
    exact ⟨fun _ => h f hr, fun z => absurd z (by omega)⟩
  | succ k ih =>
    intro d f hd hr
    rw [wp_X8_findDivisors_7]
    unfold wp_X8_findDivisors_38
    rw [nm_tmod]
    have e1 : ((d + 1 : Nat) : Int) + 1 = ((d + 1 + 1 : Nat) : Int) := rfl
    rw [e1]
    have nx := ih (d + 1)
    rw [dvL_s] at nx
    have hb := dvL_48 (v := v) (n := d + 1) h1 hv
    refine ⟨fun z => absurd z (by omega), fun _ => ⟨by omega, fun z => ⟨⟨by omega, by omega⟩, ?_⟩, fun z => ?_⟩⟩
    · rw [if_neg (fun w => z (by rw [w]; rfl))] at nx
      exact nx f (by omega) hr
    · have hz : v % (d + 1) = 0 := Int.ofNat.inj z
      rw [dvL_s, if_pos hz, List.length_cons] at hb
      rw [if_pos hz] at nx
      refine ⟨by omega, by omega, ⟨by omega, by omega⟩, fun x hx => ⟨⟨by omega, by omega⟩, ?_⟩⟩
      have ex : x = ((((d + 1) :: dvL v d).length : Nat) : Int) := by rw [List.length_cons]; omega
      rw [ex]
      refine nx _ (by omega) ?_
      rw [List.reverse_cons]
      have := rep_add (s := d + 1) hr
      rw [List.length_reverse] at this
      exact this
theorem findDivisors8 {Q : Int → (Int → Int) → Prop} {v : Nat} {n : Int} {f : Int → Int} (h1 : 1 ≤ v) (hv : v ≤ 5000) (h : ∀ f, rep f (dvL v v).reverse → Q ((dvL v v).length : Nat) f) : wp_X8_findDivisors Q n f v :=
  ⟨v + 1, fdv7 h1 hv h v 0 f (by omega) (rep_nil f)⟩
theorem lst_w {d : Nat} {r : List Nat} {x : Nat} (h : d ≤ x) : lst (d :: r) x = if lst r (x - d) + 1 < lst r x then lst r (x - d) + 1 else lst r x := by
  rw [lst_cons]
  simp only [if_pos h]
/-- the table's rows 0 to k stand -/
def LR (F : List Nat) (to : Nat) (k : Nat) (f : Int → Int) : Prop := ∀ j x : Nat, j ≤ k → x ≤ to → f ((5001 * j + x : Nat) : Int) = (lst (F.drop (F.length - j)) x : Nat)
theorem fls2 {Q : (Int → Int) → Prop} {N : Int} {dv : Int → Int} {to : Nat} (hto : to ≤ 5000) (h : ∀ f, LR [] to 0 f → ∃ n0 : Nat, wp_X8_findLeast_32 Q N dv n0 f to 1) :
    ∀ (k x : Nat) (f : Int → Int), x + k = to + 1 → (∀ y : Nat, y < x → f y = (lst [] y : Nat)) → wp_X8_findLeast_2 Q N dv (k + 1) f to x := by
  intro k
  induction k with
  | zero =>
    intro x f hx hf
    rw [wp_X8_findLeast_2]
    refine ⟨fun _ => h f (fun j y hj hy => ?_), fun z => absurd z (by omega)⟩
    have : j = 0 := by omega
    subst this
    rw [Nat.mul_zero, Nat.zero_add]
    exact hf y (by omega)
  | succ k ih =>
    intro x f hx hf
    rw [wp_X8_findLeast_2]
    unfold wp_X8_findLeast_23
    have e1 : (x : Int) + 1 = ((x + 1 : Nat) : Int) := rfl
    rw [e1]
    have step : ∀ w : Int, w = (lst [] x : Nat) → wp_X8_findLeast_2 Q N dv (k + 1) (ups f x w) to ((x + 1 : Nat) : Int) := by
      intro w hw
      refine ih (x + 1) _ (by omega) (fun y hy => ?_)
      by_cases e : y = x
      · subst e; rw [ups_s, hw]
      · rw [ups_n (by omega)]; exact hf y (by omega)
    refine ⟨fun z => absurd z (by omega), fun _ => ⟨fun z => ⟨by omega, by omega, ⟨by omega, by omega⟩, step _ ?_⟩, fun z => ⟨by omega, by omega, ⟨by omega, by omega⟩, step _ ?_⟩⟩⟩
    · rw [lst, if_neg (by omega)]; rfl
    · rw [lst, if_pos (by omega)]; rfl
theorem fls52 {Q : (Int → Int) → Prop} {N : Int} {dv : Int → Int} {K : (Int → Int) → Int → Int → Prop} {to k d : Nat} {r : List Nat} (hto : to ≤ 5000) (hk : k < 48) (hd : d ≤ 5000)
    {g : Int → Int} (hg : ∀ x : Nat, x ≤ to → g ((5001 * k + x : Nat) : Int) = (lst r x : Nat))
    (h : ∀ f : Int → Int, (∀ j x : Nat, j ≤ k → x ≤ 5000 → f ((5001 * j + x : Nat) : Int) = g ((5001 * j + x : Nat) : Int)) → (∀ x : Nat, x ≤ to → f ((5001 * (k + 1) + x : Nat) : Int) = (lst (d :: r) x : Nat)) → K f to ((k + 1 + 1 : Nat) : Int)) :
    ∀ (c x : Nat) (f : Int → Int), x + c = to + 1 → (∀ j x : Nat, j ≤ k → x ≤ 5000 → f ((5001 * j + x : Nat) : Int) = g ((5001 * j + x : Nat) : Int)) → (∀ y : Nat, y < x → f ((5001 * (k + 1) + y : Nat) : Int) = (lst (d :: r) y : Nat)) →
      wp_X8_findLeast_52 Q N dv K (c + 1) f to ((k + 1 : Nat) : Int) d x := by
  intro c
  induction c with
  | zero =>
    intro x f hx hf1 hf2
    rw [wp_X8_findLeast_52]
    exact ⟨fun _ => ⟨⟨by omega, by omega⟩, h f hf1 (fun y hy => hf2 y (by omega))⟩, fun z => absurd z (by omega)⟩
  | succ c ih =>
    intro x f hx hf1 hf2
    rw [wp_X8_findLeast_52]
    unfold wp_X8_findLeast_89 wp_X8_findLeast_134
    have e1 : ((k + 1 : Nat) : Int) - 1 = (k : Int) := by omega
    have e2 : (5001 : Int) * (k : Int) + (x : Int) = ((5001 * k + x : Nat) : Int) := rfl
    have e3 : (5001 : Int) * ((k + 1 : Nat) : Int) + (x : Int) = ((5001 * (k + 1) + x : Nat) : Int) := rfl
    have e4 : (x : Int) + 1 = ((x + 1 : Nat) : Int) := rfl
    rw [e1, e2, e3, e4]
    have hw := lst_le r x
    have fx : f ((5001 * k + x : Nat) : Int) = (lst r x : Nat) := by rw [hf1 k x (Nat.le_refl _) (by omega), hg x (by omega)]
    rw [fx]
    have step : ∀ w : Int, w = (lst (d :: r) x : Nat) → wp_X8_findLeast_52 Q N dv K (c + 1) (ups f ((5001 * (k + 1) + x : Nat) : Int) w) to ((k + 1 : Nat) : Int) d ((x + 1 : Nat) : Int) := by
      intro w hw2
      refine ih (x + 1) _ (by omega) (fun j y hj hy => ?_) (fun y hy => ?_)
      · rw [ups_n (by omega)]; exact hf1 j y hj hy
      · by_cases e : y = x
        · subst e; rw [ups_s, hw2]
        · rw [ups_n (by omega)]; exact hf2 y (by omega)
    refine ⟨fun z => absurd z (by omega), fun _ => ⟨fun z => ⟨⟨by omega, by omega⟩, ⟨by omega, by omega⟩, ⟨by omega, by omega⟩, by omega, by omega, fun y hy => ⟨⟨by omega, by omega⟩, ⟨by omega, by omega⟩, fun w => ⟨by omega, by omega, ⟨by omega, by omega⟩, step _ ?_⟩, fun w => ⟨by omega, by omega, ⟨by omega, by omega⟩, step _ ?_⟩⟩⟩, fun z => ?_⟩⟩
    · rw [hy, lst_big (by omega)]
    · omega
    · have e5 : ((5001 * k + x : Nat) : Int) - (d : Int) = ((5001 * k + (x - d) : Nat) : Int) := by omega
      rw [e5]
      have hw2 := lst_le r (x - d)
      have fxd : f ((5001 * k + (x - d) : Nat) : Int) = (lst r (x - d) : Nat) := by rw [hf1 k (x - d) (Nat.le_refl _) (by omega), hg (x - d) (by omega)]
      rw [fxd]
      refine ⟨⟨by omega, by omega⟩, ⟨by omega, by omega⟩, ⟨by omega, by omega⟩, ⟨by omega, by omega⟩, by omega, by omega, ⟨by omega, by omega⟩, ⟨by omega, by omega⟩, ⟨by omega, by omega⟩, ⟨by omega, by omega⟩, by omega, by omega, fun y hy => ⟨⟨by omega, by omega⟩, ⟨by omega, by omega⟩, fun w => ⟨by omega, by omega, ⟨by omega, by omega⟩, step _ ?_⟩, fun w => ⟨by omega, by omega, ⟨by omega, by omega⟩, step _ ?_⟩⟩⟩
      · rw [hy, lst_w (by omega), if_neg (by omega)]
      · rw [lst_w (by omega), if_pos (by omega)]; rfl
theorem fls32 {Q : (Int → Int) → Prop} {F : List Nat} {dv : Int → Int} {to : Nat} (hto : to ≤ 5000) (hF : F.length ≤ 48) (hFd : ∀ d ∈ F, d ≤ 5000) (hdv : rep dv F.reverse) (h : ∀ f, LR F to F.length f → Q f) :
    ∀ (c k : Nat) (f : Int → Int), k + c = F.length → LR F to k f → wp_X8_findLeast_32 Q (F.length : Nat) dv (c + 1) f to ((k + 1 : Nat) : Int) := by
  intro c
  induction c with
  | zero =>
    intro k f hk hf
    rw [wp_X8_findLeast_32]
    have e : k = F.length := by omega
    subst e
    exact ⟨fun _ => h f hf, fun z => absurd z (by omega)⟩
  | succ c ih =>
    intro k f hk hf
    rw [wp_X8_findLeast_32]
    have e1 : ((k + 1 : Nat) : Int) - 1 = (k : Int) := by omega
    rw [e1]
    have hlt : F.length - (k + 1) < F.length := by omega
    have hdrop : F.drop (F.length - (k + 1)) = F[F.length - (k + 1)] :: F.drop (F.length - k) := by
      rw [List.drop_eq_getElem_cons hlt]
      congr 2
      omega
    have hget : F.reverse[k]? = some F[F.length - (k + 1)] := by
      rw [List.getElem?_reverse (by omega), List.getElem?_eq_getElem (by omega)]
      congr 2
      omega
    have hdk := hdv _ _ hget
    have hd5 := hFd _ (List.getElem_mem hlt)
    generalize F[F.length - (k + 1)] = d at hdrop hdk hd5
    refine ⟨fun z => absurd z (by omega), fun _ => ⟨⟨by omega, by omega⟩, by omega, by omega, fun x hx => ⟨to + 1 + 1, ?_⟩⟩⟩
    rw [hx, hdk]
    refine fls52 (g := f) (r := F.drop (F.length - k)) hto (by omega) hd5 (fun x hx => hf k x (Nat.le_refl _) hx) (fun f' h1 h2 => ?_) (to + 1) 0 f (by omega) (fun j x _ _ => rfl) (fun y hy => by omega)
    refine ih (k + 1) f' (by omega) (fun j x hj hx => ?_)
    by_cases e : j = k + 1
    · subst e; rw [h2 x hx, hdrop]
    · rw [h1 j x (by omega) (by omega)]; exact hf j x (by omega) hx
theorem findLeast8 {Q : (Int → Int) → Prop} {F : List Nat} {dv f : Int → Int} {to : Nat} (hto : to ≤ 5000) (hF : F.length ≤ 48) (hFd : ∀ d ∈ F, d ≤ 5000) (hdv : rep dv F.reverse) (h : ∀ f, LR F to F.length f → Q f) : wp_X8_findLeast Q (F.length : Nat) dv f to := by
  refine ⟨to + 1 + 1, fls2 hto (fun f hf => ⟨F.length + 1, fls32 hto hF hFd hdv h F.length 0 f (by omega) (fun j x hj hx => ?_)⟩) (to + 1) 0 f (by omega) (fun y hy => by omega)⟩
  have : j = 0 := by omega
  subst this
  have := hf 0 x (Nat.le_refl _) hx
  have e : F.drop (F.length - 0) = [] := by rw [Nat.sub_zero, List.drop_length]
  rw [this, e]
  rfl
