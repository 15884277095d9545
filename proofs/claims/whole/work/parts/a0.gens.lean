/-! What the class learns of the group: generators -/
section Gns
variable {F : Nat} {D R : Int} {cl : Nat} {An : Nat → Int32} {mul : Fin cl → Fin cl → Fin cl} {e : Fin cl} {inv : Fin cl → Fin cl} {od : Fin cl → Nat}
/-- the codes of what is reached -/
def cod (el : Nat → Fin cl) (r : Nat) (Ac : Nat → Int32) : Prop := ∀ x : Fin cl, (∀ c, c < r → el c = x → Ac x.val = i3 (c : Int)) ∧ ((∀ c, c < r → el c ≠ x) → Ac x.val = i3 (-1))
theorem od_cl (G : isG mul e inv) (hod : ∀ x, isOrd mul e x (od x)) (k : Fin cl) : 0 < od k ∧ od k ≤ cl := by
  obtain ⟨n, h4, h5⟩ := ord_ex G k
  rw [ord_uni G (hod k) h4]; exact ⟨h4.1, h5⟩
theorem isIndL_s (hM : MG F D R cl An mul) (G : isG mul e inv) (hod : ∀ x, isOrd mul e x (od x)) (hcl : cl ≤ 1908) {S : Fin cl → Prop} {el : Nat → Fin cl} {r : Nat} (hE : enumd S el r) (hr : r ≤ cl) {Ao Ac : Nat → Int32} (hAo : ∀ x : Fin cl, Ao x.val = i3 (od x)) (hAc : cod el r Ac) (k : Fin cl) : ∀ (d m n : Nat) (a1 b1 c1 a2 b2 c2 zg z1 z2 : Int64), m + d = od k → 1 ≤ m → d + 1 ≤ n → (∀ i, 1 ≤ i → i < m → ¬ S (gp mul e k i)) →
    ∃ x1 x2 x3 x4 x5 x6 x7 x8 x9 : Int64, (indp mul e S k → f_isInd_L4 F (i3 D) (i3 R) (i3 cl) An Ao Ac (i3 k.val) n (i3 (gp mul e k m).val) (i3 (m : Int)) a1 b1 c1 a2 b2 c2 zg z1 z2 = some (Sum.inl (x1, x2, x3, x4, x5, x6, x7, x8, x9))) ∧ (¬ indp mul e S k → f_isInd_L4 F (i3 D) (i3 R) (i3 cl) An Ao Ac (i3 k.val) n (i3 (gp mul e k m).val) (i3 (m : Int)) a1 b1 c1 a2 b2 c2 zg z1 z2 = some (Sum.inr (x1, x2, x3, x4, x5, x6, x7, x8, x9))) := by
  have hk := k.isLt
  have ho := od_cl G hod k
  have hAk : Ao (i3 (k.val : Int)).toNatClampNeg = i3 (od k) := by rw [nn_n (by omega)]; exact hAo k
  intro d
  induction d with
  | zero =>
    intro m n a1 b1 c1 a2 b2 c2 zg z1 z2 hm h1 hn hi
    obtain ⟨n', rfl⟩ : ∃ n', n = n' + 1 := ⟨n - 1, by omega⟩
    refine ⟨a1, b1, c1, a2, b2, c2, zg, z1, z2, fun _ => ?_, fun hno => absurd ?_ hno⟩
    · rw [f_isInd_L4, if_t (nn_v (by omega) (by omega)), hAk, if_t ((nn_le (by omega) (by omega)).mpr (by omega))]
    · intro i hS
      rw [gp_red G (hod k)] at hS ⊢
      have hlt := Nat.mod_lt i ho.1
      by_cases q : i % od k = 0
      · rw [q]; rfl
      · exact absurd hS (hi _ (by omega) (by omega))
  | succ d ih =>
    intro m n a1 b1 c1 a2 b2 c2 zg z1 z2 hm h1 hn hi
    obtain ⟨n', rfl⟩ : ∃ n', n = n' + 1 := ⟨n - 1, by omega⟩
    have hlt := (gp mul e k m).isLt
    have hhead : ∀ {α : Type} (u v : α), (if vin (i3 (k.val : Int)) 1908 then (if Ao (i3 (k.val : Int)).toNatClampNeg ≤ i3 (m : Int) then u else v) else u) = v := by
      intro α u v
      rw [if_t (nn_v (by omega) (by omega)), hAk, if_f (fun q => by have := (nn_le (by omega) (by omega)).mp q; omega)]
    by_cases hS : S (gp mul e k m)
    · have hno : ¬ indp mul e S k := fun h => (hod k).2.2 m (by omega) (by omega) (h m hS)
      obtain ⟨c, hc, hce⟩ := (hE.2 _).mp hS
      have hAm : Ac (i3 ((gp mul e k m).val : Int)).toNatClampNeg = i3 (c : Int) := by rw [nn_n (by omega)]; exact (hAc _).1 c hc hce
      refine ⟨a1, b1, c1, a2, b2, c2, zg, z1, z2, fun h => absurd h hno, fun _ => ?_⟩
      rw [f_isInd_L4, if_t (nn_v (by omega) (by omega)), hAk, if_f (fun q => by have := (nn_le (by omega) (by omega)).mp q; omega), nn_c hlt (by omega)]
      simp only [Option.bind_some]
      rw [if_f (by decide), if_t (nn_v (by omega) (by omega)), hAm, if_f (fun q => by have := (c_lt0 (a := (c : Int)) ⟨by omega, by omega⟩).mp q; omega)]
    · have hAm : Ac (i3 ((gp mul e k m).val : Int)).toNatClampNeg = i3 (-1) := by
        rw [nn_n (by omega)]
        exact (hAc _).2 (fun c hc hce => hS ((hE.2 _).mpr ⟨c, hc, hce⟩))
      obtain ⟨x1, x2, x3, x4, x5, x6, x7, x8, x9, hm1⟩ := hM (gp mul e k m) k a1 b1 c1 a2 b2 c2 zg z1 z2
      have hm2 : f_mult F (i3 D) (i3 R) (i3 cl) An a1 b1 c1 a2 b2 c2 zg z1 z2 (i3 (gp mul e k m).val) (i3 k.val) = some (i3 (gp mul e k (m + 1)).val, x1, x2, x3, x4, x5, x6, x7, x8, x9) := hm1
      have hstep : f_isInd_L4 F (i3 D) (i3 R) (i3 cl) An Ao Ac (i3 k.val) (n' + 1) (i3 (gp mul e k m).val) (i3 (m : Int)) a1 b1 c1 a2 b2 c2 zg z1 z2 = f_isInd_L4 F (i3 D) (i3 R) (i3 cl) An Ao Ac (i3 k.val) n' (i3 (gp mul e k (m + 1)).val) (i3 ((m + 1 : Nat) : Int)) x1 x2 x3 x4 x5 x6 x7 x8 x9 := by
        rw [f_isInd_L4, if_t (nn_v (by omega) (by omega)), hAk, if_f (fun q => by have := (nn_le (by omega) (by omega)).mp q; omega), nn_c hlt (by omega)]
        simp only [Option.bind_some]
        rw [if_f (by decide), if_t (nn_v (by omega) (by omega)), hAm, if_t (by decide), hm2]
        simp only [Option.bind_some]
        rw [nn_s]
      rw [hstep]
      exact ih (m + 1) n' x1 x2 x3 x4 x5 x6 x7 x8 x9 (by omega) (by omega) (by omega) (fun i h2 h3 => by
        rcases Nat.lt_or_ge i m with q | q
        · exact hi i h2 q
        · have : i = m := by omega
          subst this; exact hS)
theorem isInd_s (hM : MG F D R cl An mul) (G : isG mul e inv) (hod : ∀ x, isOrd mul e x (od x)) (hcl : cl ≤ 1908) (hF : 3000 ≤ F) {S : Fin cl → Prop} {el : Nat → Fin cl} {r : Nat} (hE : enumd S el r) (hr : r ≤ cl) {Ao Ac : Nat → Int32} (hAo : ∀ x : Fin cl, Ao x.val = i3 (od x)) (hAc : cod el r Ac) (k : Fin cl) (a1 b1 c1 a2 b2 c2 zg z1 z2 : Int64) :
    ∃ x1 x2 x3 x4 x5 x6 x7 x8 x9 : Int64, (indp mul e S k → f_isInd F (i3 D) (i3 R) (i3 cl) An a1 b1 c1 a2 b2 c2 zg z1 z2 Ao Ac (i3 k.val) = some (1, x1, x2, x3, x4, x5, x6, x7, x8, x9)) ∧ (¬ indp mul e S k → f_isInd F (i3 D) (i3 R) (i3 cl) An a1 b1 c1 a2 b2 c2 zg z1 z2 Ao Ac (i3 k.val) = some (0, x1, x2, x3, x4, x5, x6, x7, x8, x9)) := by
  have ho := od_cl G hod k
  obtain ⟨x1, x2, x3, x4, x5, x6, x7, x8, x9, h1, h2⟩ := isIndL_s hM G hod hcl hE hr hAo hAc k (od k - 1) 1 F a1 b1 c1 a2 b2 c2 zg z1 z2 (by omega) (by omega) (by omega) (fun i p q => absurd q (by omega))
  rw [gp_one G] at h1 h2
  refine ⟨x1, x2, x3, x4, x5, x6, x7, x8, x9, fun h => ?_, fun h => ?_⟩
  · have := h1 h
    unfold f_isInd
    rw [show (1 : Int32) = i3 ((1 : Nat) : Int) from rfl, this]; rfl
  · have := h2 h
    unfold f_isInd
    rw [show (1 : Int32) = i3 ((1 : Nat) : Int) from rfl, this]; rfl
theorem ngL_no (hM : MG F D R cl An mul) (G : isG mul e inv) (hod : ∀ x, isOrd mul e x (od x)) (hcl : cl ≤ 1908) (hF : 3000 ≤ F) {S : Fin cl → Prop} {el : Nat → Fin cl} {r : Nat} (hE : enumd S el r) (hr : r ≤ cl) {Ao Ac : Nat → Int32} (hAo : ∀ x : Fin cl, Ao x.val = i3 (od x)) (hAc : cod el r Ac) {left w : Nat} (hl : left ≤ 1908) (hw0 : 0 < w) (hw : w ≤ 1908) (hno : ∀ x : Fin cl, od x = w → ¬ indp mul e S x) : ∀ (d k n : Nat) (a1 b1 c1 a2 b2 c2 zg z1 z2 : Int64), k + d = cl → d + 1 ≤ n →
    ∃ x1 x2 x3 x4 x5 x6 x7 x8 x9 : Int64, f_nextGen_L23 F (i3 D) (i3 R) (i3 cl) An Ao Ac (i3 left) (i3 w) n (i3 (k : Int)) a1 b1 c1 a2 b2 c2 zg z1 z2 = some (Sum.inl (x1, x2, x3, x4, x5, x6, x7, x8, x9)) := by
  have hz : ¬ i3 (w : Int) = 0 := fun q => by have := (c_eq0 (a := (w : Int)) ⟨by omega, by omega⟩).mp q; omega
  have hrem : i3 (left : Int) - i3 (left : Int) / i3 (w : Int) * i3 (w : Int) = i3 ((left % w : Nat) : Int) := by
    rw [i3_rem ⟨by omega, by omega⟩ ⟨by omega, by omega⟩ (by omega) (by omega), ← Int.ofNat_tmod]
  have hrl := Nat.mod_lt left hw0
  intro d
  induction d with
  | zero =>
    intro k n a1 b1 c1 a2 b2 c2 zg z1 z2 hk hn
    obtain ⟨n', rfl⟩ : ∃ n', n = n' + 1 := ⟨n - 1, by omega⟩
    refine ⟨a1, b1, c1, a2, b2, c2, zg, z1, z2, ?_⟩
    rw [f_nextGen_L23, if_t ((nn_le (by omega) (by omega)).mpr (by omega))]
  | succ d ih =>
    intro k n a1 b1 c1 a2 b2 c2 zg z1 z2 hk hn
    obtain ⟨n', rfl⟩ : ∃ n', n = n' + 1 := ⟨n - 1, by omega⟩
    have hk' : k < cl := by omega
    have hAk : Ao (i3 (k : Int)).toNatClampNeg = i3 (od ⟨k, hk'⟩) := by rw [nn_n (by omega)]; exact hAo ⟨k, hk'⟩
    have ho := od_cl G hod ⟨k, hk'⟩
    rw [f_nextGen_L23, if_f (fun q => by have := (nn_le (by omega) (by omega)).mp q; omega), if_t hz, hrem]
    by_cases hd : left % w = 0
    · rw [if_t (by rw [hd]; rfl), if_t (nn_v (by omega) (by omega)), hAk, nn_s]
      by_cases hw2 : od ⟨k, hk'⟩ = w
      · obtain ⟨x1, x2, x3, x4, x5, x6, x7, x8, x9, -, h2⟩ := isInd_s hM G hod hcl hF hE hr hAo hAc ⟨k, hk'⟩ a1 b1 c1 a2 b2 c2 zg z1 z2
        have h3 : f_isInd F (i3 D) (i3 R) (i3 cl) An a1 b1 c1 a2 b2 c2 zg z1 z2 Ao Ac (i3 (k : Int)) = _ := h2 (hno _ hw2)
        rw [if_t ((nn_eq (by omega) (by omega)).mpr hw2), h3]
        simp only [Option.bind_some]
        rw [if_t trivial]
        exact ih (k + 1) n' x1 x2 x3 x4 x5 x6 x7 x8 x9 (by omega) (by omega)
      · rw [if_f (fun q => hw2 ((nn_eq (by omega) (by omega)).mp q))]
        exact ih (k + 1) n' a1 b1 c1 a2 b2 c2 zg z1 z2 (by omega) (by omega)
    · refine ⟨a1, b1, c1, a2, b2, c2, zg, z1, z2, ?_⟩
      rw [if_f (fun q => by have := (c_eq0 (a := ((left % w : Nat) : Int)) ⟨by omega, by omega⟩).mp q; omega)]
theorem ngL_yes (hM : MG F D R cl An mul) (G : isG mul e inv) (hod : ∀ x, isOrd mul e x (od x)) (hcl : cl ≤ 1908) (hF : 3000 ≤ F) {S : Fin cl → Prop} {el : Nat → Fin cl} {r : Nat} (hE : enumd S el r) (hr : r ≤ cl) {Ao Ac : Nat → Int32} (hAo : ∀ x : Fin cl, Ao x.val = i3 (od x)) (hAc : cod el r Ac) {left : Nat} (hl : left ≤ 1908) {g : Fin cl} (hdv : left % od g = 0) (hg : indp mul e S g) (hno : ∀ x : Fin cl, x.val < g.val → od x = od g → ¬ indp mul e S x) : ∀ (d k n : Nat) (a1 b1 c1 a2 b2 c2 zg z1 z2 : Int64), k + d = g.val → d + 1 ≤ n →
    ∃ x1 x2 x3 x4 x5 x6 x7 x8 x9 : Int64, f_nextGen_L23 F (i3 D) (i3 R) (i3 cl) An Ao Ac (i3 left) (i3 (od g)) n (i3 (k : Int)) a1 b1 c1 a2 b2 c2 zg z1 z2 = some (Sum.inr (i3 g.val, x1, x2, x3, x4, x5, x6, x7, x8, x9)) := by
  have hog := od_cl G hod g
  have hgl := g.isLt
  have hz : ¬ i3 (od g : Int) = 0 := fun q => by have := (c_eq0 (a := (od g : Int)) ⟨by omega, by omega⟩).mp q; omega
  have hrem : i3 (left : Int) - i3 (left : Int) / i3 (od g : Int) * i3 (od g : Int) = 0 := by
    rw [i3_rem ⟨by omega, by omega⟩ ⟨by omega, by omega⟩ (by omega) (by omega), ← Int.ofNat_tmod, hdv]; rfl
  intro d
  induction d with
  | zero =>
    intro k n a1 b1 c1 a2 b2 c2 zg z1 z2 hk hn
    obtain ⟨n', rfl⟩ : ∃ n', n = n' + 1 := ⟨n - 1, by omega⟩
    have : k = g.val := by omega
    subst this
    have hAk : Ao (i3 (g.val : Int)).toNatClampNeg = i3 (od g) := by rw [nn_n (by omega)]; exact hAo g
    obtain ⟨x1, x2, x3, x4, x5, x6, x7, x8, x9, h1, -⟩ := isInd_s hM G hod hcl hF hE hr hAo hAc g a1 b1 c1 a2 b2 c2 zg z1 z2
    refine ⟨x1, x2, x3, x4, x5, x6, x7, x8, x9, ?_⟩
    rw [f_nextGen_L23, if_f (fun q => by have := (nn_le (by omega) (by omega)).mp q; omega), if_t hz, hrem, if_t rfl, if_t (nn_v (by omega) (by omega)), hAk, if_t rfl, h1 hg]
    simp only [Option.bind_some]
    rw [if_f (by decide)]
  | succ d ih =>
    intro k n a1 b1 c1 a2 b2 c2 zg z1 z2 hk hn
    obtain ⟨n', rfl⟩ : ∃ n', n = n' + 1 := ⟨n - 1, by omega⟩
    have hk' : k < cl := by omega
    have hAk : Ao (i3 (k : Int)).toNatClampNeg = i3 (od ⟨k, hk'⟩) := by rw [nn_n (by omega)]; exact hAo ⟨k, hk'⟩
    have ho := od_cl G hod ⟨k, hk'⟩
    rw [f_nextGen_L23, if_f (fun q => by have := (nn_le (by omega) (by omega)).mp q; omega), if_t hz, hrem, if_t rfl, if_t (nn_v (by omega) (by omega)), hAk, nn_s]
    by_cases hw2 : od ⟨k, hk'⟩ = od g
    · obtain ⟨x1, x2, x3, x4, x5, x6, x7, x8, x9, -, h2⟩ := isInd_s hM G hod hcl hF hE hr hAo hAc ⟨k, hk'⟩ a1 b1 c1 a2 b2 c2 zg z1 z2
      have h3 : f_isInd F (i3 D) (i3 R) (i3 cl) An a1 b1 c1 a2 b2 c2 zg z1 z2 Ao Ac (i3 (k : Int)) = _ := h2 (hno _ (by show k < _; omega) hw2)
      rw [if_t ((nn_eq (by omega) (by omega)).mpr hw2), h3]
      simp only [Option.bind_some]
      rw [if_t trivial]
      exact ih (k + 1) n' x1 x2 x3 x4 x5 x6 x7 x8 x9 (by omega) (by omega)
    · rw [if_f (fun q => hw2 ((nn_eq (by omega) (by omega)).mp q))]
      exact ih (k + 1) n' a1 b1 c1 a2 b2 c2 zg z1 z2 (by omega) (by omega)
theorem ngL15_s (hM : MG F D R cl An mul) (G : isG mul e inv) (hod : ∀ x, isOrd mul e x (od x)) (hcl : cl ≤ 1908) (hF : 3000 ≤ F) {S : Fin cl → Prop} {el : Nat → Fin cl} {r : Nat} (hE : enumd S el r) (hr : r ≤ cl) {Ao Ac : Nat → Int32} (hAo : ∀ x : Fin cl, Ao x.val = i3 (od x)) (hAc : cod el r Ac) {left : Nat} (hl : left ≤ 1908) {g : Fin cl} (hdv : left % od g = 0) (hg : nxt mul e S g) : ∀ (d w n : Nat) (a1 b1 c1 a2 b2 c2 zg z1 z2 : Int64), w = od g + d → w ≤ left → d + 1 ≤ n →
    ∃ x1 x2 x3 x4 x5 x6 x7 x8 x9 : Int64, f_nextGen_L15 F (i3 D) (i3 R) (i3 cl) An Ao Ac (i3 left) n (i3 (w : Int)) a1 b1 c1 a2 b2 c2 zg z1 z2 = some (Sum.inr (i3 g.val, x1, x2, x3, x4, x5, x6, x7, x8, x9)) := by
  obtain ⟨g1, g2, m, g3, g4⟩ := hg
  have hm := ord_uni G g3 (hod g)
  subst hm
  have h2 := od_two G hod g1
  have hog := od_cl G hod g
  have hgl := g.isLt
  intro d
  induction d with
  | zero =>
    intro w n a1 b1 c1 a2 b2 c2 zg z1 z2 hw hwl hn
    obtain ⟨n', rfl⟩ : ∃ n', n = n' + 1 := ⟨n - 1, by omega⟩
    have : w = od g := by omega
    subst this
    obtain ⟨x1, x2, x3, x4, x5, x6, x7, x8, x9, h1⟩ := ngL_yes hM G hod hcl hF hE hr hAo hAc hl hdv g2 (fun x hx hx2 hx3 => by
      have hxe : x ≠ e := by
        rintro rfl
        have h5 := ord_uni G (hod x) (ord_of G (n := 1) (by omega) (fun m => ⟨fun _ => ⟨m, by omega⟩, fun _ => gp_e G m⟩))
        omega
      have := (g4 x _ hxe hx3 (hod x)).2 hx
      omega) g.val 0 F a1 b1 c1 a2 b2 c2 zg z1 z2 (by omega) (by omega)
    refine ⟨x1, x2, x3, x4, x5, x6, x7, x8, x9, ?_⟩
    rw [f_nextGen_L15, if_f (fun q => by have := (nn_le (m := 1) (by omega) (by omega)).mp q; omega)]
    have h1' : f_nextGen_L23 F (i3 D) (i3 R) (i3 cl) An Ao Ac (i3 left) (i3 (od g)) F 0 a1 b1 c1 a2 b2 c2 zg z1 z2 = _ := h1
    rw [h1']; rfl
  | succ d ih =>
    intro w n a1 b1 c1 a2 b2 c2 zg z1 z2 hw hwl hn
    obtain ⟨n', rfl⟩ : ∃ n', n = n' + 1 := ⟨n - 1, by omega⟩
    obtain ⟨x1, x2, x3, x4, x5, x6, x7, x8, x9, h1⟩ := ngL_no hM G hod hcl hF hE hr hAo hAc hl (w := w) (by omega) (by omega) (fun x hx hx3 => by
      have hxe : x ≠ e := by
        rintro rfl
        have h5 := ord_uni G (hod x) (ord_of G (n := 1) (by omega) (fun m => ⟨fun _ => ⟨m, by omega⟩, fun _ => gp_e G m⟩))
        omega
      have := (g4 x _ hxe hx3 (hod x)).1
      omega) cl 0 F a1 b1 c1 a2 b2 c2 zg z1 z2 (by omega) (by omega)
    obtain ⟨y1, y2, y3, y4, y5, y6, y7, y8, y9, h3⟩ := ih (w - 1) n' x1 x2 x3 x4 x5 x6 x7 x8 x9 (by omega) (by omega) (by omega)
    refine ⟨y1, y2, y3, y4, y5, y6, y7, y8, y9, ?_⟩
    rw [f_nextGen_L15, if_f (fun q => by have := (nn_le (m := 1) (by omega) (by omega)).mp q; omega)]
    have h1' : f_nextGen_L23 F (i3 D) (i3 R) (i3 cl) An Ao Ac (i3 left) (i3 (w : Int)) F 0 a1 b1 c1 a2 b2 c2 zg z1 z2 = _ := h1
    rw [h1']
    simp only [Option.bind_some]
    have e1 : i3 (w : Int) + (-1) = i3 ((w - 1 : Nat) : Int) := by
      show i3 (w : Int) + i3 (-1) = _
      rw [i3_add]; congr 1; omega
    rw [e1]
    exact h3
theorem nextGen_s (hM : MG F D R cl An mul) (G : isG mul e inv) (hod : ∀ x, isOrd mul e x (od x)) (hcl : cl ≤ 1908) (hF : 3000 ≤ F) {gs : Nat → Fin cl} {j : Nat} (hs : spec mul e od gs j) {Ao Ac : Nat → Int32} (hAo : ∀ x : Fin cl, Ao x.val = i3 (od x)) (hAc : cod (elf mul e od gs j) (rr od gs j) Ac) {g : Fin cl} (hg : nxt mul e (Sg mul e od gs j) g) (a1 b1 c1 a2 b2 c2 zg z1 z2 : Int64) :
    ∃ x1 x2 x3 x4 x5 x6 x7 x8 x9 : Int64, f_nextGen F (i3 D) (i3 R) (i3 cl) An a1 b1 c1 a2 b2 c2 zg z1 z2 Ao Ac (i3 (rr od gs j : Nat)) = some (i3 g.val, x1, x2, x3, x4, x5, x6, x7, x8, x9) := by
  obtain ⟨hr0, hS, hE, -⟩ := spec_main G hod hs
  have hrl := (spec_le G hod hs).1
  have hog := od_cl G hod g
  obtain ⟨q, hq⟩ := cand_dvd G hod hs hg.2.1
  have hgl := g.isLt
  have hq0 : 0 < q := by
    rcases Nat.eq_zero_or_pos q with h | h
    · subst h; rw [Nat.mul_zero] at hq; omega
    · exact h
  have hleft : cl / rr od gs j = od g * q := Nat.div_eq_of_eq_mul_right hr0 (hq.trans (Nat.mul_assoc _ _ _))
  have hll : cl / rr od gs j ≤ cl := Nat.div_le_self _ _
  have hge : od g ≤ cl / rr od gs j := by rw [hleft]; exact Nat.le_mul_of_pos_right _ hq0
  obtain ⟨x1, x2, x3, x4, x5, x6, x7, x8, x9, h1⟩ := ngL15_s hM G hod hcl hF hE hrl hAo hAc (left := cl / rr od gs j) (by omega) (by rw [hleft, Nat.mul_mod_right]) hg (cl / rr od gs j - od g) (cl / rr od gs j) F a1 b1 c1 a2 b2 c2 zg z1 z2 (by omega) (by omega) (by omega)
  refine ⟨x1, x2, x3, x4, x5, x6, x7, x8, x9, ?_⟩
  have hz : ¬ i3 (rr od gs j : Int) = 0 := fun q => by have := (c_eq0 (a := (rr od gs j : Int)) ⟨by omega, by omega⟩).mp q; omega
  unfold f_nextGen
  rw [if_t ((c_gt0 (a := (rr od gs j : Int)) ⟨by omega, by omega⟩).mpr (by omega)), if_t hz, (i3_div (a := (cl : Int)) (b := (rr od gs j : Int)) ⟨by omega, by omega⟩ ⟨by omega, by omega⟩ (by omega) (by omega)).1, ← Int.ofNat_tdiv]
  show Option.bind (f_nextGen_L15 F (i3 D) (i3 R) (i3 cl) An Ao Ac (i3 ((cl / rr od gs j : Nat) : Int)) F (i3 ((cl / rr od gs j : Nat) : Int)) a1 b1 c1 a2 b2 c2 zg z1 z2) _ = _
  rw [h1]; rfl
theorem elf_next (G : isG mul e inv) {gs : Nat → Fin cl} {j : Nat} (hr : 0 < rr od gs j) {c : Nat} (hc : rr od gs j ≤ c) : elf mul e od gs (j + 1) c = mul (elf mul e od gs (j + 1) (c - rr od gs j)) (gs j) := by
  simp only [elf]
  obtain ⟨b, rfl⟩ : ∃ b, c = b + rr od gs j := ⟨c - rr od gs j, by omega⟩
  rw [Nat.add_sub_cancel, Nat.add_mod_right, Nat.add_div_right _ hr, G.1]; rfl
theorem elf_low (G : isG mul e inv) {gs : Nat → Fin cl} {j : Nat} {c : Nat} (hc : c < rr od gs j) : elf mul e od gs (j + 1) c = elf mul e od gs j c := by
  simp only [elf]
  rw [Nat.mod_eq_of_lt hc, Nat.div_eq_of_lt hc]; exact G.2.2.1 _
theorem reachL_s (hM : MG F D R cl An mul) (G : isG mul e inv) (hod : ∀ x, isOrd mul e x (od x)) (hcl : cl ≤ 1908) {gs : Nat → Fin cl} {j : Nat} (hs : spec mul e od gs (j + 1)) : ∀ (d c n : Nat) (Ac Ae : Nat → Int32) (a1 b1 c1 a2 b2 c2 zg z1 z2 : Int64), c + d = rr od gs (j + 1) → rr od gs j ≤ c → d + 1 ≤ n → (∀ i, i < c → Ae i = i3 (elf mul e od gs (j + 1) i).val) → cod (elf mul e od gs (j + 1)) c Ac →
    ∃ (Ac' Ae' : Nat → Int32) (x1 x2 x3 x4 x5 x6 x7 x8 x9 : Int64), f_reach_L19 F (i3 D) (i3 R) (i3 cl) An (i3 (gs j).val) (i3 (rr od gs j : Nat)) (i3 (rr od gs (j + 1) : Nat)) n (i3 (c : Int)) a1 b1 c1 a2 b2 c2 zg z1 z2 Ac Ae = some (x1, x2, x3, x4, x5, x6, x7, x8, x9, Ac', Ae') ∧ (∀ i, i < rr od gs (j + 1) → Ae' i = i3 (elf mul e od gs (j + 1) i).val) ∧ cod (elf mul e od gs (j + 1)) (rr od gs (j + 1)) Ac' := by
  have hs' : spec mul e od gs j := fun k hk => hs k (by omega)
  obtain ⟨hr0, -, -, -⟩ := spec_main G hod hs'
  obtain ⟨-, -, hE1, -⟩ := spec_main G hod hs
  have hrl := (spec_le G hod hs).1
  intro d
  induction d with
  | zero =>
    intro c n Ac Ae a1 b1 c1 a2 b2 c2 zg z1 z2 hc hrc hn hA hC
    obtain ⟨n', rfl⟩ : ∃ n', n = n' + 1 := ⟨n - 1, by omega⟩
    have : c = rr od gs (j + 1) := by omega
    subst this
    refine ⟨Ac, Ae, a1, b1, c1, a2, b2, c2, zg, z1, z2, ?_, hA, hC⟩
    rw [f_reach_L19, if_t ((nn_le (by omega) (by omega)).mpr (Nat.le_refl _))]
  | succ d ih =>
    intro c n Ac Ae a1 b1 c1 a2 b2 c2 zg z1 z2 hc hrc hn hA hC
    obtain ⟨n', rfl⟩ : ∃ n', n = n' + 1 := ⟨n - 1, by omega⟩
    have e1 : i3 (c : Int) - i3 (rr od gs j : Nat) = i3 ((c - rr od gs j : Nat) : Int) := by rw [i3_sub]; congr 1; omega
    have hAe : Ae (i3 ((c - rr od gs j : Nat) : Int)).toNatClampNeg = i3 (elf mul e od gs (j + 1) (c - rr od gs j)).val := by rw [nn_n (by omega)]; exact hA _ (by omega)
    obtain ⟨x1, x2, x3, x4, x5, x6, x7, x8, x9, hm⟩ := hM (elf mul e od gs (j + 1) (c - rr od gs j)) (gs j) a1 b1 c1 a2 b2 c2 zg z1 z2
    rw [← elf_next G hr0 hrc] at hm
    have hlt := (elf mul e od gs (j + 1) c).isLt
    obtain ⟨Ac', Ae', y1, y2, y3, y4, y5, y6, y7, y8, y9, h1, h2, h3⟩ := ih (c + 1) n' (upd Ac (elf mul e od gs (j + 1) c).val (i3 (c : Int))) (upd Ae c (i3 (elf mul e od gs (j + 1) c).val)) x1 x2 x3 x4 x5 x6 x7 x8 x9 (by omega) (by omega) (by omega) (fun i hi => by
      rcases Nat.lt_or_ge i c with q | q
      · rw [pk_un (by omega)]; exact hA i q
      · have : i = c := by omega
        subst this; exact pk_us) (fun x => by
      constructor
      · intro c' hc' he
        rcases Nat.lt_or_ge c' c with q | q
        · rw [pk_un]
          · exact (hC x).1 c' q he
          · intro hh
            have : elf mul e od gs (j + 1) c' = elf mul e od gs (j + 1) c := by rw [he]; exact Fin.ext hh
            have := hE1.1 c' c (by omega) (by omega) this
            omega
        · have : c' = c := by omega
          subst this
          rw [← he]; exact pk_us
      · intro hx
        rw [pk_un]
        · exact (hC x).2 (fun c' hc' => hx c' (by omega))
        · intro hh
          exact hx c (by omega) (Fin.ext hh.symm))
    refine ⟨Ac', Ae', y1, y2, y3, y4, y5, y6, y7, y8, y9, ?_, h2, h3⟩
    rw [f_reach_L19, if_f (fun q => by have := (nn_le (by omega) (by omega)).mp q; omega), e1, if_t (nn_v (by omega) (by omega)), hAe, hm]
    simp only [Option.bind_some]
    rw [if_t (nn_v (by omega) (by omega)), nn_c hlt (by omega)]
    simp only [Option.bind_some, bnd]
    rw [if_f (by decide), if_t (nn_v (by omega) (by omega)), nn_n (n := c) (by omega), nn_n (n := (elf mul e od gs (j + 1) c).val) (by omega), nn_s]
    exact h1
theorem reach_s (hM : MG F D R cl An mul) (G : isG mul e inv) (hod : ∀ x, isOrd mul e x (od x)) (hcl : cl ≤ 1908) (hF : 3000 ≤ F) {gs : Nat → Fin cl} {j : Nat} (hs : spec mul e od gs (j + 1)) {Ao Ac Ae : Nat → Int32} (hAo : ∀ x : Fin cl, Ao x.val = i3 (od x)) (hA : ∀ i, i < rr od gs j → Ae i = i3 (elf mul e od gs j i).val) (hC : cod (elf mul e od gs j) (rr od gs j) Ac) (a1 b1 c1 a2 b2 c2 zg z1 z2 : Int64) :
    ∃ (Ac' Ae' : Nat → Int32) (x1 x2 x3 x4 x5 x6 x7 x8 x9 : Int64), f_reach F (i3 D) (i3 R) (i3 cl) An a1 b1 c1 a2 b2 c2 zg z1 z2 Ac Ae Ao (i3 (gs j).val) (i3 (rr od gs j : Nat)) = some (i3 (rr od gs (j + 1) : Nat), x1, x2, x3, x4, x5, x6, x7, x8, x9, Ac', Ae') ∧ (∀ i, i < rr od gs (j + 1) → Ae' i = i3 (elf mul e od gs (j + 1) i).val) ∧ cod (elf mul e od gs (j + 1)) (rr od gs (j + 1)) Ac' := by
  have hs' : spec mul e od gs j := fun k hk => hs k (by omega)
  have hrl := (spec_le G hod hs).1
  have hog := od_cl G hod (gs j)
  have hr1 : rr od gs j ≤ rr od gs (j + 1) := Nat.le_mul_of_pos_right _ hog.1
  obtain ⟨Ac', Ae', x1, x2, x3, x4, x5, x6, x7, x8, x9, h1, h2, h3⟩ := reachL_s hM G hod hcl hs (rr od gs (j + 1) - rr od gs j) (rr od gs j) F Ac Ae a1 b1 c1 a2 b2 c2 zg z1 z2 (by omega) (Nat.le_refl _) (by omega) (fun i hi => by rw [elf_low G hi]; exact hA i hi) (fun x => ⟨fun c hc he => (hC x).1 c hc (by rw [← elf_low G hc]; exact he), fun hx => (hC x).2 (fun c hc he => hx c hc (by rw [elf_low G hc]; exact he))⟩)
  refine ⟨Ac', Ae', x1, x2, x3, x4, x5, x6, x7, x8, x9, ?_, h2, h3⟩
  have hgl := (gs j).isLt
  have hAg : Ao (i3 ((gs j).val : Int)).toNatClampNeg = i3 (od (gs j)) := by rw [nn_n (by omega)]; exact hAo (gs j)
  have em : i3 (rr od gs j : Nat) * i3 (od (gs j) : Int) = i3 (rr od gs (j + 1) : Nat) := by rw [i3_mul]; congr 1
  unfold f_reach
  rw [if_t (nn_v (by omega) (by omega)), hAg, em, minI_s F ⟨by omega, by omega⟩ ⟨by omega, by omega⟩]
  simp only [Option.bind_some]
  rw [if_neg (show ¬ (cl : Int) < (rr od gs (j + 1) : Nat) by omega), h1]; rfl
/-- what the class has learnt of the group -/
def lrn (mul : Fin cl → Fin cl → Fin cl) (e : Fin cl) (od : Fin cl → Nat) (gs : Nat → Fin cl) (m : Nat) (Ag As Ac : Nat → Int32) : Prop := spec mul e od gs m ∧ rr od gs m = cl ∧ (∀ c, c < cl → Ac (elf mul e od gs m c).val = i3 (c : Int)) ∧ ∀ i, i < m → Ag i = i3 (gs i).val ∧ As i = i3 (rr od gs i : Nat) ∧ As (i + 1) = i3 (rr od gs (i + 1) : Nat)
theorem learnL_s (hM : MG F D R cl An mul) (G : isG mul e inv) (hod : ∀ x, isOrd mul e x (od x)) (hcl : cl ≤ 1908) (hF : 3000 ≤ F) {Ao : Nat → Int32} (hAo : ∀ x : Fin cl, Ao x.val = i3 (od x)) : ∀ (d j n : Nat) (gs : Nat → Fin cl) (Ag As Ac Ae : Nat → Int32) (a1 b1 c1 a2 b2 c2 zg z1 z2 : Int64), j + d = 11 → d + 1 ≤ n → spec mul e od gs j → (∀ i, i < rr od gs j → Ae i = i3 (elf mul e od gs j i).val) → cod (elf mul e od gs j) (rr od gs j) Ac → As j = i3 (rr od gs j : Nat) → (∀ i, i < j → Ag i = i3 (gs i).val ∧ As i = i3 (rr od gs i : Nat) ∧ As (i + 1) = i3 (rr od gs (i + 1) : Nat)) →
    ∃ (gs' : Nat → Fin cl) (m : Nat) (Ag' As' Ac' Ae' : Nat → Int32) (x1 x2 x3 x4 x5 x6 x7 x8 x9 : Int64), f_learn_L70 F (i3 D) (i3 R) (i3 cl) An Ao n (i3 (j : Int)) a1 b1 c1 a2 b2 c2 zg z1 z2 (i3 (j : Int)) Ag As Ac Ae = some (Sum.inl (x1, x2, x3, x4, x5, x6, x7, x8, x9, i3 (m : Int), Ag', As', Ac', Ae')) ∧ lrn mul e od gs' m Ag' As' Ac' := by
  intro d
  induction d with
  | zero =>
    intro j n gs Ag As Ac Ae a1 b1 c1 a2 b2 c2 zg z1 z2 hj hn hs hA hC hAs hG
    exfalso
    have h1 := rr_pow G hod hs
    have h2 := (spec_le G hod hs).1
    have : j = 11 := by omega
    subst this
    omega
  | succ d ih =>
    intro j n gs Ag As Ac Ae a1 b1 c1 a2 b2 c2 zg z1 z2 hj hn hs hA hC hAs hG
    obtain ⟨n', rfl⟩ : ∃ n', n = n' + 1 := ⟨n - 1, by omega⟩
    have hrl := (spec_le G hod hs).1
    have c11 : ¬ (11 : Int32) ≤ i3 (j : Int) := fun q => by have := (nn_le (n := 11) (by omega) (by omega)).mp q; omega
    have hAj : As (i3 (j : Int)).toNatClampNeg = i3 (rr od gs j : Nat) := by rw [nn_n (by omega)]; exact hAs
    rw [f_learn_L70, if_f c11, if_t (nn_v (n := j) (N := 12) (by omega) (by omega)), hAj]
    by_cases hfull : rr od gs j = cl
    · rw [if_t ((nn_le (by omega) (by omega)).mpr (by omega))]
      refine ⟨gs, j, Ag, As, Ac, Ae, a1, b1, c1, a2, b2, c2, zg, z1, z2, rfl, hs, hfull, fun c hc => (hC _).1 c (by omega) rfl, hG⟩
    · rw [if_f (fun q => by have := (nn_le (by omega) (by omega)).mp q; omega), if_t (nn_v (n := j) (N := 12) (by omega) (by omega))]
      obtain ⟨g, hg⟩ := spec_next G hod hs (by omega)
      obtain ⟨x1, x2, x3, x4, x5, x6, x7, x8, x9, h1⟩ := nextGen_s hM G hod hcl hF hs hAo hC hg a1 b1 c1 a2 b2 c2 zg z1 z2
      rw [h1]
      simp only [Option.bind_some]
      have hgl := g.isLt
      rw [nn_c hgl (by omega)]
      simp only [Option.bind_some]
      rw [if_f (by decide), if_t (nn_v (n := j) (N := 11) (by omega) (by omega))]
      simp only [bnd]
      rw [if_t (nn_v (n := j) (N := 12) (by omega) (by omega)), nn_n (n := j) (by omega), nn_s]
      have hcg : ∀ i, i < j → gs i = (fun i => if i = j then g else gs i) i := fun i hi => by simp only; rw [if_neg (by omega)]
      have hs1 : spec mul e od (fun i => if i = j then g else gs i) (j + 1) := by
        intro k hk
        rw [← Sg_congr (gs := gs) (fun i hi => hcg i (by omega))]
        by_cases q : k = j
        · subst q; simp only [if_true]; exact hg
        · simp only; rw [if_neg q]; exact hs k (by omega)
      have er := rr_congr (od := od) hcg
      have ee := elf_congr (mul := mul) (e := e) (od := od) hcg
      obtain ⟨Ac1, Ae1, y1, y2, y3, y4, y5, y6, y7, y8, y9, h2, h3, h4⟩ := reach_s hM G hod hcl hF hs1 hAo (Ae := Ae) (Ac := Ac) (by rw [← er, ← ee]; exact hA) (by rw [← er, ← ee]; exact hC) x1 x2 x3 x4 x5 x6 x7 x8 x9
      simp only [if_true] at h2
      rw [← er] at h2
      rw [h2]
      simp only [Option.bind_some]
      rw [if_t (nn_v (n := j + 1) (N := 12) (by omega) (by omega)), nn_n (n := j + 1) (by omega)]
      refine ih (j + 1) n' (fun i => if i = j then g else gs i) (upd Ag j (i3 g.val)) (upd As (j + 1) (i3 (rr od (fun i => if i = j then g else gs i) (j + 1) : Nat))) Ac1 Ae1 y1 y2 y3 y4 y5 y6 y7 y8 y9 (by omega) (by omega) hs1 h3 h4 pk_us ?_
      intro i hi
      by_cases q : i = j
      · subst q
        rw [pk_un (show ¬ i = i + 1 by omega), ← er]
        simp only [if_true]
        exact ⟨pk_us, hAs, pk_us⟩
      · rw [if_neg q, pk_un q, pk_un (show ¬ i = j + 1 by omega), pk_un (show ¬ i + 1 = j + 1 by omega), ← rr_congr (od := od) (i := i) (fun k hk => hcg k (by omega)), ← rr_congr (od := od) (i := i + 1) (fun k hk => hcg k (by omega))]
        exact hG i (by omega)
theorem learn_s (hM : MG F D R cl An mul) (G : isG mul e inv) (hod : ∀ x, isOrd mul e x (od x)) (hcl : cl ≤ 1908) (hF : 3000 ≤ F) (go gc : Int32) (Ag As Ao Ac Ae : Nat → Int32) (a1 b1 c1 a2 b2 c2 zg z1 z2 : Int64) :
    ∃ (gs : Nat → Fin cl) (m go' : Nat) (Ag' As' Ao' Ac' Ae' : Nat → Int32) (x1 x2 x3 x4 x5 x6 x7 x8 x9 : Int64), f_learn F (i3 D) (i3 R) (i3 cl) (i3 e.val) An 0 go gc a1 b1 c1 a2 b2 c2 zg z1 z2 Ag As Ao Ac Ae = some (1, i3 (go' : Int), i3 (m : Int), x1, x2, x3, x4, x5, x6, x7, x8, x9, Ag', As', Ao', Ac', Ae') ∧ lrn mul e od gs m Ag' As' Ac' ∧ isMx od go' ∧ ∀ x : Fin cl, Ao' x.val = i3 (od x) := by
  obtain ⟨go', Ao', Ae', x1, x2, x3, x4, x5, x6, x7, x8, x9, h1, h2, h3⟩ := lo_s hM G hod hcl hF go Ao Ae a1 b1 c1 a2 b2 c2 zg z1 z2
  obtain ⟨Ac1, h4, h5⟩ := fill_s F (by omega) (-1) Ac
  have hel := e.isLt
  obtain ⟨gs, m, Ag', As', Ac', Ae2, y1, y2, y3, y4, y5, y6, y7, y8, y9, h6, h7⟩ := learnL_s hM G hod hcl hF h3 11 0 F (fun _ => e) Ag (upd As 0 1) (upd Ac1 e.val 0) (upd Ae' 0 (i3 e.val)) x1 x2 x3 x4 x5 x6 x7 x8 x9 (by omega) (by omega) (fun j hj => absurd hj (by omega)) (fun i hi => by
    have : i = 0 := by have : i < 1 := hi
                       omega
    subst this; exact pk_us) (fun x => ⟨fun c hc he => by
      have : c = 0 := by have : c < 1 := hc
                         omega
      subst this
      rw [← he]; exact pk_us, fun hx => by
      rw [pk_un]
      · exact h5 _ (by have := x.isLt; omega)
      · intro hh
        exact hx 0 Nat.one_pos (Fin.ext hh.symm)⟩) pk_us (fun i hi => absurd hi (by omega))
  refine ⟨gs, m, go', Ag', As', Ao', Ac', Ae2, y1, y2, y3, y4, y5, y6, y7, y8, y9, ?_, h7, h2, h3⟩
  unfold f_learn
  rw [if_t rfl, h1]
  simp only [Option.bind_some]
  rw [h4]
  simp only [Option.bind_some]
  rw [if_t (by decide), nn_c hel (by omega)]
  simp only [Option.bind_some]
  show (if (1 : Int32) = 0 then _ else (if vin (i3 e.val) 1908 then _ else none)) = _
  rw [if_f (by decide), if_t (nn_v (by omega) (by omega)), nn_n (by omega)]
  have h6' : f_learn_L70 F (i3 D) (i3 R) (i3 cl) An Ao' F 0 x1 x2 x3 x4 x5 x6 x7 x8 x9 0 Ag (upd As (0 : Int32).toNatClampNeg 1) (upd Ac1 e.val 0) (upd Ae' (0 : Int32).toNatClampNeg (i3 e.val)) = _ := h6
  show (if vin 0 12 then Option.bind (f_learn_L70 F (i3 D) (i3 R) (i3 cl) An Ao' F 0 x1 x2 x3 x4 x5 x6 x7 x8 x9 0 Ag (upd As (0 : Int32).toNatClampNeg 1) (upd Ac1 e.val 0) (upd Ae' (0 : Int32).toNatClampNeg (i3 e.val))) _ else none) = _
  rw [if_t (by decide), h6']
  rfl
end Gns
