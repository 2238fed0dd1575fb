/-! THE RELATION between the class's cells and the reference's -/
def xf (S : HC) (b k j : Nat) : Int32 := hI S (b + 1 + k) j
def mf (S : HC) (a k j : Nat) : Int32 := hI S a (5 + 6 * j + k)
/-- people that can be: kind, father, mother, sex, first, barred -/
def VA (k j : Nat) (v : Int32) : Prop := (k = 0 → ∃ c, c < 6 ∧ v = nI c) ∧ (k = 1 ∨ k = 2 → v = -1 ∨ ∃ p, p < j ∧ v = nI p) ∧ (k = 3 → v = 0 ∨ v = 1) ∧ (k = 4 → ∃ c, c < 8 ∧ v = nI c) ∧ (k = 5 → ∃ c, c < 256 ∧ v = nI c)
def VP (n : Nat) (f : Nat → Nat → Int32) : Prop := ∀ k j, k < 6 → j < n → VA k j (f k j)
theorem VP.kind {n : Nat} {f : Nat → Nat → Int32} (h : VP n f) {j : Nat} (hj : j < n) : ∃ c, c < 6 ∧ f 0 j = nI c := (h 0 j (by decide) hj).1 rfl
theorem VP.fat {n : Nat} {f : Nat → Nat → Int32} (h : VP n f) {j : Nat} (hj : j < n) : f 1 j = -1 ∨ ∃ p, p < j ∧ f 1 j = nI p := (h 1 j (by decide) hj).2.1 (Or.inl rfl)
theorem VP.mot {n : Nat} {f : Nat → Nat → Int32} (h : VP n f) {j : Nat} (hj : j < n) : f 2 j = -1 ∨ ∃ p, p < j ∧ f 2 j = nI p := (h 2 j (by decide) hj).2.1 (Or.inr rfl)
theorem VP.sex {n : Nat} {f : Nat → Nat → Int32} (h : VP n f) {j : Nat} (hj : j < n) : f 3 j = 0 ∨ f 3 j = 1 := (h 3 j (by decide) hj).2.2.1 rfl
theorem VP.fst {n : Nat} {f : Nat → Nat → Int32} (h : VP n f) {j : Nat} (hj : j < n) : ∃ c, c < 8 ∧ f 4 j = nI c := (h 4 j (by decide) hj).2.2.2.1 rfl
theorem VP.bar {n : Nat} {f : Nat → Nat → Int32} (h : VP n f) {j : Nat} (hj : j < n) : ∃ c, c < 256 ∧ f 5 j = nI c := (h 5 j (by decide) hj).2.2.2.2 rfl
def AG (n : Nat) (f g : Nat → Nat → Int32) : Prop := ∀ k, k < 6 → ∀ j, j < n → f k j = g k j
/-- a sign of the class's code as the reference has it -/
def trS (c : Int32) : Int32 := if c = 20124 then -1 else if c = 20038 then -2 else if c = 20060 then -3 else if c = 20061 then -4 else if c = 20062 then -5 else if c = 20043 then -6 else if c = 20045 then -7 else if c = 20042 then -8 else if c = 20047 then -9 else if c = 20033 then -10 else c
/-- a code that leaves one number behind: d how deep the stack is -/
def wfS (d : Nat) (c : Int32) : Option Nat := if 0 ≤ c then (if c ≤ 10002 then some (d + 1) else none) else if c = -10 then (if 1 ≤ d then some d else none) else if -9 ≤ c then (if 2 ≤ d then some (d - 1) else none) else none
def wfC (f : Nat → Int32) : Nat → Nat → Nat → Option Nat
  | 0, _, d => some d
  | n + 1, i, d => match wfS d (f i) with
    | none => none
    | some d2 => wfC f n (i + 1) d2
/-- the t-th text: the class's Law at cell q, the reference's in the row a; its key and length -/
def LAW (ln : Nat → Nat) (N : Nat) (S : HC) (q a t key c : Nat) : Prop := (92 ≤ q ∧ q < N) ∧ hR S q 2 = some (q - 1) ∧ (ln (q - 1) = c ∧ 1 ≤ c ∧ c ≤ 96) ∧ (key < 3 ∧ hI S q 0 = nI key) ∧ hI S a (89 + 2 * t) = nI (1000 * key + c) ∧ hI S a (90 + 2 * t) = hI S q 1 ∧ (∀ i, i < c → hI S a (117 + 96 * t + i) = trS (hI S (q - 1) i)) ∧ wfC (fun i => hI S a (117 + 96 * t + i)) c 0 0 = some 1 ∧ ∀ i, i < c → 0 ≤ hI S (q - 1) i ∧ (1 ≤ key → hI S a (117 + 96 * t + i) ≤ 10001)
def LWR (ln : Nat → Nat) (N : Nat) (S : HC) (b a : Nat) : Prop := ∃ m, m ≤ 14 ∧ hI S b 11 = nI m ∧ hI S a 4 = nI m ∧ ∀ t, t < m → ∃ q key c, hR S (b + 7) t = some q ∧ LAW ln N S q a t key c
def LR (S : HC) (b a n : Nat) : Prop := n ≤ 14 ∧ hI S b 6 = nI n ∧ hI S a 1 = nI n ∧ AG n (xf S b) (mf S a) ∧ VP n (mf S a) ∧ (hI S b 7 = hI S a 3 ∧ ∃ c, c ≤ 100 ∧ hI S a 3 = nI c) ∧ (hI S b 8 = hI S a 2 ∧ ∃ y, y ≤ 9999 ∧ hI S a 2 = nI y) ∧ hI S b 9 = hI S a 0
def pNow (ln : Nat → Nat) (N : Nat) (S : HC) : Prop := (∃ n, LR S 1 69 n) ∧ LWR ln N S 1 69
def pImg (ln : Nat → Nat) (N : Nat) (S : HC) : Prop := hI S 0 2 = hI S 68 3 ∧ ((hI S 68 3 = 0) ∨ (hI S 68 3 = 1 ∧ (∃ n, LR S 9 70 n) ∧ LWR ln N S 9 70))
def pTap (S : HC) : Prop := ∃ k, k ≤ 96 ∧ hI S 38 1 = nI k ∧ hI S 68 7 = nI k ∧ ∀ j, j < k → hI S 39 j = hI S 74 j ∧ ∃ c, c < 256 ∧ hI S 74 j = nI c
/-- one row: object r (sort, length), places p; the reference's s (sorts), z (sizes), d (cells) from o on -/
def isNum (v : Int32) : Prop := v = -1000000005 ∨ (-99999 ≤ v ∧ v ≤ 99999)
def pRow (S : HC) : Prop := ∀ i, i < 4 → (hI S (45 + 2 * i) 0 = hI S 82 i ∧ (hI S 82 i = -1 ∨ hI S 82 i = 0 ∨ hI S 82 i = 1)) ∧ (∃ l, l ≤ 24 ∧ hI S (45 + 2 * i) 1 = nI l ∧ hI S 83 i = nI l) ∧ ∀ j, j < 24 → hI S (46 + 2 * i) j = hI S 84 (24 * i + j) ∧ isNum (hI S 84 (24 * i + j))
def wrth (k f : Int32) : Int32 := if k = 1 then 10 * f + 6 else if k = 2 then 99 - 10 * f else if k = 3 then 2 * (10 * f + 6) else if k = 4 then 99 - 10 * f - 8 else if k = 5 then 5 else 10 * f
def pSlt (S : HC) : Prop := ∀ i, i < 5 → hI S (53 + 3 * i) 0 = hI S 85 i ∧ ((hI S 85 i = 0) ∨ (hI S 85 i = 1 ∧ hI S (53 + 3 * i) 1 = hI S 86 i ∧ (∃ c, c < 6 ∧ hI S 86 i = nI c) ∧ hI S 87 i = wrth (hI S 86 i) (hI S (53 + 3 * i) 2)) ∨ (hI S 85 i = 2 ∧ (∃ l, l ≤ 24 ∧ hI S (54 + 3 * i) 1 = nI l ∧ hI S 86 i = nI l) ∧ ∀ j, j < 24 → hI S (55 + 3 * i) j = hI S 88 (24 * i + j)) ∨ (hI S 85 i = 3 ∧ hI S (53 + 3 * i) 3 = hI S 86 i))
def pWai (S : HC) : Prop := ∃ w, w ≤ 60 ∧ hI S 0 9 = nI w ∧ hI S 68 33 = nI w ∧ ∀ j, j < w → hI S 43 j = hI S 90 j
def pKey (S : HC) : Prop := (∀ j, j < 11 → hI S 75 j = ([106, 111, 105, 110, 102, 101, 101, 102, 105, 110, 101] : List Int32).getD j 0) ∧ ∀ j, j < 4 → hI S 76 j = ([0, 4, 7, 11] : List Int32).getD j 0
def PI (N : Nat) (ln : Nat → Nat) (S : HC) : Prop := (SH S ∧ LN ln ∧ 91 ≤ N ∧ N % 2 = 1) ∧ pNow ln N S ∧ pImg ln N S ∧ pTap S ∧ pRow S ∧ pSlt S ∧ pWai S ∧ pKey S
/-- the cells that matter between calls: all but what is only scratch -/
def sc (r k : Nat) : Prop := (17 ≤ r ∧ r ≤ 37) ∨ r = 40 ∨ r = 44 ∨ (71 ≤ r ∧ r ≤ 73) ∨ (77 ≤ r ∧ r ≤ 81) ∨ r = 89 ∨ (r = 68 ∧ 8 ≤ k ∧ k ≤ 20)
def Sm (S S' : HC) : Prop := (∀ r k, ¬ sc r k → hI S' r k = hI S r k) ∧ (∀ r k, ¬ (r = 25 ∧ (k = 3 ∨ k = 4)) → r ≠ 24 → r ≠ 36 → hR S' r k = hR S r k)
theorem Sm.rf (S : HC) : Sm S S := ⟨fun _ _ _ => rfl, fun _ _ _ _ _ => rfl⟩
theorem Sm.tr {S S' S'' : HC} (h : Sm S S') (h2 : Sm S' S'') : Sm S S'' := ⟨fun r k hs => (h2.1 r k hs).trans (h.1 r k hs), fun r k h1 h3 h4 => (h2.2 r k h1 h3 h4).trans (h.2 r k h1 h3 h4)⟩
theorem Sm.sI {S S' : HC} (h : Sm S S') {r k : Nat} {v : Int32} (hs : sc r k) : Sm S (sI S' r k v) := ⟨fun a b ha => by rw [hI_ne (fun q => ha (by rw [q.1, q.2]; exact hs))]; exact h.1 a b ha, h.2⟩
theorem Sm.sJ {S S' : HC} (h : Sm S S') {r k : Nat} {v : Int64} : Sm S (sJ S' r k v) := h
theorem Sm.sR {S S' : HC} (h : Sm S S') {r k : Nat} {v : Option Nat} (hs : (r = 25 ∧ (k = 3 ∨ k = 4)) ∨ r = 24 ∨ r = 36) : Sm S (sR S' r k v) := ⟨h.1, fun a b h1 h2 h3 => by
  rw [hR_sR, if_neg]
  · exact h.2 a b h1 h2 h3
  · intro q
    rcases hs with ⟨e1, e2⟩ | e | e
    · exact h1 ⟨by omega, by omega⟩
    · omega
    · omega⟩
theorem RT_ok : RT.all (fun q => !(q.1 == 25 && (q.2.1 == 3 || q.2.1 == 4)) && !(q.1 == 24) && !(q.1 == 36)) = true := by decide
theorem SH.sm {S S' : HC} (h : SH S) (hs : Sm S S') : SH S' := h.of (fun q hq => by
  have := List.all_eq_true.mp RT_ok q hq
  simp at this
  refine hs.2 _ _ ?_ this.1.2 this.2
  omega)
/-- a part of the relation stays where its cells stay -/
theorem LAW.ag {ln : Nat → Nat} {N : Nat} {S S' : HC} {q a t key c : Nat} (h : LAW ln N S q a t key c) (h1 : ∀ r k, 91 ≤ r → hI S' r k = hI S r k) (h2 : ∀ r k, 91 ≤ r → hR S' r k = hR S r k) (h3 : ∀ k, 89 ≤ k → hI S' a k = hI S a k) : LAW ln N S' q a t key c := by
  obtain ⟨⟨a1, a2⟩, a3, a4, ⟨a5, a6⟩, a7, a8, a9, a10, a11⟩ := h
  refine ⟨⟨a1, a2⟩, by rw [h2 _ _ (by omega)]; exact a3, a4, ⟨a5, by rw [h1 _ _ (by omega)]; exact a6⟩, by rw [h3 _ (by omega)]; exact a7, by rw [h3 _ (by omega), h1 _ _ (by omega)]; exact a8, fun i hi => by rw [h3 _ (by omega), h1 _ _ (by omega)]; exact a9 i hi, ?_, fun i hi => by rw [h3 _ (by omega), h1 _ _ (by omega)]; exact a11 i hi⟩
  have e : (fun i => hI S' a (117 + 96 * t + i)) = fun i => hI S a (117 + 96 * t + i) := by funext i; exact h3 _ (by omega)
  rw [e]; exact a10
theorem LWR.ag {ln : Nat → Nat} {N : Nat} {S S' : HC} {b a : Nat} (h : LWR ln N S b a) (h1 : ∀ r k, 91 ≤ r → hI S' r k = hI S r k) (h2 : ∀ r k, 91 ≤ r → hR S' r k = hR S r k) (h3 : ∀ k, 89 ≤ k → hI S' a k = hI S a k) (h4 : hI S' b 11 = hI S b 11) (h5 : hI S' a 4 = hI S a 4) (h6 : ∀ k, hR S' (b + 7) k = hR S (b + 7) k) : LWR ln N S' b a := by
  obtain ⟨m, m1, m2, m3, m4⟩ := h
  refine ⟨m, m1, by rw [h4]; exact m2, by rw [h5]; exact m3, fun t ht => ?_⟩
  obtain ⟨q, key, c, q1, q2⟩ := m4 t ht
  exact ⟨q, key, c, by rw [h6]; exact q1, q2.ag h1 h2 h3⟩
theorem LR.ag {S S' : HC} {b a n : Nat} (h : LR S b a n) (h1 : ∀ r k, b ≤ r → r ≤ b + 6 → hI S' r k = hI S r k) (h2 : ∀ k, hI S' a k = hI S a k) : LR S' b a n := by
  obtain ⟨a1, a2, a3, a4, a5, a6, a7, a8⟩ := h
  have e : mf S' a = mf S a := by funext k j; exact h2 _
  refine ⟨a1, by rw [h1 _ _ (by omega) (by omega)]; exact a2, by rw [h2]; exact a3, fun k hk j hj => ?_, by rw [e]; exact a5, by rw [h1 _ _ (by omega) (by omega), h2]; exact a6, by rw [h1 _ _ (by omega) (by omega), h2]; exact a7, by rw [h1 _ _ (by omega) (by omega), h2]; exact a8⟩
  rw [e, ← a4 k hk j hj]
  exact h1 _ _ (by omega) (by omega)
theorem pNow.ag {ln : Nat → Nat} {N : Nat} {S S' : HC} (h : pNow ln N S) (h1 : ∀ r k, (1 ≤ r ∧ r ≤ 8) ∨ r = 69 ∨ 91 ≤ r → hI S' r k = hI S r k) (h2 : ∀ r k, r = 8 ∨ 91 ≤ r → hR S' r k = hR S r k) : pNow ln N S' := by
  obtain ⟨⟨n, hn⟩, hw⟩ := h
  exact ⟨⟨n, hn.ag (fun r k q1 q2 => h1 r k (by omega)) (fun k => h1 _ _ (by omega))⟩, hw.ag (fun r k q => h1 r k (by omega)) (fun r k q => h2 r k (by omega)) (fun k _ => h1 _ _ (by omega)) (h1 _ _ (by omega)) (h1 _ _ (by omega)) (fun k => h2 _ _ (by omega))⟩
theorem pImg.ag {ln : Nat → Nat} {N : Nat} {S S' : HC} (h : pImg ln N S) (h1 : ∀ r k, (r = 0 ∧ k = 2) ∨ (9 ≤ r ∧ r ≤ 16) ∨ (r = 68 ∧ k = 3) ∨ r = 70 ∨ 91 ≤ r → hI S' r k = hI S r k) (h2 : ∀ r k, r = 16 ∨ 91 ≤ r → hR S' r k = hR S r k) : pImg ln N S' := by
  obtain ⟨e1, e2⟩ := h
  refine ⟨by rw [h1 0 2 (by omega), h1 68 3 (by omega)]; exact e1, ?_⟩
  rw [h1 68 3 (by omega)]
  rcases e2 with e2 | ⟨e2, ⟨n, hn⟩, hw⟩
  · exact Or.inl e2
  · exact Or.inr ⟨e2, ⟨n, hn.ag (fun r k q1 q2 => h1 r k (by omega)) (fun k => h1 _ _ (by omega))⟩, hw.ag (fun r k q => h1 r k (by omega)) (fun r k q => h2 r k (by omega)) (fun k _ => h1 _ _ (by omega)) (h1 _ _ (by omega)) (h1 _ _ (by omega)) (fun k => h2 _ _ (by omega))⟩
theorem pTap.ag {S S' : HC} (h : pTap S) (h1 : ∀ r k, (r = 38 ∧ k = 1) ∨ r = 39 ∨ (r = 68 ∧ k = 7) ∨ r = 74 → hI S' r k = hI S r k) : pTap S' := by
  obtain ⟨k, k1, k2, k3, k4⟩ := h
  refine ⟨k, k1, by rw [h1 _ _ (by omega)]; exact k2, by rw [h1 _ _ (by omega)]; exact k3, fun j hj => ?_⟩
  rw [h1 39 j (by omega), h1 74 j (by omega)]
  exact k4 j hj
theorem pRow.ag {S S' : HC} (h : pRow S) (h1 : ∀ r k, (45 ≤ r ∧ r ≤ 52) ∨ (82 ≤ r ∧ r ≤ 84) → hI S' r k = hI S r k) : pRow S' := by
  intro i hi
  obtain ⟨a1, a2, a3⟩ := h i hi
  rw [h1 (45 + 2 * i) 0 (by omega), h1 (45 + 2 * i) 1 (by omega), h1 82 i (by omega), h1 83 i (by omega)]
  refine ⟨a1, a2, fun j hj => ?_⟩
  rw [h1 (46 + 2 * i) j (by omega), h1 84 _ (by omega)]
  exact a3 j hj
theorem pSlt.ag {S S' : HC} (h : pSlt S) (h1 : ∀ r k, (53 ≤ r ∧ r ≤ 67) ∨ (85 ≤ r ∧ r ≤ 88) → hI S' r k = hI S r k) : pSlt S' := by
  intro i hi
  have a := h i hi
  have e : ∀ j, hI S' (55 + 3 * i) j = hI S (55 + 3 * i) j := fun j => h1 _ _ (by omega)
  have e2 : ∀ j, hI S' 88 (24 * i + j) = hI S 88 (24 * i + j) := fun j => h1 _ _ (by omega)
  simp only [h1 (53 + 3 * i) 0 (by omega), h1 (53 + 3 * i) 1 (by omega), h1 (53 + 3 * i) 2 (by omega), h1 (53 + 3 * i) 3 (by omega), h1 (54 + 3 * i) 1 (by omega), h1 85 i (by omega), h1 86 i (by omega), h1 87 i (by omega), e, e2]
  exact a
theorem pWai.ag {S S' : HC} (h : pWai S) (h1 : ∀ r k, (r = 0 ∧ k = 9) ∨ (r = 68 ∧ k = 33) ∨ r = 43 ∨ r = 90 → hI S' r k = hI S r k) : pWai S' := by
  obtain ⟨w, w1, w2, w3, w4⟩ := h
  refine ⟨w, w1, by rw [h1 _ _ (by omega)]; exact w2, by rw [h1 _ _ (by omega)]; exact w3, fun j hj => ?_⟩
  rw [h1 43 j (by omega), h1 90 j (by omega)]
  exact w4 j hj
theorem pKey.ag {S S' : HC} (h : pKey S) (h1 : ∀ r k, r = 75 ∨ r = 76 → hI S' r k = hI S r k) : pKey S' :=
  ⟨fun j hj => by rw [h1 75 j (by omega)]; exact h.1 j hj, fun j hj => by rw [h1 76 j (by omega)]; exact h.2 j hj⟩
/-- only scratch was written -/
theorem PI.sm {N : Nat} {ln : Nat → Nat} {S S' : HC} (h : PI N ln S) (hs : Sm S S') : PI N ln S' := by
  obtain ⟨⟨a1, a2, a3, a4⟩, b1, b2, b3, b4, b5, b6, b7⟩ := h
  refine ⟨⟨a1.sm hs, a2, a3, a4⟩, b1.ag (fun r k q => hs.1 r k (by unfold sc; omega)) (fun r k q => hs.2 r k (by omega) (by omega) (by omega)), b2.ag (fun r k q => hs.1 r k (by unfold sc; omega)) (fun r k q => hs.2 r k (by omega) (by omega) (by omega)), b3.ag (fun r k q => hs.1 r k (by unfold sc; omega)), b4.ag (fun r k q => hs.1 r k (by unfold sc; omega)), b5.ag (fun r k q => hs.1 r k (by unfold sc; omega)), b6.ag (fun r k q => hs.1 r k (by unfold sc; omega)), b7.ag (fun r k q => hs.1 r k (by unfold sc; omega))⟩
/-- only the cells of one part were written (and scratch) -/
theorem PI.now {N : Nat} {ln : Nat → Nat} {S S' : HC} (h : PI N ln S) (hR' : ∀ r k, hR S' r k = hR S r k) (hs : ∀ r k, ¬ ((1 ≤ r ∧ r ≤ 7) ∨ r = 69) → hI S' r k = hI S r k) (hn : pNow ln N S') : PI N ln S' := by
  obtain ⟨⟨a1, a2, a3, a4⟩, b1, b2, b3, b4, b5, b6, b7⟩ := h
  exact ⟨⟨a1.of (fun q _ => hR' _ _), a2, a3, a4⟩, hn, b2.ag (fun r k q => hs r k (by omega)) (fun r k _ => hR' r k), b3.ag (fun r k q => hs r k (by omega)), b4.ag (fun r k q => hs r k (by omega)), b5.ag (fun r k q => hs r k (by omega)), b6.ag (fun r k q => hs r k (by omega)), b7.ag (fun r k q => hs r k (by omega))⟩
theorem PI.tap {N : Nat} {ln : Nat → Nat} {S S' : HC} (h : PI N ln S) (hR' : ∀ r k, hR S' r k = hR S r k) (hs : ∀ r k, ¬ (r = 38 ∨ r = 39 ∨ (r = 68 ∧ k = 7) ∨ r = 74) → hI S' r k = hI S r k) (hn : pTap S') : PI N ln S' := by
  obtain ⟨⟨a1, a2, a3, a4⟩, b1, b2, b3, b4, b5, b6, b7⟩ := h
  exact ⟨⟨a1.of (fun q _ => hR' _ _), a2, a3, a4⟩, b1.ag (fun r k q => hs r k (by omega)) (fun r k _ => hR' r k), b2.ag (fun r k q => hs r k (by omega)) (fun r k _ => hR' r k), hn, b4.ag (fun r k q => hs r k (by omega)), b5.ag (fun r k q => hs r k (by omega)), b6.ag (fun r k q => hs r k (by omega)), b7.ag (fun r k q => hs r k (by omega))⟩
theorem PI.row {N : Nat} {ln : Nat → Nat} {S S' : HC} (h : PI N ln S) (hR' : ∀ r k, hR S' r k = hR S r k) (hs : ∀ r k, ¬ ((45 ≤ r ∧ r ≤ 52) ∨ (82 ≤ r ∧ r ≤ 84) ∨ r = 89) → hI S' r k = hI S r k) (hn : pRow S') : PI N ln S' := by
  obtain ⟨⟨a1, a2, a3, a4⟩, b1, b2, b3, b4, b5, b6, b7⟩ := h
  exact ⟨⟨a1.of (fun q _ => hR' _ _), a2, a3, a4⟩, b1.ag (fun r k q => hs r k (by omega)) (fun r k _ => hR' r k), b2.ag (fun r k q => hs r k (by omega)) (fun r k _ => hR' r k), b3.ag (fun r k q => hs r k (by omega)), hn, b5.ag (fun r k q => hs r k (by omega)), b6.ag (fun r k q => hs r k (by omega)), b7.ag (fun r k q => hs r k (by omega))⟩
theorem PI.slt {N : Nat} {ln : Nat → Nat} {S S' : HC} (h : PI N ln S) (hR' : ∀ r k, hR S' r k = hR S r k) (hs : ∀ r k, ¬ ((53 ≤ r ∧ r ≤ 67) ∨ (85 ≤ r ∧ r ≤ 88)) → hI S' r k = hI S r k) (hn : pSlt S') : PI N ln S' := by
  obtain ⟨⟨a1, a2, a3, a4⟩, b1, b2, b3, b4, b5, b6, b7⟩ := h
  exact ⟨⟨a1.of (fun q _ => hR' _ _), a2, a3, a4⟩, b1.ag (fun r k q => hs r k (by omega)) (fun r k _ => hR' r k), b2.ag (fun r k q => hs r k (by omega)) (fun r k _ => hR' r k), b3.ag (fun r k q => hs r k (by omega)), b4.ag (fun r k q => hs r k (by omega)), hn, b6.ag (fun r k q => hs r k (by omega)), b7.ag (fun r k q => hs r k (by omega))⟩
theorem PI.wai {N : Nat} {ln : Nat → Nat} {S S' : HC} (h : PI N ln S) (hR' : ∀ r k, hR S' r k = hR S r k) (hs : ∀ r k, ¬ ((r = 0 ∧ k = 9) ∨ (r = 68 ∧ k = 33) ∨ r = 43 ∨ r = 90) → hI S' r k = hI S r k) (hn : pWai S') : PI N ln S' := by
  obtain ⟨⟨a1, a2, a3, a4⟩, b1, b2, b3, b4, b5, b6, b7⟩ := h
  exact ⟨⟨a1.of (fun q _ => hR' _ _), a2, a3, a4⟩, b1.ag (fun r k q => hs r k (by omega)) (fun r k _ => hR' r k), b2.ag (fun r k q => hs r k (by omega)) (fun r k _ => hR' r k), b3.ag (fun r k q => hs r k (by omega)), b4.ag (fun r k q => hs r k (by omega)), b5.ag (fun r k q => hs r k (by omega)), hn, b7.ag (fun r k q => hs r k (by omega))⟩
theorem PI.img {N : Nat} {ln : Nat → Nat} {S S' : HC} (h : PI N ln S) (hS : SH S') (hs : ∀ r k, ¬ ((r = 0 ∧ k = 2) ∨ (9 ≤ r ∧ r ≤ 16) ∨ (r = 68 ∧ k = 3) ∨ r = 70) → hI S' r k = hI S r k) (hr : ∀ r k, r ≠ 16 → hR S' r k = hR S r k) (hn : pImg ln N S') : PI N ln S' := by
  obtain ⟨⟨a1, a2, a3, a4⟩, b1, b2, b3, b4, b5, b6, b7⟩ := h
  exact ⟨⟨hS, a2, a3, a4⟩, b1.ag (fun r k q => hs r k (by omega)) (fun r k q => hr r k (by omega)), hn, b3.ag (fun r k q => hs r k (by omega)), b4.ag (fun r k q => hs r k (by omega)), b5.ag (fun r k q => hs r k (by omega)), b6.ag (fun r k q => hs r k (by omega)), b7.ag (fun r k q => hs r k (by omega))⟩
/-- changes of a land on both sides -/
theorem LR.scal {S S' : HC} {b a n : Nat} (h : LR S b a n) (h1 : ∀ r k, b + 1 ≤ r → r ≤ b + 6 → hI S' r k = hI S r k) (h2 : hI S' b 6 = hI S b 6) (h3 : hI S' a 1 = hI S a 1) (h4 : ∀ k, 5 ≤ k → hI S' a k = hI S a k) (h5 : hI S' b 7 = hI S' a 3 ∧ ∃ c, c ≤ 100 ∧ hI S' a 3 = nI c) (h6 : hI S' b 8 = hI S' a 2 ∧ ∃ y, y ≤ 9999 ∧ hI S' a 2 = nI y) (h7 : hI S' b 9 = hI S' a 0) : LR S' b a n := by
  obtain ⟨a1, a2, a3, a4, a5, a6, a7, a8⟩ := h
  have e : mf S' a = mf S a := by funext k j; exact h4 _ (by omega)
  refine ⟨a1, by rw [h2]; exact a2, by rw [h3]; exact a3, fun k hk j hj => ?_, by rw [e]; exact a5, h5, h6, h7⟩
  rw [e, ← a4 k hk j hj]
  exact h1 _ _ (by omega) (by omega)
theorem LR.pers {S : HC} {b a n : Nat} (h : LR S b a n) (hab : a < b ∨ b + 6 < a) {k j : Nat} {v : Int32} (hk : k < 6) (hj : j < n) (hv : VA k j v) : LR (sI (sI S (b + 1 + k) j v) a (5 + 6 * j + k) v) b a n := by
  obtain ⟨a1, a2, a3, a4, a5, a6, a7, a8⟩ := h
  have e1 : ∀ r i, ¬ (r = a ∧ i = 5 + 6 * j + k) → ¬ (r = b + 1 + k ∧ i = j) → hI (sI (sI S (b + 1 + k) j v) a (5 + 6 * j + k) v) r i = hI S r i := fun r i q1 q2 => by rw [hI_ne q1, hI_ne q2]
  have ex : ∀ k2 j2, k2 < 6 → j2 < n → xf (sI (sI S (b + 1 + k) j v) a (5 + 6 * j + k) v) b k2 j2 = if k2 = k ∧ j2 = j then v else xf S b k2 j2 := by
    intro k2 j2 q1 q2
    by_cases e : k2 = k ∧ j2 = j
    · rw [if_pos e, xf, hI_row (by omega), e.1, e.2, hI_self]
    · rw [if_neg e]; exact e1 _ _ (by omega) (by omega)
  have em : ∀ k2 j2, k2 < 6 → j2 < n → mf (sI (sI S (b + 1 + k) j v) a (5 + 6 * j + k) v) a k2 j2 = if k2 = k ∧ j2 = j then v else mf S a k2 j2 := by
    intro k2 j2 q1 q2
    by_cases e : k2 = k ∧ j2 = j
    · rw [if_pos e, mf, e.1, e.2, hI_self]
    · rw [if_neg e]; exact e1 _ _ (by omega) (by omega)
  refine ⟨a1, by rw [e1 _ _ (by omega) (by omega)]; exact a2, by rw [e1 _ _ (by omega) (by omega)]; exact a3, fun k2 q1 j2 q2 => ?_, fun k2 j2 q1 q2 => ?_, ?_, ?_, ?_⟩
  · rw [ex k2 j2 q1 q2, em k2 j2 q1 q2, a4 k2 q1 j2 q2]
  · rw [em k2 j2 q1 q2]
    by_cases e : k2 = k ∧ j2 = j
    · rw [if_pos e, e.1, e.2]; exact hv
    · rw [if_neg e]; exact a5 k2 j2 q1 q2
  · rw [e1 _ _ (by omega) (by omega), e1 _ _ (by omega) (by omega)]; exact a6
  · rw [e1 _ _ (by omega) (by omega), e1 _ _ (by omega) (by omega)]; exact a7
  · rw [e1 _ _ (by omega) (by omega), e1 _ _ (by omega) (by omega)]; exact a8
