/-! the state of all cells: ints by (id, place), longs, references to machines by id -/
abbrev Sg : Type := (Nat → Nat → Int32) × (Nat → Nat → Int64) × (Nat → Nat → Option Nat)
def sI (S : Sg) (i k : Nat) (v : Int32) : Sg := (va_up S.1 i (upd (S.1 i) k v), S.2)
def sJ (S : Sg) (i k : Nat) (v : Int64) : Sg := (S.1, va_up S.2.1 i (vp_updL (S.2.1 i) k v), S.2.2)
def sP (S : Sg) (i k : Nat) (v : Option Nat) : Sg := (S.1, S.2.1, va_up S.2.2 i (va_up (S.2.2 i) k v))
def sC (S : Sg) (d : Nat) (f : Nat → Int32) : Sg := (va_up S.1 d f, S.2)
def vl {α β : Type} (e : α) (K : α → β) : β := K e
def bd {α β : Type} (o : Option α) (K : α → Option β) : Option β := match o with
  | none => none
  | some x => K x
def bd2 {α β γ : Type} (o : Option (α × β)) (K : α → β → Option γ) : Option γ := match o with
  | none => none
  | some q => K q.1 q.2
def ck {β : Type} (j : Int32) (N : Nat) (K : Option β) : Option β := if j < 0 ∨ N ≤ j.toNatClampNeg then none else K
def zk {β : Type} (v : Int32) (K : Option β) : Option β := if v = 0 ∨ v = 1 then K else none
def nz {β : Type} (y : Int32) (K : Option β) : Option β := if y = 0 then none else K
def okM (n m : Nat) : Bool := decide (79 ≤ m) && (decide ((m - 79) % 6 = 0) && decide ((m - 79) / 6 < n))
def nu {β : Type} (n : Nat) (r : Option Nat) (X : Option β) (Y : Nat → Option β) : Option β := match r with
  | none => X
  | some i => if okM n i = true then Y i else none
def rv (ad : Nat → Nat) (r : Option Nat) : Value := match r with
  | none => .null
  | some i => .ref (ad i)
theorem rv_none (ad : Nat → Nat) : rv ad none = .null := rfl
theorem rv_some (ad : Nat → Nat) (i : Nat) : rv ad (some i) = .ref (ad i) := rfl
theorem rv_rf (ad : Nat → Nat) (r : Option Nat) : va_rf (r.map ad) = rv ad r := by cases r <;> rfl
theorem ck_s {β : Type} {j : Int32} {N : Nat} {K : Option β} {z : β} (h : ck j N K = some z) : vp_in j N ∧ K = some z := by
  unfold ck at h
  by_cases hc : j < 0 ∨ N ≤ j.toNatClampNeg
  · rw [if_pos hc] at h; cases h
  · rw [if_neg hc] at h; exact ⟨hc, h⟩
theorem zk_s {β : Type} {v : Int32} {K : Option β} {z : β} (h : zk v K = some z) : (v = 0 ∨ v = 1) ∧ K = some z := by
  unfold zk at h
  by_cases hc : v = 0 ∨ v = 1
  · rw [if_pos hc] at h; exact ⟨hc, h⟩
  · rw [if_neg hc] at h; cases h
theorem nz_s {β : Type} {v : Int32} {K : Option β} {z : β} (h : nz v K = some z) : ¬ v = 0 ∧ K = some z := by
  unfold nz at h
  by_cases hc : v = 0
  · rw [if_pos hc] at h; cases h
  · rw [if_neg hc] at h; exact ⟨hc, h⟩
theorem bd_s {α β : Type} {o : Option α} {K : α → Option β} {z : β} (h : bd o K = some z) : ∃ q, o = some q ∧ K q = some z := by
  cases o with
  | none => cases h
  | some q => exact ⟨q, rfl, h⟩
theorem bd2_s {α β γ : Type} {o : Option (α × β)} {K : α → β → Option γ} {z : γ} (h : bd2 o K = some z) : ∃ q, o = some q ∧ K q.1 q.2 = some z := by
  cases o with
  | none => cases h
  | some q => exact ⟨q, rfl, h⟩
theorem nu_s {β : Type} {n : Nat} {r : Option Nat} {X : Option β} {Y : Nat → Option β} {z : β} (h : nu n r X Y = some z) : (r = none ∧ X = some z) ∨ ∃ i, r = some i ∧ okM n i = true ∧ Y i = some z := by
  cases r with
  | none => exact Or.inl ⟨rfl, h⟩
  | some i =>
    unfold nu at h
    by_cases hc : okM n i = true
    · simp only [hc, if_true] at h; exact Or.inr ⟨i, rfl, hc, h⟩
    · simp only [hc] at h; cases h
theorem zk_nar {v : Int32} (h : v = 0 ∨ v = 1) : narrow .boolean (.int v) = .int v ∧ fits .boolean (.int v) = true := by
  rcases h with rfl | rfl <;> decide +kernel
/-! the cells -/
def kdS : List (Nat × Nat) := [(9, 0), (12, 100), (15, 4), (6, 0), (12, 100), (7, 0), (12, 6), (12, 6), (12, 6), (14, 6), (12, 24), (12, 180), (5, 0), (12, 6), (12, 6), (12, 64), (12, 150), (3, 0), (12, 150), (12, 150), (12, 150), (14, 150), (0, 0), (13, 4350), (2, 0), (13, 352), (13, 352), (1, 0), (12, 300), (12, 300), (12, 300), (12, 300), (8, 0), (12, 300), (10, 0), (11, 100), (11, 100), (12, 6), (14, 6), (12, 6), (12, 6), (12, 180), (12, 180), (12, 400), (12, 4), (12, 4), (12, 4), (12, 4), (12, 2400), (14, 600), (12, 3600), (12, 600), (12, 600), (12, 600), (12, 22600), (14, 12), (14, 12), (12, 12), (12, 12), (14, 12), (12, 12), (12, 12), (14, 12), (14, 12), (14, 12), (14, 400), (12, 6), (12, 150), (12, 900), (12, 600), (12, 150), (12, 150), (14, 150), (14, 150), (13, 4350), (12, 22500), (12, 22500), (12, 22500), (14, 22500)]
def kdM (r : Nat) : Nat × Nat := match r with
  | 0 => (4, 0)
  | 1 => (12, 600)
  | 2 => (12, 150)
  | 3 => (12, 900)
  | 4 => (14, 150)
  | _ => (12, 150)
def kd (i : Nat) : Nat × Nat := if i < 79 then kdS.getD i (0, 0) else kdM ((i - 79) % 6)
def flds (ad : Nat → Nat) (i ci : Nat) (f : Nat → Int32) (g : Nat → Int64) (h : Nat → Option Nat) : List Value := match ci with
  | 0 => [.ref (ad 23)]
  | 1 => [.ref (ad 28), .ref (ad 29), .ref (ad 30), .ref (ad 31), .int (f 4)]
  | 2 => [.ref (ad 25), .ref (ad 26)]
  | 3 => [.ref (ad 18), .ref (ad 19), .ref (ad 20), .ref (ad 21)]
  | 4 => [.int (f 0), .int (f 1), .int (f 2), .int (f 3), .int (f 4), .ref (ad (i + 1)), .ref (ad (i + 2)), .ref (ad (i + 3)), .ref (ad (i + 4)), .ref (ad (i + 5))]
  | 5 => [.ref (ad 13), .ref (ad 14), .ref (ad 15), .ref (ad 16)]
  | 6 => [.ref (ad 4), .int (f 1), .int (f 2), .ref (ad 5), .int (f 4), .int (f 5), .int (f 6), .int (f 7), .int (f 8)]
  | 7 => [.int (f 0), .long (g 1), .ref (ad 6), .ref (ad 7), .ref (ad 8), .ref (ad 9), .ref (ad 10), .ref (ad 11)]
  | 8 => [.ref (ad 33), .int (f 1)]
  | 9 => [.ref (ad 1), .int (f 1), .ref (ad 2), rv ad (h 3), .ref (ad 3), .ref (ad 12), .ref (ad 17), .ref (ad 22), .ref (ad 24), .ref (ad 27), .ref (ad 32)]
  | _ => [.ref (ad 35), .ref (ad 36), .int (f 2), .int (f 3), .int (f 4), .int (f 5), .int (f 6), .ref (ad 37), .ref (ad 38), .ref (ad 39), .ref (ad 40), .ref (ad 41), .ref (ad 42), .int (f 13), .ref (ad 43), .ref (ad 44), .ref (ad 45), .ref (ad 46), .ref (ad 47), .ref (ad 48), .ref (ad 49), .ref (ad 50), .ref (ad 51), .ref (ad 52), .ref (ad 53), .int (f 25), .ref (ad 54), .int (f 27), .int (f 28), .int (f 29), .ref (ad 55), .ref (ad 56), .ref (ad 57), .ref (ad 58), .ref (ad 59), .ref (ad 60), .ref (ad 61), .int (f 37), .int (f 38), .int (f 39), .ref (ad 62), .ref (ad 63), .ref (ad 64), .int (f 43), .ref (ad 65), .ref (ad 66), .ref (ad 67), .ref (ad 68), .ref (ad 69), .ref (ad 70), .ref (ad 71), .ref (ad 72), .ref (ad 73), .ref (ad 74), .ref (ad 75), .ref (ad 76), .ref (ad 77), .ref (ad 78), .int (f 58)]
def cellOf (cy : Nat → ClassId) (ad : Nat → Nat) (i : Nat) (K : Nat × Nat) (f : Nat → Int32) (g : Nat → Int64) (h : Nat → Option Nat) : va_E := match K.1 with
  | 11 => .inl (cy 0, K.2, .inl f)
  | 12 => .inl (cy 1, K.2, .inl f)
  | 13 => .inl (cy 2, K.2, .inr (.inl g))
  | 14 => .inl (cy 3, K.2, .inl f)
  | 15 => .inl (cy 4, K.2, .inr (.inr (.inr (.inr (fun j => (h j).map ad)))))
  | c => .inr (c, flds ad i c f g h)
def tysOf (cy : Nat → ClassId) : List (ClassId × FieldType) := [(cy 0, .byte), (cy 1, .int), (cy 2, .long), (cy 3, .boolean), (cy 4, .object "WordMachines$Machine")]
def gN0 (n : Nat) : Nat := 79 + 6 * n
def wW (cy : Nat → ClassId) (ad : Nat → Nat) (n : Nat) (S : Sg) : va_W := (List.range (gN0 n)).map (fun i => (ad i, cellOf cy ad i (kd i) (S.1 i) (S.2.1 i) (S.2.2 i)))
def has (n i : Nat) (K : Nat × Nat) : Prop := i < gN0 n ∧ kd i = K
theorem has_s {n i : Nat} {K : Nat × Nat} (h : i < 79) (hk : kd i = K) : has n i K := ⟨by unfold gN0; omega, hk⟩
theorem okM_s {n m : Nat} (h : okM n m = true) : ∃ j, j < n ∧ m = 79 + 6 * j := by
  simp only [okM, Bool.and_eq_true, decide_eq_true_eq] at h
  exact ⟨(m - 79) / 6, h.2.2, by omega⟩
theorem okM_i {n j : Nat} (h : j < n) : okM n (79 + 6 * j) = true := by
  simp only [okM, Bool.and_eq_true, decide_eq_true_eq]
  omega
theorem has_m {n m : Nat} (h : okM n m = true) (r : Nat) (hr : r < 6) : has n (m + r) (kdM r) := by
  obtain ⟨j, hj, rfl⟩ := okM_s h
  refine ⟨by unfold gN0; omega, ?_⟩
  unfold kd
  rw [if_neg (by omega), show (79 + 6 * j + r - 79) % 6 = r by omega]
theorem has_m0 {n m : Nat} (h : okM n m = true) : has n m (4, 0) := has_m h 0 (by omega)
theorem wW_len (cy : Nat → ClassId) (ad : Nat → Nat) (n : Nat) (S : Sg) : (wW cy ad n S).length = gN0 n := by simp [wW]
theorem wW_get {cy : Nat → ClassId} {ad : Nat → Nat} {n i : Nat} {S : Sg} {K : Nat × Nat} (h : has n i K) : (wW cy ad n S)[i]? = some (ad i, cellOf cy ad i K (S.1 i) (S.2.1 i) (S.2.2 i)) := by
  obtain ⟨h1, rfl⟩ := h
  simp [wW, h1]
theorem wW_lt {cy : Nat → ClassId} {ad : Nat → Nat} {n i : Nat} {S : Sg} {q : Nat × va_E} (h : (wW cy ad n S)[i]? = some q) : i < gN0 n ∧ q.1 = ad i := by
  have h1 : i < (wW cy ad n S).length := (List.getElem?_eq_some_iff.mp h).1
  rw [wW_len] at h1
  rw [wW_get (K := kd i) ⟨h1, rfl⟩] at h
  cases h
  exact ⟨h1, rfl⟩
theorem wW_set {cy : Nat → ClassId} {ad : Nat → Nat} {n i : Nat} {S S' : Sg} {K : Nat × Nat} {E : va_E} (h : has n i K) (hE : cellOf cy ad i K (S'.1 i) (S'.2.1 i) (S'.2.2 i) = E) (hne : ∀ j, j ≠ i → S'.1 j = S.1 j ∧ S'.2.1 j = S.2.1 j ∧ S'.2.2 j = S.2.2 j) : (wW cy ad n S).set i (ad i, E) = wW cy ad n S' := by
  apply List.ext_getElem?
  intro j
  rw [List.getElem?_set]
  by_cases hij : i = j
  · subst hij
    rw [if_pos rfl, wW_len, if_pos h.1, wW_get h, hE]
  · rw [if_neg hij]
    by_cases hj : j < gN0 n
    · rw [wW_get (K := kd j) ⟨hj, rfl⟩, wW_get (K := kd j) ⟨hj, rfl⟩]
      obtain ⟨a, b, c⟩ := hne j (fun e => hij e.symm)
      rw [a, b, c]
    · rw [List.getElem?_eq_none (by rw [wW_len]; omega), List.getElem?_eq_none (by rw [wW_len]; omega)]
theorem wD {cy : Nat → ClassId} {ad : Nat → Nat} {n : Nat} {S : Sg} {A B : Nat → Prop} (h : va_D A (wW cy ad n S)) (hB : ∀ i, i < gN0 n → B (ad i)) (S' : Sg) : va_D B (wW cy ad n S') := by
  refine ⟨fun i j p q hp hq e => ?_, fun k q hk => ?_⟩
  · obtain ⟨a1, a2⟩ := wW_lt hp
    obtain ⟨b1, b2⟩ := wW_lt hq
    exact h.1 i j _ _ (wW_get (K := kd i) ⟨a1, rfl⟩) (wW_get (K := kd j) ⟨b1, rfl⟩) (by show ad i = ad j; rw [← a2, ← b2]; exact e)
  · obtain ⟨a1, a2⟩ := wW_lt hk
    rw [a2]
    exact hB k a1
theorem sI_n (S : Sg) (i k : Nat) (v : Int32) : ∀ j, j ≠ i → (sI S i k v).1 j = S.1 j ∧ (sI S i k v).2.1 j = S.2.1 j ∧ (sI S i k v).2.2 j = S.2.2 j := fun _ h => ⟨va_up_ne _ _ h, rfl, rfl⟩
theorem sC_n (S : Sg) (i : Nat) (f : Nat → Int32) : ∀ j, j ≠ i → (sC S i f).1 j = S.1 j ∧ (sC S i f).2.1 j = S.2.1 j ∧ (sC S i f).2.2 j = S.2.2 j := fun _ h => ⟨va_up_ne _ _ h, rfl, rfl⟩
theorem sJ_n (S : Sg) (i k : Nat) (v : Int64) : ∀ j, j ≠ i → (sJ S i k v).1 j = S.1 j ∧ (sJ S i k v).2.1 j = S.2.1 j ∧ (sJ S i k v).2.2 j = S.2.2 j := fun _ h => ⟨rfl, va_up_ne _ _ h, rfl⟩
theorem sP_n (S : Sg) (i k : Nat) (v : Option Nat) : ∀ j, j ≠ i → (sP S i k v).1 j = S.1 j ∧ (sP S i k v).2.1 j = S.2.1 j ∧ (sP S i k v).2.2 j = S.2.2 j := fun _ h => ⟨rfl, rfl, va_up_ne _ _ h⟩
theorem sI_s (S : Sg) (i k : Nat) (v : Int32) : (sI S i k v).1 i = upd (S.1 i) k v := va_up_self _ _ _
theorem sC_s (S : Sg) (i : Nat) (f : Nat → Int32) : (sC S i f).1 i = f := va_up_self _ _ _
theorem sJ_s (S : Sg) (i k : Nat) (v : Int64) : (sJ S i k v).2.1 i = vp_updL (S.2.1 i) k v := va_up_self _ _ _
theorem sP_s (S : Sg) (i k : Nat) (v : Option Nat) : (sP S i k v).2.2 i = va_up (S.2.2 i) k v := va_up_self _ _ _
/-! the words -/
def wsAll : List Cond := lw_tbl.filter goodWord
theorem wA {w : Cond} (i : Nat) (h : tables_1[i]? = some w) (hg : goodWord w = true) : w ∈ wsAll := List.mem_filter.mpr ⟨List.mem_append_right _ (List.mem_of_getElem? h), hg⟩
theorem wAp {w : Cond} (i : Nat) (h : (k2_sels lw_privs)[i]? = some w) (hg : goodWord w = true) : w ∈ wsAll := List.mem_filter.mpr ⟨List.mem_append_left _ (List.mem_of_getElem? h), hg⟩
theorem wAg {w : Cond} (h : w ∈ wsAll) : (w.onTables && w.keeps) = true ∨ ∃ ty, w = .arrayClass ty := good_of_word (List.mem_filter.mp h).2
theorem gi_all {y : Cond} (hy : y ∈ wsAll) : GoodIn wsAll (y :: wsAll) := fun w h => by
  rcases List.mem_cons.mp h with rfl | h
  · exact ⟨hy, wAg hy⟩
  · exact ⟨h, wAg h⟩
theorem gi_app {a : List Cond} {b : List Cond} (ha : ∀ w ∈ a, w ∈ wsAll) (hb : GoodIn wsAll b) : GoodIn wsAll (a ++ b) := fun w h => by
  rcases List.mem_append.mp h with h | h
  · exact ⟨ha w h, wAg (ha w h)⟩
  · exact hb w h
theorem in4 {a b c d : Cond} (ha : a ∈ wsAll) (hb : b ∈ wsAll) (hc : c ∈ wsAll) (hd : d ∈ wsAll) : ∀ w ∈ ([a, b, c, d] : List Cond), w ∈ wsAll := fun w h => by
  simp only [List.mem_cons, List.not_mem_nil, or_false] at h
  rcases h with rfl | rfl | rfl | rfl <;> assumption
theorem in3 {a b c : Cond} (ha : a ∈ wsAll) (hb : b ∈ wsAll) (hc : c ∈ wsAll) : ∀ w ∈ ([a, b, c] : List Cond), w ∈ wsAll := fun w h => by
  simp only [List.mem_cons, List.not_mem_nil, or_false] at h
  rcases h with rfl | rfl | rfl <;> assumption
theorem in_ps {ws : List Cond} (ps : List Nat) (hp : ws = ps.filterMap (fun i => tables_1[i]?)) (h : ws.all goodWord = true) : ∀ w ∈ ws, w ∈ wsAll := fun w hw => by
  have h1 := List.all_eq_true.mp h w hw
  rw [hp] at hw
  obtain ⟨i, -, hi⟩ := List.mem_filterMap.mp hw
  exact wA i hi h1
def isNest : Cond → Bool
  | .fieldLinkNest .. => true
  | .methodLinkNest .. => true
  | _ => false
def gN (U : State) : Prop := ∀ w ∈ tables_1, isNest w = true → va_Nw w U
theorem gN.warm {s U : State} (hW : s.WarmedH U.vm) (h : gN s) : gN U := by
  intro w hw hn
  have h1 := h w hw hn
  cases w <;> first | exact va_Nw.warmF hW h1 | exact va_Nw.warmM hW h1 | (simp [isNest] at hn)
theorem gN.same {s U : State} (hW : s.vm = U.vm) (h : gN s) : gN U := by
  intro w hw hn
  have h1 := h w hw hn
  cases w <;> first | (simp [isNest] at hn; done) | exact va_Nw.same rfl hW h1
def tru (j : Nat) : Int64 := match j with
  | 0 => -6148914691236517206
  | 1 => -3689348814741910324
  | 2 => -1085102592571150096
  | 3 => -71777214294589696
  | 4 => -281470681808896
  | _ => -4294967296
def gT (A : Nat → Prop) (U : State) (H : Heap) : Prop := ∃ b : Nat, va_Z "WordMachines$Parser" "TRUTHS" "[J" (.ref b) A U H ∧ va_T .long b 6 (fun j => .long (tru j)) A U H
/-! the judgement -/
def gPc (D : va_G) (cy : Nat → ClassId) (ad : Nat → Nat) (n : Nat) (S : Sg) (sz : Nat) (av : List Value) : Array Value → State → Prop := fun v U =>
  v = av.toArray ∧ U.heap.size = sz ∧ va_P D vwCl (wW cy ad n S) U.heap ∧ va_K D vwCl (tysOf cy) U ∧ va_D (fun _ => True) (wW cy ad n S) ∧ gN U ∧ gT (va_A (wW cy ad n S) sz) U U.heap
def gQ (D : va_G) (cy : Nat → ClassId) (ad : Nat → Nat) (n : Nat) (A : Nat → Prop) (V : Option Value) (S' : Sg) : Array Value → State → Outcome → State → Prop := fun _ st oc t =>
  (oc = .returned V ∧ va_P D vwCl (wW cy ad n S') t.heap) ∧ va_F A st t
def gC (p : Program) (s : State) (m : MethodId) (args : Array Value) (meth : Method) (c : Code) (cc : ByteArray) (nL : Nat) (own : String) (D : va_G) (cy : Nat → ClassId) (ad : Nat → Nat) (n : Nat) (A : Nat → Prop) : Prop :=
  p.tables.exec = Jvm.exec ∧ c.code = cc ∧ c.maxLocals = nL ∧ s.vm.findClass own = some m.cls ∧ (∀ w ∈ wsAll, w.before args s = true) ∧ va_K D vwCl (tysOf cy) s ∧ (∀ S : Sg, va_D A (wW cy ad n S)) ∧ (∀ q : Nat, s.heap.size ≤ q → A q) ∧ gN s ∧ gT A s s.heap ∧ meth.locks = false
def gW (p : Program) (l : Launch) (e : Env) (R : Room) (s : State) (m : MethodId) (args : Array Value) (below : List Frame) (meth : Method) (c : Code) (D : va_G) (cy : Nat → ClassId) (ad : Nat → Nat) (n : Nat) (A : Nat → Prop) (nL mc ms : Nat) (Q : State → Prop) (S : Sg) (pc : Nat) (lv : List (Nat × Value)) (st : List Value) : Prop :=
  ∀ (H : Heap) (locs : List Loc) (ls : Array Slot), va_P D vwCl (wW cy ad n S) H → va_S A s.heap H locs → lv_has ls nL lv → W p l e R s m args below meth c H locs mc ms Q (F0 m pc ls st)
theorem gBlind {D : va_G} {cy : Nat → ClassId} {ad : Nat → Nat} {n : Nat} {S : Sg} {sz : Nat} {av : List Value} : FrameBlind (gPc D cy ad n S sz av) := fun a U g mk h => by
  obtain ⟨h1, h2, h3, h4, h5, h6, b, h7, h8⟩ := h
  exact ⟨h1, h2, h3, va_K.moved (u := U) (U := U.calling g mk a) (Vm.Alike.refl U.vm) h4, h5, gN.same (s := U) (U := U.calling g mk a) rfl h6, b, va_Z.moved (u := U) (U := U.calling g mk a) (Vm.Alike.refl U.vm) h7, va_T.moved (u := U) (U := U.calling g mk a) (Vm.Alike.refl U.vm) h8⟩
theorem gMet {l : Launch} {y : MethodName} {cc : ByteArray} {maxL : Nat} {ret : Option FieldType} {rm : Room} {D : va_G} {cy : Nat → ClassId} {ad : Nat → Nat} {n : Nat} {S : Sg} {sz mc ms : Nat} {av : List Value} {lv : List (Nat × Value)} {V : Option Value} {S' : Sg} (hy : plainName y.cls = true) (hle : (lg_sl av).length ≤ maxL) (hlv : lv_args 0 av = lv)
    (body : ∀ (p : Program) (e : Env) (s : State) (m : MethodId) (args : Array Value) (below : List Frame) (meth : Method) (c : Code) (A : Nat → Prop), A = va_A (wW cy ad n S) sz → meth.sig.returnType = ret → gC p s m args meth c cc maxL y.cls D cy ad n A → gW p l e rm s m args below meth c D cy ad n A maxL 0 0 (MQ below (gQ D cy ad n A V S') args s mc ms A) S 0 lv []) :
    Met l y (.code y cc maxL ret :: wsAll) rm (gPc D cy ad n S sz av) (gQ D cy ad n (va_A (wW cy ad n S) sz) V S') mc ms (va_A (wW cy ad n S) sz) := by
  refine Met.ofW (cc := cc) (maxL := maxL) (ret := ret) hy rfl ?_
  intro p e s m args below meth c s₁ B hml hv
  obtain ⟨rfl, hsz, hP, hK, hD0, hN, hT⟩ := hv
  have hts := atoms_spec (ws := .code y cc maxL ret :: wsAll) B.pre
  subst hsz
  have hl := lv_entry av (n := maxL) hle
  rw [lg_entry_eq]
  rw [hlv] at hl
  refine body p e s m _ below meth c _ rfl B.returns ⟨B.exec, B.bytes, hml, findClass_of_methodNamed B.named, fun w h => hts w (List.mem_cons_of_mem _ h), hK, ?_, fun q h => Or.inr h, hN, hT, B.notSynchronized⟩ s.heap [] _ hP va_S.rf hl
  intro S2
  exact wD hD0 (fun i hi => Or.inl ⟨i, _, wW_get (K := kd i) ⟨hi, rfl⟩⟩) S2

section GROWS
variable {p : Program} {l : Launch} {e : Env} {R : Room} {s : State} {m : MethodId} {args : Array Value} {below : List Frame} {meth : Method} {c : Code} {cc : ByteArray} {nL : Nat} {own : String} {D : va_G} {cy : Nat → ClassId} {ad : Nat → Nat} {n : Nat} {A : Nat → Prop} {mc ms : Nat} {Q : State → Prop} {S : Sg} {pc : Nat} {lv : List (Nat × Value)} {st : List Value} {ζ : Type} {z : ζ}
theorem g_iconst (C : gC p s m args meth c cc nL own D cy ad n A) (nx : Nat) {k : Int} (v : Int32) (hv : Int32.ofInt k = v) (hd : decode cc pc = .ok (.iconst k, 1)) (hn : pc + 1 = nx) (kk : gW p l e R s m args below meth c D cy ad n A nL mc ms Q S nx lv (.int v :: st)) : gW p l e R s m args below meth c D cy ad n A nL mc ms Q S pc lv st := by
  intro H locs ls hP hS hl
  subst hn
  exact lv_iconst C.1 C.2.1 hd hv (kk H locs ls hP hS hl)
theorem g_bipush (C : gC p s m args meth c cc nL own D cy ad n A) (nx : Nat) {k : Int} (v : Int32) (hv : (Int8.ofInt k).toInt32 = v) (hd : decode cc pc = .ok (.bipush k, 2)) (hn : pc + 2 = nx) (kk : gW p l e R s m args below meth c D cy ad n A nL mc ms Q S nx lv (.int v :: st)) : gW p l e R s m args below meth c D cy ad n A nL mc ms Q S pc lv st := by
  intro H locs ls hP hS hl
  subst hn
  exact lv_bipush C.1 C.2.1 hd hv (kk H locs ls hP hS hl)
theorem g_sipush (C : gC p s m args meth c cc nL own D cy ad n A) (nx : Nat) {k : Int} (v : Int32) (hv : (Int16.ofInt k).toInt32 = v) (hd : decode cc pc = .ok (.sipush k, 3)) (hn : pc + 3 = nx) (kk : gW p l e R s m args below meth c D cy ad n A nL mc ms Q S nx lv (.int v :: st)) : gW p l e R s m args below meth c D cy ad n A nL mc ms Q S pc lv st := by
  intro H locs ls hP hS hl
  subst hn
  exact lv_sipush C.1 C.2.1 hd hv (kk H locs ls hP hS hl)
theorem g_lconst (C : gC p s m args meth c cc nL own D cy ad n A) (nx : Nat) {k : Fin 2} (v : Int64) (hv : Int64.ofNat (k : Nat) = v) (hd : decode cc pc = .ok (.lconst k, 1)) (hn : pc + 1 = nx) (kk : gW p l e R s m args below meth c D cy ad n A nL mc ms Q S nx lv (.long v :: st)) : gW p l e R s m args below meth c D cy ad n A nL mc ms Q S pc lv st := by
  intro H locs ls hP hS hl
  subst hn
  exact lv_lconst C.1 C.2.1 hd hv (kk H locs ls hP hS hl)
theorem g_null (C : gC p s m args meth c cc nL own D cy ad n A) (nx : Nat) (hd : decode cc pc = .ok (.aconst_null, 1)) (hn : pc + 1 = nx) (kk : gW p l e R s m args below meth c D cy ad n A nL mc ms Q S nx lv (.null :: st)) : gW p l e R s m args below meth c D cy ad n A nL mc ms Q S pc lv st := by
  intro H locs ls hP hS hl
  subst hn
  exact lv_null C.1 C.2.1 hd (kk H locs ls hP hS hl)
theorem g_ldc (C : gC p s m args meth c cc nL own D cy ad n A) (nx : Nat) {ix : Nat} {v : Int32} (hw : Cond.constant own ix v ∈ wsAll) (hd : decode cc pc = .ok (.ldc ix, 2)) (hn : pc + 2 = nx) (kk : gW p l e R s m args below meth c D cy ad n A nL mc ms Q S nx lv (.int v :: st)) : gW p l e R s m args below meth c D cy ad n A nL mc ms Q S pc lv st := by
  intro H locs ls hP hS hl
  subst hn
  exact lv_ldc C.1 C.2.1 C.2.2.2.1 (C.2.2.2.2.1 _ hw) hd (kk H locs ls hP hS hl)
theorem g_ldc2 (C : gC p s m args meth c cc nL own D cy ad n A) (nx : Nat) {ix : Nat} {v : Int64} (hw : Cond.constantLong own ix v ∈ wsAll) (hd : decode cc pc = .ok (.ldc2_w ix, 3)) (hn : pc + 3 = nx) (kk : gW p l e R s m args below meth c D cy ad n A nL mc ms Q S nx lv (.long v :: st)) : gW p l e R s m args below meth c D cy ad n A nL mc ms Q S pc lv st := by
  intro H locs ls hP hS hl
  subst hn
  exact lv_ldc2 C.1 C.2.1 C.2.2.2.1 (C.2.2.2.2.1 _ hw) hd (kk H locs ls hP hS hl)
theorem g_iload_n (C : gC p s m args meth c cc nL own D cy ad n A) (nx : Nat) (q : Nat) {k : Fin 4} {x : Int32} (hq : lv[q]? = some ((k : Nat), .int x)) (hd : decode cc pc = .ok (.iload_n k, 1)) (hn : pc + 1 = nx) (kk : gW p l e R s m args below meth c D cy ad n A nL mc ms Q S nx lv (.int x :: st)) : gW p l e R s m args below meth c D cy ad n A nL mc ms Q S pc lv st := by
  intro H locs ls hP hS hl
  subst hn
  exact lv_iload_n C.1 C.2.1 hd rfl (lv_at hl q hq) (kk H locs ls hP hS hl)
theorem g_iload (C : gC p s m args meth c cc nL own D cy ad n A) (nx : Nat) (q : Nat) {k : Nat} {x : Int32} (hq : lv[q]? = some (k, .int x)) (hd : decode cc pc = .ok (.iload k, 2)) (hn : pc + 2 = nx) (kk : gW p l e R s m args below meth c D cy ad n A nL mc ms Q S nx lv (.int x :: st)) : gW p l e R s m args below meth c D cy ad n A nL mc ms Q S pc lv st := by
  intro H locs ls hP hS hl
  subst hn
  exact lv_iload C.1 C.2.1 hd (lv_at hl q hq) (kk H locs ls hP hS hl)
theorem g_lload_n (C : gC p s m args meth c cc nL own D cy ad n A) (nx : Nat) (q : Nat) {k : Fin 4} {x : Int64} (hq : lv[q]? = some ((k : Nat), .long x)) (hd : decode cc pc = .ok (.lload_n k, 1)) (hn : pc + 1 = nx) (kk : gW p l e R s m args below meth c D cy ad n A nL mc ms Q S nx lv (.long x :: st)) : gW p l e R s m args below meth c D cy ad n A nL mc ms Q S pc lv st := by
  intro H locs ls hP hS hl
  subst hn
  exact lv_lload_n C.1 C.2.1 hd rfl (lv_at hl q hq) (kk H locs ls hP hS hl)
theorem g_lload (C : gC p s m args meth c cc nL own D cy ad n A) (nx : Nat) (q : Nat) {k : Nat} {x : Int64} (hq : lv[q]? = some (k, .long x)) (hd : decode cc pc = .ok (.lload k, 2)) (hn : pc + 2 = nx) (kk : gW p l e R s m args below meth c D cy ad n A nL mc ms Q S nx lv (.long x :: st)) : gW p l e R s m args below meth c D cy ad n A nL mc ms Q S pc lv st := by
  intro H locs ls hP hS hl
  subst hn
  exact lv_lload C.1 C.2.1 hd (lv_at hl q hq) (kk H locs ls hP hS hl)
theorem g_aload_n (C : gC p s m args meth c cc nL own D cy ad n A) (nx : Nat) (q : Nat) {k : Fin 4} {x : Nat} (hq : lv[q]? = some ((k : Nat), .ref x)) (hd : decode cc pc = .ok (.aload_n k, 1)) (hn : pc + 1 = nx) (kk : gW p l e R s m args below meth c D cy ad n A nL mc ms Q S nx lv (.ref x :: st)) : gW p l e R s m args below meth c D cy ad n A nL mc ms Q S pc lv st := by
  intro H locs ls hP hS hl
  subst hn
  exact lv_aload_n C.1 C.2.1 hd rfl (lv_at hl q hq) (kk H locs ls hP hS hl)
theorem g_aload (C : gC p s m args meth c cc nL own D cy ad n A) (nx : Nat) (q : Nat) {k : Nat} {x : Nat} (hq : lv[q]? = some (k, .ref x)) (hd : decode cc pc = .ok (.aload k, 2)) (hn : pc + 2 = nx) (kk : gW p l e R s m args below meth c D cy ad n A nL mc ms Q S nx lv (.ref x :: st)) : gW p l e R s m args below meth c D cy ad n A nL mc ms Q S pc lv st := by
  intro H locs ls hP hS hl
  subst hn
  exact lv_aload C.1 C.2.1 hd (lv_at hl q hq) (kk H locs ls hP hS hl)
theorem g_aloadN_n (C : gC p s m args meth c cc nL own D cy ad n A) (nx : Nat) (q : Nat) {k : Fin 4} {r : Option Nat} (hq : lv[q]? = some ((k : Nat), rv ad r)) (hd : decode cc pc = .ok (.aload_n k, 1)) (hn : pc + 1 = nx) (kk : gW p l e R s m args below meth c D cy ad n A nL mc ms Q S nx lv (rv ad r :: st)) : gW p l e R s m args below meth c D cy ad n A nL mc ms Q S pc lv st := by
  intro H locs ls hP hS hl
  subst hn
  exact by
    cases r with
    | none => exact lv_aload_nN C.1 C.2.1 hd rfl (lv_at hl q hq) (kk H locs ls hP hS hl)
    | some i => exact lv_aload_n C.1 C.2.1 hd rfl (lv_at hl q hq) (kk H locs ls hP hS hl)
theorem g_aloadN (C : gC p s m args meth c cc nL own D cy ad n A) (nx : Nat) (q : Nat) {k : Nat} {r : Option Nat} (hq : lv[q]? = some (k, rv ad r)) (hd : decode cc pc = .ok (.aload k, 2)) (hn : pc + 2 = nx) (kk : gW p l e R s m args below meth c D cy ad n A nL mc ms Q S nx lv (rv ad r :: st)) : gW p l e R s m args below meth c D cy ad n A nL mc ms Q S pc lv st := by
  intro H locs ls hP hS hl
  subst hn
  exact by
    cases r with
    | none => exact lv_aloadN C.1 C.2.1 hd (lv_at hl q hq) (kk H locs ls hP hS hl)
    | some i => exact lv_aload C.1 C.2.1 hd (lv_at hl q hq) (kk H locs ls hP hS hl)
theorem g_iadd (C : gC p s m args meth c cc nL own D cy ad n A) (nx : Nat) {x y : Int32} (hd : decode cc pc = .ok (.iadd, 1)) (hn : pc + 1 = nx) (kk : gW p l e R s m args below meth c D cy ad n A nL mc ms Q S nx lv (.int (x + y) :: st)) : gW p l e R s m args below meth c D cy ad n A nL mc ms Q S pc lv (.int y :: .int x :: st) := by
  intro H locs ls hP hS hl
  subst hn
  exact lv_iadd C.1 C.2.1 hd (kk H locs ls hP hS hl)
theorem g_isub (C : gC p s m args meth c cc nL own D cy ad n A) (nx : Nat) {x y : Int32} (hd : decode cc pc = .ok (.isub, 1)) (hn : pc + 1 = nx) (kk : gW p l e R s m args below meth c D cy ad n A nL mc ms Q S nx lv (.int (x - y) :: st)) : gW p l e R s m args below meth c D cy ad n A nL mc ms Q S pc lv (.int y :: .int x :: st) := by
  intro H locs ls hP hS hl
  subst hn
  exact lv_isub C.1 C.2.1 hd (kk H locs ls hP hS hl)
theorem g_imul (C : gC p s m args meth c cc nL own D cy ad n A) (nx : Nat) {x y : Int32} (hd : decode cc pc = .ok (.imul, 1)) (hn : pc + 1 = nx) (kk : gW p l e R s m args below meth c D cy ad n A nL mc ms Q S nx lv (.int (x * y) :: st)) : gW p l e R s m args below meth c D cy ad n A nL mc ms Q S pc lv (.int y :: .int x :: st) := by
  intro H locs ls hP hS hl
  subst hn
  exact lv_imul C.1 C.2.1 hd (kk H locs ls hP hS hl)
theorem g_iand (C : gC p s m args meth c cc nL own D cy ad n A) (nx : Nat) {x y : Int32} (hd : decode cc pc = .ok (.iand, 1)) (hn : pc + 1 = nx) (kk : gW p l e R s m args below meth c D cy ad n A nL mc ms Q S nx lv (.int (x &&& y) :: st)) : gW p l e R s m args below meth c D cy ad n A nL mc ms Q S pc lv (.int y :: .int x :: st) := by
  intro H locs ls hP hS hl
  subst hn
  exact lv_iand C.1 C.2.1 hd (kk H locs ls hP hS hl)
theorem g_ior (C : gC p s m args meth c cc nL own D cy ad n A) (nx : Nat) {x y : Int32} (hd : decode cc pc = .ok (.ior, 1)) (hn : pc + 1 = nx) (kk : gW p l e R s m args below meth c D cy ad n A nL mc ms Q S nx lv (.int (x ||| y) :: st)) : gW p l e R s m args below meth c D cy ad n A nL mc ms Q S pc lv (.int y :: .int x :: st) := by
  intro H locs ls hP hS hl
  subst hn
  exact lv_ior C.1 C.2.1 hd (kk H locs ls hP hS hl)
theorem g_ixor (C : gC p s m args meth c cc nL own D cy ad n A) (nx : Nat) {x y : Int32} (hd : decode cc pc = .ok (.ixor, 1)) (hn : pc + 1 = nx) (kk : gW p l e R s m args below meth c D cy ad n A nL mc ms Q S nx lv (.int (x ^^^ y) :: st)) : gW p l e R s m args below meth c D cy ad n A nL mc ms Q S pc lv (.int y :: .int x :: st) := by
  intro H locs ls hP hS hl
  subst hn
  exact lv_ixor C.1 C.2.1 hd (kk H locs ls hP hS hl)
theorem g_ishl (C : gC p s m args meth c cc nL own D cy ad n A) (nx : Nat) {x y : Int32} (hd : decode cc pc = .ok (.ishl, 1)) (hn : pc + 1 = nx) (kk : gW p l e R s m args below meth c D cy ad n A nL mc ms Q S nx lv (.int (x <<< (y &&& 31)) :: st)) : gW p l e R s m args below meth c D cy ad n A nL mc ms Q S pc lv (.int y :: .int x :: st) := by
  intro H locs ls hP hS hl
  subst hn
  exact lv_ishl C.1 C.2.1 hd (kk H locs ls hP hS hl)
theorem g_ishr (C : gC p s m args meth c cc nL own D cy ad n A) (nx : Nat) {x y : Int32} (hd : decode cc pc = .ok (.ishr, 1)) (hn : pc + 1 = nx) (kk : gW p l e R s m args below meth c D cy ad n A nL mc ms Q S nx lv (.int (x >>> (y &&& 31)) :: st)) : gW p l e R s m args below meth c D cy ad n A nL mc ms Q S pc lv (.int y :: .int x :: st) := by
  intro H locs ls hP hS hl
  subst hn
  exact lv_ishr C.1 C.2.1 hd (kk H locs ls hP hS hl)
theorem g_ladd (C : gC p s m args meth c cc nL own D cy ad n A) (nx : Nat) {x y : Int64} (hd : decode cc pc = .ok (.ladd, 1)) (hn : pc + 1 = nx) (kk : gW p l e R s m args below meth c D cy ad n A nL mc ms Q S nx lv (.long (x + y) :: st)) : gW p l e R s m args below meth c D cy ad n A nL mc ms Q S pc lv (.long y :: .long x :: st) := by
  intro H locs ls hP hS hl
  subst hn
  exact lv_ladd C.1 C.2.1 hd (kk H locs ls hP hS hl)
theorem g_lsub (C : gC p s m args meth c cc nL own D cy ad n A) (nx : Nat) {x y : Int64} (hd : decode cc pc = .ok (.lsub, 1)) (hn : pc + 1 = nx) (kk : gW p l e R s m args below meth c D cy ad n A nL mc ms Q S nx lv (.long (x - y) :: st)) : gW p l e R s m args below meth c D cy ad n A nL mc ms Q S pc lv (.long y :: .long x :: st) := by
  intro H locs ls hP hS hl
  subst hn
  exact lv_lsub C.1 C.2.1 hd (kk H locs ls hP hS hl)
theorem g_land (C : gC p s m args meth c cc nL own D cy ad n A) (nx : Nat) {x y : Int64} (hd : decode cc pc = .ok (.land, 1)) (hn : pc + 1 = nx) (kk : gW p l e R s m args below meth c D cy ad n A nL mc ms Q S nx lv (.long (x &&& y) :: st)) : gW p l e R s m args below meth c D cy ad n A nL mc ms Q S pc lv (.long y :: .long x :: st) := by
  intro H locs ls hP hS hl
  subst hn
  exact lv_land C.1 C.2.1 hd (kk H locs ls hP hS hl)
theorem g_lor (C : gC p s m args meth c cc nL own D cy ad n A) (nx : Nat) {x y : Int64} (hd : decode cc pc = .ok (.lor, 1)) (hn : pc + 1 = nx) (kk : gW p l e R s m args below meth c D cy ad n A nL mc ms Q S nx lv (.long (x ||| y) :: st)) : gW p l e R s m args below meth c D cy ad n A nL mc ms Q S pc lv (.long y :: .long x :: st) := by
  intro H locs ls hP hS hl
  subst hn
  exact lv_lor C.1 C.2.1 hd (kk H locs ls hP hS hl)
theorem g_lxor (C : gC p s m args meth c cc nL own D cy ad n A) (nx : Nat) {x y : Int64} (hd : decode cc pc = .ok (.lxor, 1)) (hn : pc + 1 = nx) (kk : gW p l e R s m args below meth c D cy ad n A nL mc ms Q S nx lv (.long (x ^^^ y) :: st)) : gW p l e R s m args below meth c D cy ad n A nL mc ms Q S pc lv (.long y :: .long x :: st) := by
  intro H locs ls hP hS hl
  subst hn
  exact lv_lxor C.1 C.2.1 hd (kk H locs ls hP hS hl)
theorem g_iushr (C : gC p s m args meth c cc nL own D cy ad n A) (nx : Nat) {x y : Int32} (hd : decode cc pc = .ok (.iushr, 1)) (hn : pc + 1 = nx) (kk : gW p l e R s m args below meth c D cy ad n A nL mc ms Q S nx lv (.int ((x.toUInt32 >>> (y.toUInt32 &&& Int32.toUInt32 31)).toInt32) :: st)) : gW p l e R s m args below meth c D cy ad n A nL mc ms Q S pc lv (.int y :: .int x :: st) := by
  intro H locs ls hP hS hl
  subst hn
  exact lv_iushr C.1 C.2.1 hd rfl (kk H locs ls hP hS hl)
theorem g_lushr (C : gC p s m args meth c cc nL own D cy ad n A) (nx : Nat) {x : Int64} {y : Int32} (hd : decode cc pc = .ok (.lushr, 1)) (hn : pc + 1 = nx) (kk : gW p l e R s m args below meth c D cy ad n A nL mc ms Q S nx lv (.long ((x.toUInt64 >>> (y.toInt64.toUInt64 &&& Int64.toUInt64 63)).toInt64) :: st)) : gW p l e R s m args below meth c D cy ad n A nL mc ms Q S pc lv (.int y :: .long x :: st) := by
  intro H locs ls hP hS hl
  subst hn
  exact lv_lushr C.1 C.2.1 hd rfl (kk H locs ls hP hS hl)
theorem g_lshl (C : gC p s m args meth c cc nL own D cy ad n A) (nx : Nat) {x : Int64} {y : Int32} (hd : decode cc pc = .ok (.lshl, 1)) (hn : pc + 1 = nx) (kk : gW p l e R s m args below meth c D cy ad n A nL mc ms Q S nx lv (.long (x <<< (y.toInt64 &&& 63)) :: st)) : gW p l e R s m args below meth c D cy ad n A nL mc ms Q S pc lv (.int y :: .long x :: st) := by
  intro H locs ls hP hS hl
  subst hn
  exact lv_lshl C.1 C.2.1 hd rfl (kk H locs ls hP hS hl)
theorem g_i2l (C : gC p s m args meth c cc nL own D cy ad n A) (nx : Nat) {x : Int32} (hd : decode cc pc = .ok (.i2l, 1)) (hn : pc + 1 = nx) (kk : gW p l e R s m args below meth c D cy ad n A nL mc ms Q S nx lv (.long x.toInt64 :: st)) : gW p l e R s m args below meth c D cy ad n A nL mc ms Q S pc lv (.int x :: st) := by
  intro H locs ls hP hS hl
  subst hn
  exact lv_i2l C.1 C.2.1 hd rfl (kk H locs ls hP hS hl)
theorem g_i2b (C : gC p s m args meth c cc nL own D cy ad n A) (nx : Nat) {x : Int32} (hd : decode cc pc = .ok (.i2b, 1)) (hn : pc + 1 = nx) (kk : gW p l e R s m args below meth c D cy ad n A nL mc ms Q S nx lv (.int x.toInt8.toInt32 :: st)) : gW p l e R s m args below meth c D cy ad n A nL mc ms Q S pc lv (.int x :: st) := by
  intro H locs ls hP hS hl
  subst hn
  exact lv_i2b C.1 C.2.1 hd rfl (kk H locs ls hP hS hl)
theorem g_lcmp (C : gC p s m args meth c cc nL own D cy ad n A) (nx : Nat) {x y : Int64} (hd : decode cc pc = .ok (.lcmp, 1)) (hn : pc + 1 = nx) (kk : gW p l e R s m args below meth c D cy ad n A nL mc ms Q S nx lv (.int (lg_cmp x y) :: st)) : gW p l e R s m args below meth c D cy ad n A nL mc ms Q S pc lv (.long y :: .long x :: st) := by
  intro H locs ls hP hS hl
  subst hn
  exact W.lcmp C.1 C.2.1 hd (kk H locs ls hP hS hl)
theorem g_pop (C : gC p s m args meth c cc nL own D cy ad n A) (nx : Nat) {x : Value} (hc : x.category = 1) (hd : decode cc pc = .ok (.pop, 1)) (hn : pc + 1 = nx) (kk : gW p l e R s m args below meth c D cy ad n A nL mc ms Q S nx lv st) : gW p l e R s m args below meth c D cy ad n A nL mc ms Q S pc lv (x :: st) := by
  intro H locs ls hP hS hl
  subst hn
  exact lv_pop C.1 C.2.1 hd hc (kk H locs ls hP hS hl)
theorem g_dup (C : gC p s m args meth c cc nL own D cy ad n A) (nx : Nat) {x : Value} (hc : x.category = 1) (hd : decode cc pc = .ok (.dup, 1)) (hn : pc + 1 = nx) (kk : gW p l e R s m args below meth c D cy ad n A nL mc ms Q S nx lv (x :: x :: st)) : gW p l e R s m args below meth c D cy ad n A nL mc ms Q S pc lv (x :: st) := by
  intro H locs ls hP hS hl
  subst hn
  exact lv_dup C.1 C.2.1 hd hc (kk H locs ls hP hS hl)
theorem g_dup2 (C : gC p s m args meth c cc nL own D cy ad n A) (nx : Nat) {x y : Value} (hc : x.category = 1) (hc2 : y.category = 1) (hd : decode cc pc = .ok (.dup2, 1)) (hn : pc + 1 = nx) (kk : gW p l e R s m args below meth c D cy ad n A nL mc ms Q S nx lv (x :: y :: x :: y :: st)) : gW p l e R s m args below meth c D cy ad n A nL mc ms Q S pc lv (x :: y :: st) := by
  intro H locs ls hP hS hl
  subst hn
  exact lv_dup2_11 C.1 C.2.1 hd hc hc2 (kk H locs ls hP hS hl)
theorem g_idiv (C : gC p s m args meth c cc nL own D cy ad n A) (nx : Nat) {x y : Int32} (hd : decode cc pc = .ok (.idiv, 1)) (hn : pc + 1 = nx) {K : Option ζ} (hz : nz y K = some z) (kk : K = some z → gW p l e R s m args below meth c D cy ad n A nL mc ms Q S nx lv (.int (x / y) :: st)) : gW p l e R s m args below meth c D cy ad n A nL mc ms Q S pc lv (.int y :: .int x :: st) := by
  intro H locs ls hP hS hl
  subst hn
  obtain ⟨h1, h2⟩ := nz_s hz
  exact lv_idiv C.1 C.2.1 hd h1 (kk h2 H locs ls hP hS hl)
theorem g_irem (C : gC p s m args meth c cc nL own D cy ad n A) (nx : Nat) {x y : Int32} (hd : decode cc pc = .ok (.irem, 1)) (hn : pc + 1 = nx) {K : Option ζ} (hz : nz y K = some z) (kk : K = some z → gW p l e R s m args below meth c D cy ad n A nL mc ms Q S nx lv (.int (x - x / y * y) :: st)) : gW p l e R s m args below meth c D cy ad n A nL mc ms Q S pc lv (.int y :: .int x :: st) := by
  intro H locs ls hP hS hl
  subst hn
  obtain ⟨h1, h2⟩ := nz_s hz
  exact lv_irem C.1 C.2.1 hd h1 (kk h2 H locs ls hP hS hl)
theorem g_goto (C : gC p s m args meth c cc nL own D cy ad n A) (tgt : Nat) {off : Int} (hd : decode cc pc = .ok (.goto off, 3)) (ht : (pc : Int) + off = (tgt : Int)) (kk : gW p l e R s m args below meth c D cy ad n A nL mc ms Q S tgt lv st) : gW p l e R s m args below meth c D cy ad n A nL mc ms Q S pc lv st := fun H locs ls hP hS hl => lv_goto C.1 C.2.1 hd ht (kk H locs ls hP hS hl)
theorem g_if_eq (C : gC p s m args meth c cc nL own D cy ad n A) (tgt nx : Nat) {x : Int32} {off : Int} (hd : decode cc pc = .ok (.ifCond .eq off, 3)) (ht : (pc : Int) + off = (tgt : Int)) (hn : pc + 3 = nx) {K1 K2 : Option ζ} (hz : (if x = 0 then K1 else K2) = some z) (kt : K1 = some z → gW p l e R s m args below meth c D cy ad n A nL mc ms Q S tgt lv st) (kf : K2 = some z → gW p l e R s m args below meth c D cy ad n A nL mc ms Q S nx lv st) : gW p l e R s m args below meth c D cy ad n A nL mc ms Q S pc lv (.int x :: st) := by
  intro H locs ls hP hS hl
  subst hn
  exact lv_if_eq C.1 C.2.1 hd ht (fun h => kt (by rw [if_pos h] at hz; exact hz) H locs ls hP hS hl) (fun h => kf (by rw [if_neg h] at hz; exact hz) H locs ls hP hS hl)
theorem g_if_ne (C : gC p s m args meth c cc nL own D cy ad n A) (tgt nx : Nat) {x : Int32} {off : Int} (hd : decode cc pc = .ok (.ifCond .ne off, 3)) (ht : (pc : Int) + off = (tgt : Int)) (hn : pc + 3 = nx) {K1 K2 : Option ζ} (hz : (if x = 0 then K1 else K2) = some z) (kt : K2 = some z → gW p l e R s m args below meth c D cy ad n A nL mc ms Q S tgt lv st) (kf : K1 = some z → gW p l e R s m args below meth c D cy ad n A nL mc ms Q S nx lv st) : gW p l e R s m args below meth c D cy ad n A nL mc ms Q S pc lv (.int x :: st) := by
  intro H locs ls hP hS hl
  subst hn
  exact lv_if_ne C.1 C.2.1 hd ht (fun h => kt (by rw [if_neg h] at hz; exact hz) H locs ls hP hS hl) (fun h => kf (by rw [if_pos h] at hz; exact hz) H locs ls hP hS hl)
theorem g_if_lt (C : gC p s m args meth c cc nL own D cy ad n A) (tgt nx : Nat) {x : Int32} {off : Int} (hd : decode cc pc = .ok (.ifCond .lt off, 3)) (ht : (pc : Int) + off = (tgt : Int)) (hn : pc + 3 = nx) {K1 K2 : Option ζ} (hz : (if x < 0 then K1 else K2) = some z) (kt : K1 = some z → gW p l e R s m args below meth c D cy ad n A nL mc ms Q S tgt lv st) (kf : K2 = some z → gW p l e R s m args below meth c D cy ad n A nL mc ms Q S nx lv st) : gW p l e R s m args below meth c D cy ad n A nL mc ms Q S pc lv (.int x :: st) := by
  intro H locs ls hP hS hl
  subst hn
  exact lv_if_lt C.1 C.2.1 hd ht (fun h => kt (by rw [if_pos h] at hz; exact hz) H locs ls hP hS hl) (fun h => kf (by rw [if_neg h] at hz; exact hz) H locs ls hP hS hl)
theorem g_if_ge (C : gC p s m args meth c cc nL own D cy ad n A) (tgt nx : Nat) {x : Int32} {off : Int} (hd : decode cc pc = .ok (.ifCond .ge off, 3)) (ht : (pc : Int) + off = (tgt : Int)) (hn : pc + 3 = nx) {K1 K2 : Option ζ} (hz : (if 0 ≤ x then K1 else K2) = some z) (kt : K1 = some z → gW p l e R s m args below meth c D cy ad n A nL mc ms Q S tgt lv st) (kf : K2 = some z → gW p l e R s m args below meth c D cy ad n A nL mc ms Q S nx lv st) : gW p l e R s m args below meth c D cy ad n A nL mc ms Q S pc lv (.int x :: st) := by
  intro H locs ls hP hS hl
  subst hn
  exact lv_if_ge C.1 C.2.1 hd ht (fun h => kt (by rw [if_pos h] at hz; exact hz) H locs ls hP hS hl) (fun h => kf (by rw [if_neg h] at hz; exact hz) H locs ls hP hS hl)
theorem g_if_gt (C : gC p s m args meth c cc nL own D cy ad n A) (tgt nx : Nat) {x : Int32} {off : Int} (hd : decode cc pc = .ok (.ifCond .gt off, 3)) (ht : (pc : Int) + off = (tgt : Int)) (hn : pc + 3 = nx) {K1 K2 : Option ζ} (hz : (if 0 < x then K1 else K2) = some z) (kt : K1 = some z → gW p l e R s m args below meth c D cy ad n A nL mc ms Q S tgt lv st) (kf : K2 = some z → gW p l e R s m args below meth c D cy ad n A nL mc ms Q S nx lv st) : gW p l e R s m args below meth c D cy ad n A nL mc ms Q S pc lv (.int x :: st) := by
  intro H locs ls hP hS hl
  subst hn
  exact lv_if_gt C.1 C.2.1 hd ht (fun h => kt (by rw [if_pos h] at hz; exact hz) H locs ls hP hS hl) (fun h => kf (by rw [if_neg h] at hz; exact hz) H locs ls hP hS hl)
theorem g_if_le (C : gC p s m args meth c cc nL own D cy ad n A) (tgt nx : Nat) {x : Int32} {off : Int} (hd : decode cc pc = .ok (.ifCond .le off, 3)) (ht : (pc : Int) + off = (tgt : Int)) (hn : pc + 3 = nx) {K1 K2 : Option ζ} (hz : (if x ≤ 0 then K1 else K2) = some z) (kt : K1 = some z → gW p l e R s m args below meth c D cy ad n A nL mc ms Q S tgt lv st) (kf : K2 = some z → gW p l e R s m args below meth c D cy ad n A nL mc ms Q S nx lv st) : gW p l e R s m args below meth c D cy ad n A nL mc ms Q S pc lv (.int x :: st) := by
  intro H locs ls hP hS hl
  subst hn
  exact lv_if_le C.1 C.2.1 hd ht (fun h => kt (by rw [if_pos h] at hz; exact hz) H locs ls hP hS hl) (fun h => kf (by rw [if_neg h] at hz; exact hz) H locs ls hP hS hl)
theorem g_icmp_eq (C : gC p s m args meth c cc nL own D cy ad n A) (tgt nx : Nat) {x y : Int32} {off : Int} (hd : decode cc pc = .ok (.if_icmp .eq off, 3)) (ht : (pc : Int) + off = (tgt : Int)) (hn : pc + 3 = nx) {K1 K2 : Option ζ} (hz : (if x = y then K1 else K2) = some z) (kt : K1 = some z → gW p l e R s m args below meth c D cy ad n A nL mc ms Q S tgt lv st) (kf : K2 = some z → gW p l e R s m args below meth c D cy ad n A nL mc ms Q S nx lv st) : gW p l e R s m args below meth c D cy ad n A nL mc ms Q S pc lv (.int y :: .int x :: st) := by
  intro H locs ls hP hS hl
  subst hn
  exact lv_icmp_eq C.1 C.2.1 hd ht (fun h => kt (by rw [if_pos h] at hz; exact hz) H locs ls hP hS hl) (fun h => kf (by rw [if_neg h] at hz; exact hz) H locs ls hP hS hl)
theorem g_icmp_ne (C : gC p s m args meth c cc nL own D cy ad n A) (tgt nx : Nat) {x y : Int32} {off : Int} (hd : decode cc pc = .ok (.if_icmp .ne off, 3)) (ht : (pc : Int) + off = (tgt : Int)) (hn : pc + 3 = nx) {K1 K2 : Option ζ} (hz : (if x = y then K1 else K2) = some z) (kt : K2 = some z → gW p l e R s m args below meth c D cy ad n A nL mc ms Q S tgt lv st) (kf : K1 = some z → gW p l e R s m args below meth c D cy ad n A nL mc ms Q S nx lv st) : gW p l e R s m args below meth c D cy ad n A nL mc ms Q S pc lv (.int y :: .int x :: st) := by
  intro H locs ls hP hS hl
  subst hn
  exact lv_icmp_ne C.1 C.2.1 hd ht (fun h => kt (by rw [if_neg h] at hz; exact hz) H locs ls hP hS hl) (fun h => kf (by rw [if_pos h] at hz; exact hz) H locs ls hP hS hl)
theorem g_icmp_lt (C : gC p s m args meth c cc nL own D cy ad n A) (tgt nx : Nat) {x y : Int32} {off : Int} (hd : decode cc pc = .ok (.if_icmp .lt off, 3)) (ht : (pc : Int) + off = (tgt : Int)) (hn : pc + 3 = nx) {K1 K2 : Option ζ} (hz : (if x < y then K1 else K2) = some z) (kt : K1 = some z → gW p l e R s m args below meth c D cy ad n A nL mc ms Q S tgt lv st) (kf : K2 = some z → gW p l e R s m args below meth c D cy ad n A nL mc ms Q S nx lv st) : gW p l e R s m args below meth c D cy ad n A nL mc ms Q S pc lv (.int y :: .int x :: st) := by
  intro H locs ls hP hS hl
  subst hn
  exact lv_icmp_lt C.1 C.2.1 hd ht (fun h => kt (by rw [if_pos h] at hz; exact hz) H locs ls hP hS hl) (fun h => kf (by rw [if_neg h] at hz; exact hz) H locs ls hP hS hl)
theorem g_icmp_ge (C : gC p s m args meth c cc nL own D cy ad n A) (tgt nx : Nat) {x y : Int32} {off : Int} (hd : decode cc pc = .ok (.if_icmp .ge off, 3)) (ht : (pc : Int) + off = (tgt : Int)) (hn : pc + 3 = nx) {K1 K2 : Option ζ} (hz : (if y ≤ x then K1 else K2) = some z) (kt : K1 = some z → gW p l e R s m args below meth c D cy ad n A nL mc ms Q S tgt lv st) (kf : K2 = some z → gW p l e R s m args below meth c D cy ad n A nL mc ms Q S nx lv st) : gW p l e R s m args below meth c D cy ad n A nL mc ms Q S pc lv (.int y :: .int x :: st) := by
  intro H locs ls hP hS hl
  subst hn
  exact lv_icmp_ge C.1 C.2.1 hd ht (fun h => kt (by rw [if_pos h] at hz; exact hz) H locs ls hP hS hl) (fun h => kf (by rw [if_neg h] at hz; exact hz) H locs ls hP hS hl)
theorem g_icmp_gt (C : gC p s m args meth c cc nL own D cy ad n A) (tgt nx : Nat) {x y : Int32} {off : Int} (hd : decode cc pc = .ok (.if_icmp .gt off, 3)) (ht : (pc : Int) + off = (tgt : Int)) (hn : pc + 3 = nx) {K1 K2 : Option ζ} (hz : (if y < x then K1 else K2) = some z) (kt : K1 = some z → gW p l e R s m args below meth c D cy ad n A nL mc ms Q S tgt lv st) (kf : K2 = some z → gW p l e R s m args below meth c D cy ad n A nL mc ms Q S nx lv st) : gW p l e R s m args below meth c D cy ad n A nL mc ms Q S pc lv (.int y :: .int x :: st) := by
  intro H locs ls hP hS hl
  subst hn
  exact lv_icmp_gt C.1 C.2.1 hd ht (fun h => kt (by rw [if_pos h] at hz; exact hz) H locs ls hP hS hl) (fun h => kf (by rw [if_neg h] at hz; exact hz) H locs ls hP hS hl)
theorem g_icmp_le (C : gC p s m args meth c cc nL own D cy ad n A) (tgt nx : Nat) {x y : Int32} {off : Int} (hd : decode cc pc = .ok (.if_icmp .le off, 3)) (ht : (pc : Int) + off = (tgt : Int)) (hn : pc + 3 = nx) {K1 K2 : Option ζ} (hz : (if x ≤ y then K1 else K2) = some z) (kt : K1 = some z → gW p l e R s m args below meth c D cy ad n A nL mc ms Q S tgt lv st) (kf : K2 = some z → gW p l e R s m args below meth c D cy ad n A nL mc ms Q S nx lv st) : gW p l e R s m args below meth c D cy ad n A nL mc ms Q S pc lv (.int y :: .int x :: st) := by
  intro H locs ls hP hS hl
  subst hn
  exact lv_icmp_le C.1 C.2.1 hd ht (fun h => kt (by rw [if_pos h] at hz; exact hz) H locs ls hP hS hl) (fun h => kf (by rw [if_neg h] at hz; exact hz) H locs ls hP hS hl)
theorem g_ifnull (C : gC p s m args meth c cc nL own D cy ad n A) (tgt nx : Nat) {r : Option Nat} {off : Int} (hd : decode cc pc = .ok (.ifnull off, 3)) (ht : (pc : Int) + off = (tgt : Int)) (hn : pc + 3 = nx) {K1 : Option ζ} {K2 : Nat → Option ζ} (hz : nu n r K1 K2 = some z) (kt : r = none → K1 = some z → gW p l e R s m args below meth c D cy ad n A nL mc ms Q S tgt lv st) (kf : ∀ i, r = some i → okM n i = true → K2 i = some z → gW p l e R s m args below meth c D cy ad n A nL mc ms Q S nx lv st) : gW p l e R s m args below meth c D cy ad n A nL mc ms Q S pc lv (rv ad r :: st) := by
  intro H locs ls hP hS hl
  subst hn
  rcases nu_s hz with ⟨rfl, h⟩ | ⟨i, rfl, h1, h2⟩
  · exact lv_ifnullN C.1 C.2.1 hd ht (kt rfl h H locs ls hP hS hl)
  · exact lv_ifnull C.1 C.2.1 hd (kf i rfl h1 h2 H locs ls hP hS hl)
theorem g_ifnonnull (C : gC p s m args meth c cc nL own D cy ad n A) (tgt nx : Nat) {r : Option Nat} {off : Int} (hd : decode cc pc = .ok (.ifnonnull off, 3)) (ht : (pc : Int) + off = (tgt : Int)) (hn : pc + 3 = nx) {K1 : Option ζ} {K2 : Nat → Option ζ} (hz : nu n r K1 K2 = some z) (kt : ∀ i, r = some i → okM n i = true → K2 i = some z → gW p l e R s m args below meth c D cy ad n A nL mc ms Q S tgt lv st) (kf : r = none → K1 = some z → gW p l e R s m args below meth c D cy ad n A nL mc ms Q S nx lv st) : gW p l e R s m args below meth c D cy ad n A nL mc ms Q S pc lv (rv ad r :: st) := by
  intro H locs ls hP hS hl
  subst hn
  rcases nu_s hz with ⟨rfl, h⟩ | ⟨i, rfl, h1, h2⟩
  · exact lv_ifnonnullN C.1 C.2.1 hd (kf rfl h H locs ls hP hS hl)
  · exact lv_ifnonnull C.1 C.2.1 hd ht (kt i rfl h1 h2 H locs ls hP hS hl)
theorem g_istore_n (C : gC p s m args meth c cc nL own D cy ad n A) (nx : Nat) {k : Fin 4} {i : Nat} (ks : List Nat) {v : Int32} (lv' : Int32 → List (Nat × Value)) (hd : decode cc pc = .ok (.istore_n k, 1)) (hn : pc + 1 = nx) (hi : (k : Nat) = i) (hL : i < nL) (hl' : ∀ x, lv_pick ((i, Value.int x) :: lv.filter (fun q => !(q.1 == i) && !(q.1 + 1 == i && q.2.category == 2))) ks = lv' x) {K : Int32 → Option ζ} (hz : vl v K = some z) (kk : ∀ x, K x = some z → gW p l e R s m args below meth c D cy ad n A nL mc ms Q S nx (lv' x) st) : gW p l e R s m args below meth c D cy ad n A nL mc ms Q S pc lv (.int v :: st) := by
  intro H locs ls hP hS hl
  subst hn
  exact lv_istore_n C.1 C.2.1 hd hi hl hL rfl (fun ls' h' => kk v hz H locs ls' hP hS (lv_sub h' ks (hl' v)))
theorem g_istore (C : gC p s m args meth c cc nL own D cy ad n A) (nx : Nat) {i : Nat} (ks : List Nat) {v : Int32} (lv' : Int32 → List (Nat × Value)) (hd : decode cc pc = .ok (.istore i, 2)) (hn : pc + 2 = nx) (hL : i < nL) (hl' : ∀ x, lv_pick ((i, Value.int x) :: lv.filter (fun q => !(q.1 == i) && !(q.1 + 1 == i && q.2.category == 2))) ks = lv' x) {K : Int32 → Option ζ} (hz : vl v K = some z) (kk : ∀ x, K x = some z → gW p l e R s m args below meth c D cy ad n A nL mc ms Q S nx (lv' x) st) : gW p l e R s m args below meth c D cy ad n A nL mc ms Q S pc lv (.int v :: st) := by
  intro H locs ls hP hS hl
  subst hn
  exact lv_istore C.1 C.2.1 hd hl hL rfl (fun ls' h' => kk v hz H locs ls' hP hS (lv_sub h' ks (hl' v)))
theorem g_lstore_n (C : gC p s m args meth c cc nL own D cy ad n A) (nx : Nat) {k : Fin 4} {i : Nat} (ks : List Nat) {v : Int64} (lv' : Int64 → List (Nat × Value)) (hd : decode cc pc = .ok (.lstore_n k, 1)) (hn : pc + 1 = nx) (hi : (k : Nat) = i) (hL : i + 1 < nL) (hl' : ∀ x, lv_pick ((i, Value.long x) :: lv.filter (fun q => !(q.1 == i) && (!(q.1 == i + 1) && !(q.1 + 1 == i && q.2.category == 2)))) ks = lv' x) {K : Int64 → Option ζ} (hz : vl v K = some z) (kk : ∀ x, K x = some z → gW p l e R s m args below meth c D cy ad n A nL mc ms Q S nx (lv' x) st) : gW p l e R s m args below meth c D cy ad n A nL mc ms Q S pc lv (.long v :: st) := by
  intro H locs ls hP hS hl
  subst hn
  exact lv_lstore_n C.1 C.2.1 hd hi hl hL rfl (fun ls' h' => kk v hz H locs ls' hP hS (lv_sub h' ks (hl' v)))
theorem g_lstore (C : gC p s m args meth c cc nL own D cy ad n A) (nx : Nat) {i : Nat} (ks : List Nat) {v : Int64} (lv' : Int64 → List (Nat × Value)) (hd : decode cc pc = .ok (.lstore i, 2)) (hn : pc + 2 = nx) (hL : i + 1 < nL) (hl' : ∀ x, lv_pick ((i, Value.long x) :: lv.filter (fun q => !(q.1 == i) && (!(q.1 == i + 1) && !(q.1 + 1 == i && q.2.category == 2)))) ks = lv' x) {K : Int64 → Option ζ} (hz : vl v K = some z) (kk : ∀ x, K x = some z → gW p l e R s m args below meth c D cy ad n A nL mc ms Q S nx (lv' x) st) : gW p l e R s m args below meth c D cy ad n A nL mc ms Q S pc lv (.long v :: st) := by
  intro H locs ls hP hS hl
  subst hn
  exact lv_lstore C.1 C.2.1 hd hl hL rfl (fun ls' h' => kk v hz H locs ls' hP hS (lv_sub h' ks (hl' v)))
theorem g_astoreN_n (C : gC p s m args meth c cc nL own D cy ad n A) (nx : Nat) {k : Fin 4} {i : Nat} (ks : List Nat) {r : Option Nat} (lv' : List (Nat × Value)) (hd : decode cc pc = .ok (.astore_n k, 1)) (hn : pc + 1 = nx) (hi : (k : Nat) = i) (hL : i < nL) (hl' : lv_pick ((i, rv ad r) :: lv.filter (fun q => !(q.1 == i) && !(q.1 + 1 == i && q.2.category == 2))) ks = lv') (kk : gW p l e R s m args below meth c D cy ad n A nL mc ms Q S nx lv' st) : gW p l e R s m args below meth c D cy ad n A nL mc ms Q S pc lv (rv ad r :: st) := by
  intro H locs ls hP hS hl
  subst hn
  cases r with
  | none => exact lv_astore_nN C.1 C.2.1 hd hi hl hL rfl (fun ls' h' => kk H locs ls' hP hS (lv_sub h' ks hl'))
  | some j => exact lv_astore_n C.1 C.2.1 hd hi hl hL rfl (fun ls' h' => kk H locs ls' hP hS (lv_sub h' ks hl'))
theorem g_astoreN (C : gC p s m args meth c cc nL own D cy ad n A) (nx : Nat) {i : Nat} (ks : List Nat) {r : Option Nat} (lv' : List (Nat × Value)) (hd : decode cc pc = .ok (.astore i, 2)) (hn : pc + 2 = nx) (hL : i < nL) (hl' : lv_pick ((i, rv ad r) :: lv.filter (fun q => !(q.1 == i) && !(q.1 + 1 == i && q.2.category == 2))) ks = lv') (kk : gW p l e R s m args below meth c D cy ad n A nL mc ms Q S nx lv' st) : gW p l e R s m args below meth c D cy ad n A nL mc ms Q S pc lv (rv ad r :: st) := by
  intro H locs ls hP hS hl
  subst hn
  cases r with
  | none => exact lv_astoreN C.1 C.2.1 hd hl hL rfl (fun ls' h' => kk H locs ls' hP hS (lv_sub h' ks hl'))
  | some j => exact lv_astore C.1 C.2.1 hd hl hL rfl (fun ls' h' => kk H locs ls' hP hS (lv_sub h' ks hl'))
theorem g_iinc (C : gC p s m args meth c cc nL own D cy ad n A) (nx : Nat) {i : Nat} (q : Nat) (ks : List Nat) {k : Int} {x : Int32} (d : Int32) (hk : Int32.ofInt k = d) (lv' : Int32 → List (Nat × Value)) (hd : decode cc pc = .ok (.iinc i k, 3)) (hn : pc + 3 = nx) (hq : lv[q]? = some (i, .int x)) (hL : i < nL) (hl' : ∀ y, lv_pick ((i, Value.int y) :: lv.filter (fun q => !(q.1 == i) && !(q.1 + 1 == i && q.2.category == 2))) ks = lv' y) {K : Int32 → Option ζ} (hz : vl (x + d) K = some z) (kk : ∀ y, K y = some z → gW p l e R s m args below meth c D cy ad n A nL mc ms Q S nx (lv' y) st) : gW p l e R s m args below meth c D cy ad n A nL mc ms Q S pc lv st := by
  intro H locs ls hP hS hl
  subst hn
  subst hk
  exact lv_iinc C.1 C.2.1 hd hl hq rfl hL rfl (fun ls' h' => kk _ hz H locs ls' hP hS (lv_sub h' ks (hl' _)))
theorem g_lv (ks : List Nat) {lv' : List (Nat × Value)} (h : lv_pick lv ks = lv') (kk : gW p l e R s m args below meth c D cy ad n A nL mc ms Q S pc lv' st) : gW p l e R s m args below meth c D cy ad n A nL mc ms Q S pc lv st := fun H locs ls hP hS hl => kk H locs ls hP hS (lv_sub hl ks h)
theorem g_widen {mc' ms' : Nat} (h1 : mc ≤ mc') (h2 : ms ≤ ms') (kk : gW p l e R s m args below meth c D cy ad n A nL mc' ms' Q S pc lv st) : gW p l e R s m args below meth c D cy ad n A nL mc ms Q S pc lv st := fun H locs ls hP hS hl => W.widen h1 h2 (kk H locs ls hP hS hl)
theorem g_iald (C : gC p s m args meth c cc nL own D cy ad n A) (nx : Nat) {i N : Nat} (ha : has n i (12, N)) {j : Int32} (hd : decode cc pc = .ok (.iaload, 1)) (hn : pc + 1 = nx) {K : Option ζ} (hz : ck j N K = some z) (kk : K = some z → gW p l e R s m args below meth c D cy ad n A nL mc ms Q S nx lv (.int (S.1 i j.toNatClampNeg) :: st)) : gW p l e R s m args below meth c D cy ad n A nL mc ms Q S pc lv (.int j :: .ref (ad i) :: st) := by
  intro H locs ls hP hS hl
  subst hn
  obtain ⟨h1, h2⟩ := ck_s hz
  exact va_iald C.1 C.2.1 C.2.2.2.2.2.1 hP i 1 (wW_get ha) rfl h1 hd (kk h2 H locs ls hP hS hl)
theorem g_bald (C : gC p s m args meth c cc nL own D cy ad n A) (nx : Nat) {i N : Nat} (ha : has n i (11, N)) {j : Int32} (hd : decode cc pc = .ok (.baload, 1)) (hn : pc + 1 = nx) {K : Option ζ} (hz : ck j N K = some z) (kk : K = some z → gW p l e R s m args below meth c D cy ad n A nL mc ms Q S nx lv (.int (S.1 i j.toNatClampNeg) :: st)) : gW p l e R s m args below meth c D cy ad n A nL mc ms Q S pc lv (.int j :: .ref (ad i) :: st) := by
  intro H locs ls hP hS hl
  subst hn
  obtain ⟨h1, h2⟩ := ck_s hz
  exact va_bald C.1 C.2.1 C.2.2.2.2.2.1 hP i 0 (wW_get ha) rfl h1 hd (kk h2 H locs ls hP hS hl)
theorem g_zald (C : gC p s m args meth c cc nL own D cy ad n A) (nx : Nat) {i N : Nat} (ha : has n i (14, N)) {j : Int32} (hd : decode cc pc = .ok (.baload, 1)) (hn : pc + 1 = nx) {K : Option ζ} (hz : ck j N K = some z) (kk : K = some z → gW p l e R s m args below meth c D cy ad n A nL mc ms Q S nx lv (.int (S.1 i j.toNatClampNeg) :: st)) : gW p l e R s m args below meth c D cy ad n A nL mc ms Q S pc lv (.int j :: .ref (ad i) :: st) := by
  intro H locs ls hP hS hl
  subst hn
  obtain ⟨h1, h2⟩ := ck_s hz
  exact va_zald C.1 C.2.1 C.2.2.2.2.2.1 hP i 3 (wW_get ha) rfl h1 hd (kk h2 H locs ls hP hS hl)
theorem g_lald (C : gC p s m args meth c cc nL own D cy ad n A) (nx : Nat) {i N : Nat} (ha : has n i (13, N)) {j : Int32} (hd : decode cc pc = .ok (.laload, 1)) (hn : pc + 1 = nx) {K : Option ζ} (hz : ck j N K = some z) (kk : K = some z → gW p l e R s m args below meth c D cy ad n A nL mc ms Q S nx lv (.long (S.2.1 i j.toNatClampNeg) :: st)) : gW p l e R s m args below meth c D cy ad n A nL mc ms Q S pc lv (.int j :: .ref (ad i) :: st) := by
  intro H locs ls hP hS hl
  subst hn
  obtain ⟨h1, h2⟩ := ck_s hz
  exact va_lald C.1 C.2.1 C.2.2.2.2.2.1 hP i 2 (wW_get ha) rfl h1 hd (kk h2 H locs ls hP hS hl)
theorem g_iast (C : gC p s m args meth c cc nL own D cy ad n A) (nx : Nat) {i N : Nat} (ha : has n i (12, N)) {j x : Int32} (hd : decode cc pc = .ok (.iastore, 1)) (hn : pc + 1 = nx) {K : Sg → Option ζ} (hz : ck j N (vl (sI S i j.toNatClampNeg x) K) = some z) (kk : ∀ S', K S' = some z → gW p l e R s m args below meth c D cy ad n A nL mc ms Q S' nx lv st) : gW p l e R s m args below meth c D cy ad n A nL mc ms Q S pc lv (.int x :: .int j :: .ref (ad i) :: st) := by
  intro H locs ls hP hS hl
  subst hn
  obtain ⟨h1, h2⟩ := ck_s hz
  refine va_iast C.1 C.2.1 C.2.2.2.2.2.1 hP (C.2.2.2.2.2.2.1 S) hS i 1 (wW_get ha) rfl h1 hd (fun H1 locs1 hP1 _ hS1 => kk _ h2 H1 locs1 ls ?_ hS1 hl)
  rw [wW_set (S' := sI S i j.toNatClampNeg x) ha (by rw [sI_s]; rfl) (sI_n _ _ _ _)] at hP1
  exact hP1
theorem g_bast (C : gC p s m args meth c cc nL own D cy ad n A) (nx : Nat) {i N : Nat} (ha : has n i (11, N)) {j x : Int32} (hd : decode cc pc = .ok (.bastore, 1)) (hn : pc + 1 = nx) {K : Sg → Option ζ} (hz : ck j N (vl (sI S i j.toNatClampNeg (vp_nar .byte x)) K) = some z) (kk : ∀ S', K S' = some z → gW p l e R s m args below meth c D cy ad n A nL mc ms Q S' nx lv st) : gW p l e R s m args below meth c D cy ad n A nL mc ms Q S pc lv (.int x :: .int j :: .ref (ad i) :: st) := by
  intro H locs ls hP hS hl
  subst hn
  obtain ⟨h1, h2⟩ := ck_s hz
  refine va_bast C.1 C.2.1 C.2.2.2.2.2.1 hP (C.2.2.2.2.2.2.1 S) hS i 0 (wW_get ha) rfl h1 hd (fun H1 locs1 hP1 _ hS1 => kk _ h2 H1 locs1 ls ?_ hS1 hl)
  rw [wW_set (S' := sI S i j.toNatClampNeg (vp_nar .byte x)) ha (by rw [sI_s]; rfl) (sI_n _ _ _ _)] at hP1
  exact hP1
theorem g_zast (C : gC p s m args meth c cc nL own D cy ad n A) (nx : Nat) {i N : Nat} (ha : has n i (14, N)) {j x : Int32} (hd : decode cc pc = .ok (.bastore, 1)) (hn : pc + 1 = nx) {K : Sg → Option ζ} (hz : ck j N (vl (sI S i j.toNatClampNeg (vp_nar .boolean x)) K) = some z) (kk : ∀ S', K S' = some z → gW p l e R s m args below meth c D cy ad n A nL mc ms Q S' nx lv st) : gW p l e R s m args below meth c D cy ad n A nL mc ms Q S pc lv (.int x :: .int j :: .ref (ad i) :: st) := by
  intro H locs ls hP hS hl
  subst hn
  obtain ⟨h1, h2⟩ := ck_s hz
  refine va_zast C.1 C.2.1 C.2.2.2.2.2.1 hP (C.2.2.2.2.2.2.1 S) hS i 3 (wW_get ha) rfl h1 hd (fun H1 locs1 hP1 _ hS1 => kk _ h2 H1 locs1 ls ?_ hS1 hl)
  rw [wW_set (S' := sI S i j.toNatClampNeg (vp_nar .boolean x)) ha (by rw [sI_s]; rfl) (sI_n _ _ _ _)] at hP1
  exact hP1
theorem g_last (C : gC p s m args meth c cc nL own D cy ad n A) (nx : Nat) {i N : Nat} (ha : has n i (13, N)) {j : Int32} {x : Int64} (hd : decode cc pc = .ok (.lastore, 1)) (hn : pc + 1 = nx) {K : Sg → Option ζ} (hz : ck j N (vl (sJ S i j.toNatClampNeg x) K) = some z) (kk : ∀ S', K S' = some z → gW p l e R s m args below meth c D cy ad n A nL mc ms Q S' nx lv st) : gW p l e R s m args below meth c D cy ad n A nL mc ms Q S pc lv (.long x :: .int j :: .ref (ad i) :: st) := by
  intro H locs ls hP hS hl
  subst hn
  obtain ⟨h1, h2⟩ := ck_s hz
  refine va_last C.1 C.2.1 C.2.2.2.2.2.1 hP (C.2.2.2.2.2.2.1 S) hS i 2 (wW_get ha) rfl h1 hd (fun H1 locs1 hP1 _ hS1 => kk _ h2 H1 locs1 ls ?_ hS1 hl)
  rw [wW_set (S' := sJ S i j.toNatClampNeg x) ha (by rw [sJ_s]; rfl) (sJ_n _ _ _ _)] at hP1
  exact hP1
theorem g_aald (C : gC p s m args meth c cc nL own D cy ad n A) (nx : Nat) {i N : Nat} (ha : has n i (15, N)) {j : Int32} (hd : decode cc pc = .ok (.aaload, 1)) (hn : pc + 1 = nx) {K : Option ζ} (hz : ck j N K = some z) (kk : K = some z → gW p l e R s m args below meth c D cy ad n A nL mc ms Q S nx lv (rv ad (S.2.2 i j.toNatClampNeg) :: st)) : gW p l e R s m args below meth c D cy ad n A nL mc ms Q S pc lv (.int j :: .ref (ad i) :: st) := by
  intro H locs ls hP hS hl
  subst hn
  obtain ⟨h1, h2⟩ := ck_s hz
  refine va_aldq C.1 C.2.1 C.2.2.2.2.2.1 hP i 4 (wW_get ha) rfl h1 hd ?_
  rw [rv_rf]
  exact kk h2 H locs ls hP hS hl
theorem g_aast (C : gC p s m args meth c cc nL own D cy ad n A) (nx : Nat) {i N : Nat} (ha : has n i (15, N)) {j : Int32} {q : Nat} (hq : okM n q = true) (hd : decode cc pc = .ok (.aastore, 1)) (hn : pc + 1 = nx) {K : Sg → Option ζ} (hz : ck j N (vl (sP S i j.toNatClampNeg (some q)) K) = some z) (kk : ∀ S', K S' = some z → gW p l e R s m args below meth c D cy ad n A nL mc ms Q S' nx lv st) : gW p l e R s m args below meth c D cy ad n A nL mc ms Q S pc lv (.ref (ad q) :: .int j :: .ref (ad i) :: st) := by
  intro H locs ls hP hS hl
  subst hn
  obtain ⟨h1, h2⟩ := ck_s hz
  refine va_astq C.1 C.2.1 C.2.2.2.2.2.1 hP (C.2.2.2.2.2.2.1 S) hS i 4 q 4 (wW_get ha) rfl (wW_get (has_m0 hq)) rfl h1 hd (fun H1 locs1 hP1 _ hS1 => kk _ h2 H1 locs1 ls ?_ hS1 hl)
  rw [wW_set (S' := sP S i j.toNatClampNeg (some q)) ha (by rw [sP_s]; show Sum.inl _ = Sum.inl _; congr 8; funext b; by_cases hb : b = j.toNatClampNeg <;> simp [va_up, hb]) (sP_n _ _ _ _)] at hP1
  exact hP1
theorem g_alen (C : gC p s m args meth c cc nL own D cy ad n A) (nx : Nat) {i k N : Nat} (t0 : Nat) {x : vp_A} {cA : ClassId} {ty : FieldType} (ha : has n i (k, N)) (hx : cellOf cy ad i (k, N) (S.1 i) (S.2.1 i) (S.2.2 i) = .inl (cA, x)) (ht : (tysOf cy)[t0]? = some (cA, ty)) (v : Int32) (hv : Int32.ofNat x.1 = v) (hd : decode cc pc = .ok (.arraylength, 1)) (hn : pc + 1 = nx) (kk : gW p l e R s m args below meth c D cy ad n A nL mc ms Q S nx lv (.int v :: st)) : gW p l e R s m args below meth c D cy ad n A nL mc ms Q S pc lv (.ref (ad i) :: st) := by
  intro H locs ls hP hS hl
  subst hn
  exact va_alen C.1 C.2.1 C.2.2.2.2.2.1 hP i t0 ((wW_get ha).trans (by rw [hx])) ht hv hd (kk H locs ls hP hS hl)
theorem g_getF (C : gC p s m args meth c cc nL own D cy ad n A) (nx : Nat) {i ci k ix N : Nat} {ref Cn : String} {T : u_T} {v : Value} (ha : has n i (ci, 0)) (hci : cellOf cy ad i (ci, 0) (S.1 i) (S.2.1 i) (S.2.2 i) = .inr (ci, flds ad i ci (S.1 i) (S.2.1 i) (S.2.2 i))) (hcl : vwCl[ci]? = some (Cn, T, N)) (hk : k < N) (hin : ∀ w ∈ u_ws Cn T N, w ∈ wsAll) (hlk : Cond.fieldLink own ix ref (T k).2.1 (T k).2.2.1 ∈ wsAll) (href : ref = (T k).1) (hv : (flds ad i ci (S.1 i) (S.2.1 i) (S.2.2 i))[k]? = some v) (hd : decode cc pc = .ok (.getfield ix, 3)) (hn : pc + 3 = nx) (kk : gW p l e R s m args below meth c D cy ad n A nL mc ms Q S nx lv (v :: st)) : gW p l e R s m args below meth c D cy ad n A nL mc ms Q S pc lv (.ref (ad i) :: st) := by
  intro H locs ls hP hS hl
  subst hn
  subst href
  exact va_get C.1 C.2.1 C.2.2.2.2.1 hin C.2.2.2.1 C.2.2.2.2.2.1 hP i ((wW_get ha).trans (by rw [hci])) hcl k hk (C.2.2.2.2.1 _ hlk) (fun _ h9 => h9) hv hd (kk H locs ls hP hS hl)
theorem g_getN (C : gC p s m args meth c cc nL own D cy ad n A) (nx : Nat) {i ci k ix N : Nat} {ref Cn host : String} {T : u_T} {v : Value} (ha : has n i (ci, 0)) (hci : cellOf cy ad i (ci, 0) (S.1 i) (S.2.1 i) (S.2.2 i) = .inr (ci, flds ad i ci (S.1 i) (S.2.1 i) (S.2.2 i))) (hcl : vwCl[ci]? = some (Cn, T, N)) (hk : k < N) (hin : ∀ w ∈ u_ws Cn T N, w ∈ wsAll) (hlk : Cond.fieldLinkNest own ix ref (T k).2.1 (T k).2.2.1 host ∈ tables_1) (href : ref = (T k).1) (hv : (flds ad i ci (S.1 i) (S.2.1 i) (S.2.2 i))[k]? = some v) (hd : decode cc pc = .ok (.getfield ix, 3)) (hn : pc + 3 = nx) (kk : gW p l e R s m args below meth c D cy ad n A nL mc ms Q S nx lv (v :: st)) : gW p l e R s m args below meth c D cy ad n A nL mc ms Q S pc lv (.ref (ad i) :: st) := by
  intro H locs ls hP hS hl
  subst hn
  subst href
  exact va_getN C.1 C.2.1 C.2.2.2.2.1 hin C.2.2.2.1 C.2.2.2.2.2.1 hP i ((wW_get ha).trans (by rw [hci])) hcl k hk (va_Nw.use rfl (C.2.2.2.2.2.2.2.2.1 _ hlk rfl)) (fun _ h9 => h9) hv hd (kk H locs ls hP hS hl)
theorem g_putF (C : gC p s m args meth c cc nL own D cy ad n A) (nx : Nat) {i ci k ix N : Nat} {ref Cn : String} {T : u_T} {v : Value} {ty : FieldType} {ty0 : Nat → FieldType} {S' : Sg} (ha : has n i (ci, 0)) (hci : cellOf cy ad i (ci, 0) (S.1 i) (S.2.1 i) (S.2.2 i) = .inr (ci, flds ad i ci (S.1 i) (S.2.1 i) (S.2.2 i))) (hcl : vwCl[ci]? = some (Cn, T, N)) (hk : k < N) (hin : ∀ w ∈ u_ws Cn T N, w ∈ wsAll) (hty : ∀ k, k < N → parseFieldDescriptor (T k).2.2.1 = some (ty0 k)) (hnm : ∀ a, a < N → ∀ b, b < N → a ≠ b → (T a).2.1 ≠ (T b).2.1) (hlk : Cond.fieldLink own ix ref (T k).2.1 (T k).2.2.1 ∈ wsAll) (href : ref = (T k).1) (hfin : (T k).2.2.2 = false) (hpd : parseFieldDescriptor (T k).2.2.1 = some ty) (hna : narrow ty v = v) (hfit : fits ty v = true) (hlen : k < (flds ad i ci (S.1 i) (S.2.1 i) (S.2.2 i)).length) (hE : cellOf cy ad i (ci, 0) (S'.1 i) (S'.2.1 i) (S'.2.2 i) = .inr (ci, (flds ad i ci (S.1 i) (S.2.1 i) (S.2.2 i)).set k v)) (hne : ∀ j, j ≠ i → S'.1 j = S.1 j ∧ S'.2.1 j = S.2.1 j ∧ S'.2.2 j = S.2.2 j) (hd : decode cc pc = .ok (.putfield ix, 3)) (hn : pc + 3 = nx) {K : Sg → Option ζ} (hz : vl S' K = some z) (kk : ∀ S', K S' = some z → gW p l e R s m args below meth c D cy ad n A nL mc ms Q S' nx lv st) : gW p l e R s m args below meth c D cy ad n A nL mc ms Q S pc lv (v :: .ref (ad i) :: st) := by
  intro H locs ls hP hS hl
  subst hn
  subst href
  refine va_put C.1 C.2.1 C.2.2.2.2.1 hin ty0 hty hnm C.2.2.2.1 C.2.2.2.2.2.1 hP (C.2.2.2.2.2.2.1 S) hS i ((wW_get ha).trans (by rw [hci])) hcl k hk (C.2.2.2.2.1 _ hlk) (fun _ h9 => h9) hfin hpd hna hfit hlen hd (fun H1 locs1 hP1 _ hS1 => kk _ hz H1 locs1 ls ?_ hS1 hl)
  rw [wW_set (S' := S') ha hE hne] at hP1
  exact hP1
theorem g_putN (C : gC p s m args meth c cc nL own D cy ad n A) (nx : Nat) {i ci k ix N : Nat} {ref Cn host : String} {T : u_T} {v : Value} {ty : FieldType} {ty0 : Nat → FieldType} {S' : Sg} (ha : has n i (ci, 0)) (hci : cellOf cy ad i (ci, 0) (S.1 i) (S.2.1 i) (S.2.2 i) = .inr (ci, flds ad i ci (S.1 i) (S.2.1 i) (S.2.2 i))) (hcl : vwCl[ci]? = some (Cn, T, N)) (hk : k < N) (hin : ∀ w ∈ u_ws Cn T N, w ∈ wsAll) (hty : ∀ k, k < N → parseFieldDescriptor (T k).2.2.1 = some (ty0 k)) (hnm : ∀ a, a < N → ∀ b, b < N → a ≠ b → (T a).2.1 ≠ (T b).2.1) (hlk : Cond.fieldLinkNest own ix ref (T k).2.1 (T k).2.2.1 host ∈ tables_1) (href : ref = (T k).1) (hfin : (T k).2.2.2 = false) (hpd : parseFieldDescriptor (T k).2.2.1 = some ty) (hna : narrow ty v = v) (hfit : fits ty v = true) (hlen : k < (flds ad i ci (S.1 i) (S.2.1 i) (S.2.2 i)).length) (hE : cellOf cy ad i (ci, 0) (S'.1 i) (S'.2.1 i) (S'.2.2 i) = .inr (ci, (flds ad i ci (S.1 i) (S.2.1 i) (S.2.2 i)).set k v)) (hne : ∀ j, j ≠ i → S'.1 j = S.1 j ∧ S'.2.1 j = S.2.1 j ∧ S'.2.2 j = S.2.2 j) (hd : decode cc pc = .ok (.putfield ix, 3)) (hn : pc + 3 = nx) {K : Sg → Option ζ} (hz : vl S' K = some z) (kk : ∀ S', K S' = some z → gW p l e R s m args below meth c D cy ad n A nL mc ms Q S' nx lv st) : gW p l e R s m args below meth c D cy ad n A nL mc ms Q S pc lv (v :: .ref (ad i) :: st) := by
  intro H locs ls hP hS hl
  subst hn
  subst href
  refine va_putN C.1 C.2.1 C.2.2.2.2.1 hin ty0 hty hnm C.2.2.2.1 C.2.2.2.2.2.1 hP (C.2.2.2.2.2.2.1 S) hS i ((wW_get ha).trans (by rw [hci])) hcl k hk (va_Nw.use rfl (C.2.2.2.2.2.2.2.2.1 _ hlk rfl)) (fun _ h9 => h9) hfin hpd hna hfit hlen hd (fun H1 locs1 hP1 _ hS1 => kk _ hz H1 locs1 ls ?_ hS1 hl)
  rw [wW_set (S' := S') ha hE hne] at hP1
  exact hP1
end GROWS
