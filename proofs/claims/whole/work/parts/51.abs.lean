/-! ===== WHAT BOTH SIDES DO, as functions ===== -/
/-- a session: its fields (as the class numbers them: 0 open 1 sender 2 receiver 3 opened 4 path 5 old path 6 successes 7 sent 8 delivered 9 key 10 sent with the key 11 last value 12 digest), how many messages aren't delivered, those messages (0 value 1 key 2 route 3 arrival) -/
abbrev aS : Type := (Nat → Int32) × Nat × (Nat → Nat → Int32)
/-- a situation: tick, links, known, sessions -/
abbrev aT : Type := Int32 × (Nat → Int32) × (Nat → Int32) × (Nat → aS)
/-- a plan: numbers (0 peers 6 period 7 need 8 many), capacities, zones, delays, known, items -/
abbrev aP : Type := (Nat → Int32) × (Nat → Int32) × (Nat → Int32) × (Nat → Int32) × (Nat → Int32) × List Int32
def ab_np (P : aP) : Nat := (P.1 0).toNatClampNeg
def ab_bit (v k : Int32) : Bool := decide (((v >>> (k &&& 31)) &&& 1) = 1)
def ab_kn (A : aT) (x y : Int32) : Bool := ab_bit (A.2.2.1 x.toNatClampNeg) y
def ab_up (A : aT) (x y : Int32) : Bool := ab_bit (A.2.1 x.toNatClampNeg) y
def ab_on (s : aS) (x : Int32) : Bool := decide (s.1 0 = 1) && (decide (s.1 4 = x) || decide (s.1 5 = x))
def ab_ld (A : aT) (x : Int32) : Nat := ob_ct (fun k => ab_on (A.2.2.2 k) x) 6
def ab_can (A : aT) (x y z : Int32) : Bool := !decide (x = y) && (!decide (x = z) && (ab_kn A x y && (ab_kn A x z && (ab_up A x y && ab_up A x z))))
def ab_dy (P : aP) (x y : Int32) : Int32 := P.2.2.2.1 (x * 8 + y).toNatClampNeg
def ab_zc (P : aP) (r s t : Int32) : Int32 := nI ((if P.2.2.1 s.toNatClampNeg = P.2.2.1 r.toNatClampNeg then 0 else 1) + (if P.2.2.1 t.toNatClampNeg = P.2.2.1 r.toNatClampNeg then 0 else 1))
/-! the formula: the values that are held, how many and which -/
abbrev aV : Type := Nat × (Nat → Int32)
def ab_op (i a b : Int32) : Int32 := if i = -6 then a + b else if i = -7 then a - b else if i = -8 then a * b else if b = 0 then 0 else a / b
def ab_isop (i : Int32) : Bool := decide (i = -6) || (decide (i = -7) || (decide (i = -8) || decide (i = -9)))
def ab_val (f : Nat → Int32) (i : Int32) : Int32 := if i = -1 then f 1 else if i = -2 then f 2 else if i = -3 then f 3 else if i = -4 then f 4 else if i = -5 then f 5 else i
def ab_st (f : Nat → Int32) (v : aV) (i : Int32) : aV := if ab_isop i = true then (v.1 - 1, upd v.2 (v.1 - 2) (ab_op i (v.2 (v.1 - 2)) (v.2 (v.1 - 1)))) else (v.1 + 1, upd v.2 v.1 (ab_val f i))
def ab_ht (is : List Int32) : Nat → Nat
  | 0 => 0
  | n + 1 => if ab_isop (is.getD n 0) = true then ab_ht is n - 1 else ab_ht is n + 1
def ab_ev (f : Nat → Int32) (is : List Int32) : Nat → aV
  | 0 => (0, fun _ => 0)
  | n + 1 => ab_st f (ab_ev f is n) (is.getD n 0)
def ab_fc (P : aP) (A : aT) (r s t : Int32) : Nat → Int32 := fun k => if k = 1 then ab_dy P s r else if k = 2 then ab_dy P r t else if k = 3 then nI (ab_ld A r) else if k = 4 then P.2.1 r.toNatClampNeg else ab_zc P r s t
def ab_sc (P : aP) (A : aT) (r s t : Int32) : Int32 := (ab_ev (ab_fc P A r s t) P.2.2.2.2.2 P.2.2.2.2.2.length).2 0
def ab_bst (P : aP) (A : aT) (s t : Int32) : Nat → Int32 × Int32
  | 0 => (-1, 0)
  | n + 1 => if ab_can A (nI n) s t = true ∧ nI (ab_ld A (nI n)) < P.2.1 n then (if (ab_bst P A s t n).1 = -1 ∨ ab_sc P A (nI n) s t < (ab_bst P A s t n).2 then (nI n, ab_sc P A (nI n) s t) else ab_bst P A s t n) else ab_bst P A s t n
def ab_best (P : aP) (A : aT) (s t : Int32) : Int32 := (ab_bst P A s t (ab_np P)).1
/-! sessions -/
def ab_f (s : aS) (j : Nat) (v : Int32) : aS := (upd s.1 j v, s.2.1, s.2.2)
def ab_nk (s : aS) : aS := ab_f (ab_f s 9 (s.1 9 + 1)) 10 0
def ab_cp (s : aS) (x : Int32) : aS := ab_f (if x ≠ s.1 4 ∧ 0 < s.1 10 then ab_nk s else s) 4 x
def ab_da (P : aP) (s : aS) : Int32 := if s.1 4 = 100 then ab_dy P (s.1 1) (s.1 2) else if s.1 4 = -1 then 0 else ab_dy P (s.1 1) (s.1 4) + ab_dy P (s.1 4) (s.1 2)
def ab_mv (m : Nat → Int32) (r t : Int32) : Nat → Int32 := upd (upd m 2 r) 3 t
def ab_sw (s : aS) (t : Int32) : aS := (s.1, s.2.1, fun k => if s.2.2 k 2 = -1 then ab_mv (s.2.2 k) (s.1 4) t else s.2.2 k)
def ab_ar (s : aS) (t : Int32) : aS := (s.1, s.2.1, fun k => if 0 ≤ s.2.2 k 2 ∧ s.2.2 k 3 = t then upd (s.2.2 k) 2 (-2) else s.2.2 k)
def ab_pop (s : aS) : aS := (upd (upd (upd s.1 11 (s.2.2 0 0)) 12 (31 * s.1 12 + s.2.2 0 0)) 8 (s.1 8 + 1), s.2.1 - 1, fun k => s.2.2 (k + 1))
def ab_dl : Nat → aS → aS
  | 0, s => s
  | f + 1, s => if 0 < s.2.1 ∧ s.2.2 0 2 = -2 then ab_dl f (ab_pop s) else s
def ab_dc : Nat → aS → Nat
  | 0, _ => 0
  | f + 1, s => if 0 < s.2.1 ∧ s.2.2 0 2 = -2 then ab_dc f (ab_pop s) + 1 else 0
def ab_arr (s : aS) (t : Int32) : aS := ab_dl s.2.1 (ab_ar s t)
def ab_arc (s : aS) (t : Int32) : Nat := ab_dc s.2.1 (ab_ar s t)
def ab_old (s : aS) : aS := if ob_ex (fun k => decide (s.2.2 k 2 = s.1 5)) s.2.1 = true then s else ab_f s 5 (-1)
def ab_pair (a b c d : Int32) : Bool := (decide (a = c) && decide (b = d)) || (decide (a = d) && decide (b = c))
def ab_ru (s : aS) (r a b : Int32) : Bool := if r = 100 then ab_pair (s.1 1) (s.1 2) a b else (decide (0 ≤ r) && (ab_pair (s.1 1) r a b || ab_pair r (s.1 2) a b))
def ab_mm (s : aS) (a b t : Int32) : aS := (s.1, s.2.1, fun k => if ab_ru s (s.2.2 k 2) a b = true then ab_mv (s.2.2 k) (s.1 4) t else s.2.2 k)
def ab_mc (s : aS) (a b : Int32) : Nat := ob_ct (fun k => ab_ru s (s.2.2 k 2) a b) s.2.1
def ab_so (r : Int32) : Int32 := if r = -1 then 0 else if r = -2 then 2 else 1
def ab_cs (s : aS) (x : Int32) : Nat := ob_ct (fun k => decide (ab_so (s.2.2 k 2) = x)) s.2.1
def ab_ad1 (s : aS) (v t : Int32) : aS := (upd (upd s.1 7 (s.1 7 + 1)) 10 (s.1 10 + 1), s.2.1 + 1, fun k => if k = s.2.1 then (fun j => if j = 0 then v else if j = 1 then s.1 9 else if j = 2 then s.1 4 else t) else s.2.2 k)
def ab_add (s : aS) (v m t : Int32) : aS := ab_ad1 (if s.1 10 < m then s else ab_nk s) v t
def ab_fk (s : aS) : Int32 := if s.2.1 = 0 then s.1 9 else s.2.2 0 1
def ab_new (x y t r : Int32) : aS := (fun j => if j = 0 then 1 else if j = 1 then x else if j = 2 then y else if j = 3 then t else if j = 4 then r else if j = 5 then -1 else 0, 0, fun _ _ => 0)
/-! situations -/
def ab_set (A : aT) (i : Nat) (s : aS) : aT := (A.1, A.2.1, A.2.2.1, fun k => if k = i then s else A.2.2.2 k)
def ab_s1 (A : aT) (i : Nat) : aT := if (A.2.2.2 i).1 0 = 1 then ab_set A i (ab_arr (A.2.2.2 i) A.1) else A
def ab_c1 (A : aT) : Nat → Nat
  | 0 => 0
  | n + 1 => ab_c1 A n + (if ((ob_it ab_s1 n A).2.2.2 n).1 0 = 1 then ab_arc ((ob_it ab_s1 n A).2.2.2 n) (ob_it ab_s1 n A).1 else 0)
def ab_tak (P : aP) (t : Int32) (s : aS) (r : Int32) : aS := ab_sw (ab_cp s r) (t + ab_da P (ab_cp s r))
def ab_upg (P : aP) (t : Int32) (s : aS) : aS := ab_tak P t (if (ab_f s 6 0).1 4 = -1 then ab_f s 6 0 else ab_f (ab_f s 6 0) 5 ((ab_f s 6 0).1 4)) 100
def ab_prb (P : aP) (A : aT) (s : aS) : aS :=
  if ((A.1 - s.1 3) - (A.1 - s.1 3) / P.1 6 * P.1 6) = 0 then
    (if ab_up A (s.1 1) (s.1 2) = true then (if s.1 6 + 1 < P.1 7 then ab_f s 6 (s.1 6 + 1) else ab_upg P A.1 (ab_f s 6 (s.1 6 + 1))) else ab_f s 6 0)
  else s
def ab_s2 (P : aP) (A : aT) (i : Nat) : aT := if (A.2.2.2 i).1 0 = 1 ∧ ¬ (A.2.2.2 i).1 4 = 100 then ab_set A i (ab_prb P A (A.2.2.2 i)) else A
def ab_s3 (P : aP) (A : aT) (i : Nat) : aT := if ((A.2.2.2 i).1 0 = 1 ∧ (A.2.2.2 i).1 4 = -1) ∧ ¬ ab_best P A ((A.2.2.2 i).1 1) ((A.2.2.2 i).1 2) = -1 then ab_set A i (ab_tak P A.1 (A.2.2.2 i) (ab_best P A ((A.2.2.2 i).1 1) ((A.2.2.2 i).1 2))) else A
def ab_s4 (A : aT) (i : Nat) : aT := if (A.2.2.2 i).1 0 = 1 then ab_set A i (ab_old (A.2.2.2 i)) else A
def ab_t0 (A : aT) : aT := (A.1 + 1, A.2)
def ab_tick (P : aP) (A : aT) : aT := ob_it ab_s4 6 (ob_it (ab_s3 P) 6 (ob_it (ab_s2 P) 6 (ob_it ab_s1 6 (ab_t0 A))))
def ab_tc (A : aT) : Nat := ab_c1 (ab_t0 A) 6
/-- a link goes down: what a session leaves -/
def ab_lv (P : aP) (A : aT) (i : Nat) (a b : Int32) : aS :=
  let s := A.2.2.2 i
  let s1 := if ab_ru s (s.1 5) a b = true then ab_f s 5 (-1) else s
  if ab_ru s1 (s1.1 4) a b = true then ab_cp (ab_f s1 6 0) (ab_best P (ab_set A i (ab_f s1 6 0)) (s1.1 1) (s1.1 2)) else s1
def ab_s5 (P : aP) (a b : Int32) (A : aT) (i : Nat) : aT := if (A.2.2.2 i).1 0 = 1 then ab_set A i (ab_mm (ab_lv P A i a b) a b (A.1 + ab_da P (ab_lv P A i a b))) else A
def ab_c5 (P : aP) (a b : Int32) (A : aT) : Nat → Nat
  | 0 => 0
  | n + 1 => ab_c5 P a b A n + (if ((ob_it (ab_s5 P a b) n A).2.2.2 n).1 0 = 1 then ab_mc (ab_lv P (ob_it (ab_s5 P a b) n A) n a b) a b else 0)
/-! ===== WHAT HOLDS OF THEM ===== -/
def ok_rt (n : Nat) (x : Int32) : Prop := x = -1 ∨ x = 100 ∨ ob_ix n x
def ok_S (P : aP) (c : Nat) (s : aS) : Prop := ob_ix (ab_np P) (s.1 1) ∧ ob_ix (ab_np P) (s.1 2) ∧ ok_rt (ab_np P) (s.1 4) ∧ (s.1 5 = -1 ∨ ob_ix (ab_np P) (s.1 5)) ∧
  (0 ≤ (s.1 6).toInt ∧ (s.1 6).toInt < (P.1 7).toInt) ∧ (∃ d, s.1 8 = nI d ∧ s.1 7 = nI (d + s.2.1) ∧ d + s.2.1 ≤ c) ∧ s.2.1 ≤ 24 ∧
  (0 ≤ (s.1 10).toInt ∧ (s.1 10).toInt ≤ (P.1 8).toInt) ∧ (∀ k, k < s.2.1 → (s.2.2 k 2 = -2 ∨ ok_rt (ab_np P) (s.2.2 k 2))) ∧ (¬ s.1 4 = -1 → ∀ k, k < s.2.1 → ¬ s.2.2 k 2 = -1)
def ok_L (A : aT) : Prop := ∀ a b, a < 8 → b < 8 → ab_bit (A.2.1 a) (nI b) = ab_bit (A.2.1 b) (nI a)
def ok_K (P : aP) (f : Nat → Int32) : Prop := ∀ a, a < 8 → ∃ m, m < 256 ∧ f a = nI m ∧ ∀ k, ab_np P ≤ k → k < 8 → ab_bit (f a) (nI k) = false
def ok_Ss (P : aP) (c : Nat) (A : aT) : Prop := ∀ i, i < 6 → (A.2.2.2 i).1 0 = 1 → ok_S P c (A.2.2.2 i)
def ok_T (P : aP) (c : Nat) (A : aT) : Prop := ok_L A ∧ ok_K P A.2.2.1 ∧ ok_Ss P c A ∧ ∀ i, i < 6 → (A.2.2.2 i).1 0 = 0 ∨ (A.2.2.2 i).1 0 = 1
/-- the formula's items: what is held is never too much, nor too little -/
def ok_it (is : List Int32) : Prop := (∀ k, k < is.length → (if ab_isop (is.getD k 0) = true then 2 ≤ ab_ht is k else ab_ht is k < 16) ∧ (ab_isop (is.getD k 0) = true ∨ (-5 ≤ (is.getD k 0).toInt ∧ (is.getD k 0).toInt ≤ 9999))) ∧ ab_ht is is.length = 1
def ok_P (P : aP) : Prop := (ab_np P ≤ 8 ∧ P.1 0 = nI (ab_np P)) ∧ (1 ≤ (P.1 6).toInt ∧ 1 ≤ (P.1 7).toInt ∧ 1 ≤ (P.1 8).toInt) ∧ (∀ k, k < 64 → 0 ≤ (P.2.2.2.1 k).toInt) ∧ (∀ a b, a < 8 → b < 8 → P.2.2.2.1 (8 * a + b) = P.2.2.2.1 (8 * b + a)) ∧ ok_K P P.2.2.2.2.1 ∧ ok_it P.2.2.2.2.2 ∧ P.2.2.2.2.2.length ≤ 600
/-! ===== HOW THE CLASS HOLDS THEM ===== -/
def ab_sd (s : aS) : Nat := (s.1 8).toNatClampNeg
def cl_F (I : pm_I) (b : Nat) (F : Nat → Int32) : Prop := ∀ j, j < 13 → I b j = F j
def cl_M (I : pm_I) (b : Nat) (d n : Nat) (M : Nat → Nat → Int32) : Prop := ∀ k, k < n → ∀ j, j < 4 → I (b + 1 + j) ((d + k) % 24) = M k j
def cl_S (I : pm_I) (b : Nat) (s : aS) : Prop := cl_F I b s.1 ∧ (s.1 0 = 1 → cl_M I b (ab_sd s) s.2.1 s.2.2)
def cl_T (I : pm_I) (b : Nat) (A : aT) : Prop := I b 0 = A.1 ∧ (∀ k, k < 8 → I (b + 1) k = A.2.1 k) ∧ (∀ k, k < 8 → I (b + 2) k = A.2.2.1 k) ∧ ∀ i, i < 6 → cl_S I (b + 3 + 1 + 5 * i) (A.2.2.2 i)
def cl_P (I : pm_I) (p : Nat) (P : aP) : Prop := (I p 0 = P.1 0 ∧ I p 6 = P.1 6 ∧ I p 7 = P.1 7 ∧ I p 8 = P.1 8) ∧ (∀ k, k < ab_np P → I (p + 1) k = P.2.1 k ∧ I (p + 2) k = P.2.2.1 k) ∧ (∀ k, k < 64 → I (p + 3) k = P.2.2.2.1 k) ∧ (∀ k, k < 8 → I (p + 4) k = P.2.2.2.2.1 k) ∧ I (p + 5) 1 = nI P.2.2.2.2.2.length ∧ ∀ k, k < P.2.2.2.2.2.length → I (p + 5 + 1) k = P.2.2.2.2.2.getD k 0
/-- the rows that a situation's methods may write: the situation's, and what the formula holds meanwhile -/
def cl_z (b p : Nat) (r : Nat) : Prop := (b ≤ r ∧ r < b + 34) ∨ r = p + 5 ∨ r = p + 5 + 2
/-! ===== HOW THE REFERENCE HOLDS THEM (row 500 and on) ===== -/
def rf_pi (j : Nat) : Nat := [0, 1, 2, 4, 5, 6, 3, 7, 8, 12, 11, 9, 10].getD j 0
def rf_F (N : Nat → Int32) (o : Nat) (F : Nat → Int32) : Prop := ∀ j, j < 13 → N (o + j) = F (rf_pi j)
def rf_m (N : Nat → Int32) (m : Nat) (f : Nat → Int32) : Prop := N m = ab_so (f 2) ∧ N (m + 1) = f 0 ∧ N (m + 2) = f 1 ∧ (0 ≤ f 2 → N (m + 3) = f 3 ∧ N (m + 4) = f 2)
def rf_M (N : Nat → Int32) (o n : Nat) (M : Nat → Nat → Int32) : Prop := ∀ k, k < n → rf_m N (o + 14 + 5 * k) (M k)
def rf_O (N : Nat → Int32) (o : Nat) (s : aS) : Prop := rf_F N o s.1 ∧ N (o + 13) = s.1 7 - s.1 10 ∧ rf_M N o s.2.1 s.2.2
def rf_S (N : Nat → Int32) (o : Nat) (s : aS) : Prop := (s.1 0 = 1 → rf_O N o s) ∧ (¬ s.1 0 = 1 → ¬ N o = 1)
def rf_T (N : Nat → Int32) (A : aT) : Prop := N 0 = A.1 ∧ (∀ k, k < 8 → N (1 + k) = A.2.2.1 k) ∧ (∀ k, k < 8 → N (9 + k) = A.2.1 k) ∧ ∀ i, i < 6 → rf_S N (17 + 134 * i) (A.2.2.2 i)
def rf_en (i : Int32) : Int32 := if i = -6 then -1 else if i = -7 then -2 else if i = -8 then -3 else if i = -9 then -4 else if i = -1 then 1 else if i = -2 then 2 else if i = -3 then 3 else if i = -4 then 4 else if i = -5 then 5 else 100 + i
def rf_P (I : pm_I) (q : Nat) (P : aP) : Prop := (I (q + 2) 0 = P.1 0 ∧ I (q + 2) 1 = P.1 6 ∧ I (q + 2) 2 = P.1 7 ∧ I (q + 2) 3 = P.1 8) ∧ (∀ k, k < ab_np P → I (q + 3) k = P.2.1 k ∧ I (q + 4) k = P.2.2.1 k) ∧ (∀ k, k < 64 → I (q + 5) k = P.2.2.2.1 k) ∧ (∀ k, k < 8 → I (q + 6) k = P.2.2.2.2.1 k) ∧ I (q + 7) 0 = nI P.2.2.2.2.2.length ∧ ∀ k, k < P.2.2.2.2.2.length → I (q + 8) k = rf_en (P.2.2.2.2.2.getD k 0)
def rf_W (I : pm_I) (q : Nat) (A : aT) (P : aP) : Prop := rf_T (I (q + 1)) A ∧ rf_P I q P
/-- the rows that the reference's methods may write -/
def rf_z (q r : Nat) : Prop := r = q + 1 ∨ r = q + 10 ∨ r = q + 11
/-- a session's places alone were written -/
def rf_f (q o : Nat) (I J : pm_I) : Prop := (∀ r, r ≠ q + 1 → J r = I r) ∧ ∀ x, (x < o ∨ o + 134 ≤ x) → J (q + 1) x = I (q + 1) x
