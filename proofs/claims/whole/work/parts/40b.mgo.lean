def fgo (G : Gw) (m : Mm) (k : Nat) : Nat → List Nat → List Value
  | _, [] => []
  | j, t :: l => mfv G m k j t :: fgo G m k (j + 1) l
theorem fgo_eq {G : Gw} {m : Mm} {k : Nat} : ∀ (l : List Nat) (i : Nat), (l.mapIdx fun j t => mfv G m k (i + j) t) = fgo G m k i l
  | [], _ => rfl
  | t :: l, i => by
    rw [List.mapIdx_cons]
    show _ :: _ = _ :: _
    rw [← fgo_eq l (i + 1)]
    congr 1
    apply List.ext_getElem?
    intro n
    rw [List.getElem?_mapIdx, List.getElem?_mapIdx]
    congr 1
    funext t
    congr 1
    omega
def mcell2 (G : Gw) (m : Mm) (k : Nat) (s : Shp) : va_E := match s.1 with
  | 0 => .inl (gc G 0, s.2.1, .inl (m.1 k))
  | 1 => .inl (gc G 1, s.2.1, .inr (.inl (m.2.1 k)))
  | 2 => .inl (gc G 2, s.2.1, .inl (m.1 k))
  | 3 => .inl (gc G 3, s.2.1, .inl (m.1 k))
  | 4 => .inl (gc G 4, s.2.1, .inr (.inr (.inr (.inr (fun j => some (gr G (s.2.2.getD 0 0 + s.2.2.getD 1 0 * j)))))))
  | 5 => .inl (gc G 5, s.2.1, .inr (.inr (.inr (.inr (fun j => some (gr G (s.2.2.getD 0 0 + s.2.2.getD 1 0 * j)))))))
  | _ => .inr (s.2.1, fgo G m k 0 s.2.2)
theorem mcell_2 {G : Gw} {m : Mm} {k : Nat} {s : Shp} : mcell G m k s = mcell2 G m k s := by
  unfold mcell mcell2
  have e := fgo_eq (G := G) (m := m) (k := k) s.2.2 0
  simp only [Nat.zero_add] at e
  rw [e]
  rfl
def mgo (G : Gw) (m : Mm) : Nat → List Shp → va_W
  | _, [] => []
  | k, s :: l => (gr G k, mcell2 G m k s) :: mgo G m (k + 1) l
theorem mgo_eq {G : Gw} {m : Mm} : ∀ (l : List Shp) (i : Nat), (l.mapIdx fun k s => (gr G (i + k), mcell G m (i + k) s)) = mgo G m i l
  | [], _ => rfl
  | t :: l, i => by
    rw [List.mapIdx_cons]
    show _ :: _ = _ :: _
    rw [← mgo_eq l (i + 1), ← mcell_2]
    congr 1
    apply List.ext_getElem?
    intro n
    rw [List.getElem?_mapIdx, List.getElem?_mapIdx]
    congr 1
    funext t
    rw [show i + (n + 1) = i + 1 + n by omega]
theorem mw_go {G : Gw} {m : Mm} : mw G m = mgo G m 0 (gsh G) := by
  rw [← mgo_eq]
  unfold mw
  simp only [Nat.zero_add]
