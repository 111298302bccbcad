/-! ===== the class's pool at the start ===== -/
def ad9 (h0 : Nat) (u : Nat → Nat) (k n : Nat) : Nat := match k, n with
  | 450, 0 => h0
  | 400, 0 => u 0
  | 402, 0 => u 1
  | 403, 0 => u 2
  | 401, 0 => u 3
  | 350, 0 => u 4
  | 351, 0 => u 5
  | 352, 0 => u 6
  | 453, 0 => u 7
  | 454, 0 => u 8
  | 455, 0 => u 9
  | 456, 0 => u 10
  | 300, 0 => u 11
  | 301, 0 => u 12
  | 302, 0 => u 13
  | 150, 0 => u 14
  | 151, 0 => u 15
  | 250, 0 => u 16
  | 0, 0 => u 17
  | 1, 0 => u 18
  | 2, 0 => u 19
  | 3, 0 => u 20
  | 5, 0 => u 21
  | 6, 0 => u 22
  | 0, 1 => u 23
  | 1, 1 => u 24
  | 2, 1 => u 25
  | 3, 1 => u 26
  | 5, 1 => u 27
  | 6, 1 => u 28
  | _, _ => 0
def pos9 (x : Nat × Nat) : Nat := match x with
  | (450, 0) => 0
  | (400, 0) => 1
  | (402, 0) => 2
  | (403, 0) => 3
  | (401, 0) => 4
  | (350, 0) => 5
  | (351, 0) => 6
  | (352, 0) => 7
  | (453, 0) => 8
  | (454, 0) => 9
  | (455, 0) => 10
  | (456, 0) => 11
  | (300, 0) => 12
  | (301, 0) => 13
  | (302, 0) => 14
  | (150, 0) => 15
  | (151, 0) => 16
  | (250, 0) => 17
  | (0, 0) => 18
  | (1, 0) => 19
  | (2, 0) => 20
  | (3, 0) => 21
  | (5, 0) => 22
  | (6, 0) => 23
  | (0, 1) => 24
  | (1, 1) => 25
  | (2, 1) => 26
  | (3, 1) => 27
  | (5, 1) => 28
  | (6, 1) => 29
  | _ => 0
theorem LC00 : LC (0, 0) = [(150, 0), (151, 0), (250, 0), (300, 0), (301, 0), (302, 0), (350, 0), (351, 0), (352, 0), (400, 0), (401, 0), (402, 0), (403, 0), (450, 0), (453, 0), (454, 0), (455, 0), (456, 0), (0, 0), (1, 0), (2, 0), (3, 0), (5, 0), (6, 0), (0, 1), (1, 1), (2, 1), (3, 1), (5, 1), (6, 1)] := by decide +kernel
theorem pos9_i : ∀ x ∈ LC (0, 0), ∀ y ∈ LC (0, 0), pos9 x = pos9 y → x = y := by rw [LC00]; decide +kernel
set_option maxRecDepth 100000 in
set_option maxHeartbeats 1000000 in
theorem world9 (ca : Nat → ClassId) (h0 : Nat) (u : Nat → Nat) : ∀ x ∈ LC (0, 0), (w1_X9_init ca h0 u)[pos9 x]? = some (ad9 h0 u x.1 x.2, ent (ad9 h0 u) ca sC0 x.1 x.2) := by
  rw [LC00]
  refine List.forall_mem_cons.mpr ⟨?_, ?_⟩
  · show _ = some (ad9 h0 u 150 0, ent (ad9 h0 u) ca sC0 150 0)
    rfl
  refine List.forall_mem_cons.mpr ⟨?_, ?_⟩
  · show _ = some (ad9 h0 u 151 0, ent (ad9 h0 u) ca sC0 151 0)
    rfl
  refine List.forall_mem_cons.mpr ⟨?_, ?_⟩
  · show _ = some (ad9 h0 u 250 0, ent (ad9 h0 u) ca sC0 250 0)
    rfl
  refine List.forall_mem_cons.mpr ⟨?_, ?_⟩
  · show _ = some (ad9 h0 u 300 0, ent (ad9 h0 u) ca sC0 300 0)
    rfl
  refine List.forall_mem_cons.mpr ⟨?_, ?_⟩
  · show _ = some (ad9 h0 u 301 0, ent (ad9 h0 u) ca sC0 301 0)
    rfl
  refine List.forall_mem_cons.mpr ⟨?_, ?_⟩
  · show _ = some (ad9 h0 u 302 0, ent (ad9 h0 u) ca sC0 302 0)
    rfl
  refine List.forall_mem_cons.mpr ⟨?_, ?_⟩
  · show _ = some (ad9 h0 u 350 0, ent (ad9 h0 u) ca sC0 350 0)
    rfl
  refine List.forall_mem_cons.mpr ⟨?_, ?_⟩
  · show _ = some (ad9 h0 u 351 0, ent (ad9 h0 u) ca sC0 351 0)
    rfl
  refine List.forall_mem_cons.mpr ⟨?_, ?_⟩
  · show _ = some (ad9 h0 u 352 0, ent (ad9 h0 u) ca sC0 352 0)
    rfl
  refine List.forall_mem_cons.mpr ⟨?_, ?_⟩
  · show _ = some (ad9 h0 u 400 0, ent (ad9 h0 u) ca sC0 400 0)
    rfl
  refine List.forall_mem_cons.mpr ⟨?_, ?_⟩
  · show _ = some (ad9 h0 u 401 0, ent (ad9 h0 u) ca sC0 401 0)
    rfl
  refine List.forall_mem_cons.mpr ⟨?_, ?_⟩
  · show _ = some (ad9 h0 u 402 0, ent (ad9 h0 u) ca sC0 402 0)
    rfl
  refine List.forall_mem_cons.mpr ⟨?_, ?_⟩
  · show _ = some (ad9 h0 u 403 0, ent (ad9 h0 u) ca sC0 403 0)
    rfl
  refine List.forall_mem_cons.mpr ⟨?_, ?_⟩
  · show _ = some (ad9 h0 u 450 0, ent (ad9 h0 u) ca sC0 450 0)
    rfl
  refine List.forall_mem_cons.mpr ⟨?_, ?_⟩
  · show _ = some (ad9 h0 u 453 0, ent (ad9 h0 u) ca sC0 453 0)
    rfl
  refine List.forall_mem_cons.mpr ⟨?_, ?_⟩
  · show _ = some (ad9 h0 u 454 0, ent (ad9 h0 u) ca sC0 454 0)
    rfl
  refine List.forall_mem_cons.mpr ⟨?_, ?_⟩
  · show _ = some (ad9 h0 u 455 0, ent (ad9 h0 u) ca sC0 455 0)
    rfl
  refine List.forall_mem_cons.mpr ⟨?_, ?_⟩
  · show _ = some (ad9 h0 u 456 0, ent (ad9 h0 u) ca sC0 456 0)
    rfl
  refine List.forall_mem_cons.mpr ⟨?_, ?_⟩
  · show _ = some (ad9 h0 u 0 0, ent (ad9 h0 u) ca sC0 0 0)
    rfl
  refine List.forall_mem_cons.mpr ⟨?_, ?_⟩
  · show _ = some (ad9 h0 u 1 0, ent (ad9 h0 u) ca sC0 1 0)
    rfl
  refine List.forall_mem_cons.mpr ⟨?_, ?_⟩
  · show _ = some (ad9 h0 u 2 0, ent (ad9 h0 u) ca sC0 2 0)
    rfl
  refine List.forall_mem_cons.mpr ⟨?_, ?_⟩
  · show _ = some (ad9 h0 u 3 0, ent (ad9 h0 u) ca sC0 3 0)
    rfl
  refine List.forall_mem_cons.mpr ⟨?_, ?_⟩
  · show _ = some (ad9 h0 u 5 0, ent (ad9 h0 u) ca sC0 5 0)
    rfl
  refine List.forall_mem_cons.mpr ⟨?_, ?_⟩
  · show _ = some (ad9 h0 u 6 0, ent (ad9 h0 u) ca sC0 6 0)
    rfl
  refine List.forall_mem_cons.mpr ⟨?_, ?_⟩
  · show _ = some (ad9 h0 u 0 1, ent (ad9 h0 u) ca sC0 0 1)
    rfl
  refine List.forall_mem_cons.mpr ⟨?_, ?_⟩
  · show _ = some (ad9 h0 u 1 1, ent (ad9 h0 u) ca sC0 1 1)
    rfl
  refine List.forall_mem_cons.mpr ⟨?_, ?_⟩
  · show _ = some (ad9 h0 u 2 1, ent (ad9 h0 u) ca sC0 2 1)
    rfl
  refine List.forall_mem_cons.mpr ⟨?_, ?_⟩
  · show _ = some (ad9 h0 u 3 1, ent (ad9 h0 u) ca sC0 3 1)
    rfl
  refine List.forall_mem_cons.mpr ⟨?_, ?_⟩
  · show _ = some (ad9 h0 u 5 1, ent (ad9 h0 u) ca sC0 5 1)
    rfl
  refine List.forall_mem_cons.mpr ⟨?_, ?_⟩
  · show _ = some (ad9 h0 u 6 1, ent (ad9 h0 u) ca sC0 6 1)
    rfl
  exact fun x h => absurd h (List.not_mem_nil)
