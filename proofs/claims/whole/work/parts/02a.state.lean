/-! Names of cells, a state as numbers by name and slot. -/
abbrev gI : Type := Nat × Nat
abbrev gS : Type := (gI → Nat → Int32) × (gI → Nat → Int64)
def gset (S : gS) (i : gI) (k : Nat) (v : Int32) : gS := (fun j n => if j = i ∧ n = k then v else S.1 j n, S.2)
def gsetL (S : gS) (i : gI) (k : Nat) (v : Int64) : gS := (S.1, fun j n => if j = i ∧ n = k then v else S.2 j n)
def gcpy (S : gS) (i : gI) (sp : Nat) (j : gI) (dp n : Nat) : gS := (fun a k => if a = j then va_cpy (S.1 i) (S.1 j) sp dp n k else S.1 a k, S.2)
/-- class numbers and slots; classes of arrays; addresses; the other cells; lengths; the names -/
abbrev gY : Type := va_G × (Nat → ClassId) × (gI → Nat) × (gI → va_E) × (gI → Nat) × List gI
abbrev gDd (Y : gY) : va_G := Y.1
abbrev gAc (Y : gY) : Nat → ClassId := Y.2.1
abbrev gad (Y : gY) : gI → Nat := Y.2.2.1
abbrev gre (Y : gY) : gI → va_E := Y.2.2.2.1
abbrev gLn (Y : gY) : gI → Nat := Y.2.2.2.2.1
abbrev gLs (Y : gY) : List gI := Y.2.2.2.2.2
abbrev ju_ushr (x y : Int32) : Int32 := (x.toUInt32 >>> (y.toUInt32 &&& Int32.toUInt32 31)).toInt32
abbrev ju_lushr (x : Int64) (y : Int32) : Int64 := (x.toUInt64 >>> (y.toInt64.toUInt64 &&& Int64.toUInt64 63)).toInt64
abbrev ju_lshl (x : Int64) (y : Int32) : Int64 := x <<< (y.toInt64 &&& 63)
theorem gset_s (S : gS) (i : gI) (k : Nat) (v : Int32) : (gset S i k v).1 i k = v := by simp [gset]
theorem gset_n {S : gS} {i j : gI} {k n : Nat} {v : Int32} (h : j ≠ i ∨ n ≠ k) : (gset S i k v).1 j n = S.1 j n := by
  show (if j = i ∧ n = k then v else S.1 j n) = S.1 j n
  rw [if_neg]
  rintro ⟨a, b⟩
  rcases h with h | h
  · exact h a
  · exact h b
theorem gset_o {S : gS} {i j : gI} {k : Nat} {v : Int32} (h : j ≠ i) : (gset S i k v).1 j = S.1 j := funext fun _ => gset_n (Or.inl h)
theorem gset_u (S : gS) (i : gI) (k : Nat) (v : Int32) : (gset S i k v).1 i = upd (S.1 i) k v := by
  funext n
  show (if i = i ∧ n = k then v else S.1 i n) = _
  by_cases h : n = k
  · rw [if_pos ⟨rfl, h⟩, h, pk_us]
  · rw [if_neg (fun z => h z.2), pk_un h]
/-! Which cells there are: kinds 0 to 26 the object's, 30 on the reference's, 60 the law's row. Types: 0 to 10 classes, 20 to 24 rows. -/
def gTt : List Nat := [9, 1, 0, 20, 0, 20, 4, 21, 20, 20, 24, 20, 7, 21, 3, 21, 8, 6, 5, 20, 20, 2, 20, 20, 20, 20, 20, 99, 99, 99, 10, 20, 20, 20, 20, 20, 20, 20, 20, 20, 20, 22, 20, 20, 20, 20, 20, 20, 99, 99, 99, 99, 99, 99, 99, 99, 99, 99, 99, 99, 23]
def gT (i : gI) : Nat := gTt.getD i.1 99
abbrev gt_int : Nat := 20
abbrev gt_byte : Nat := 21
abbrev gt_bool : Nat := 22
abbrev gt_long : Nat := 23
abbrev gt_file : Nat := 24
def grf (i : gI) (k : Nat) : gI := match i.1 with
  | 0 => (match k with | 0 => (6, 0) | 1 => (10, 0) | 2 => (11, 0) | 3 => (12, 0) | 4 => (14, 0) | 5 => (16, 0) | 6 => (17, 0) | 7 => (18, 0) | _ => (21, 0))
  | 1 => (match k with | 0 => (6, 0) | 1 => (2, i.2) | _ => (4, i.2))
  | 2 => (3, i.2)
  | 4 => (5, i.2)
  | 6 => (match k with | 0 => (7, 0) | 1 => (8, 0) | _ => (9, 0))
  | 12 => (13, 0)
  | 14 => (15, 0)
  | 18 => (match k with | 0 => (19, 0) | _ => (20, 0))
  | 21 => (match k with | 0 => (22, 0) | 1 => (23, 0) | 2 => (24, 0) | 3 => (25, 0) | _ => (26, 0))
  | 30 => (match k with | 4 => (31, 0) | 5 => (32, 0) | 6 => (33, 0) | 7 => (34, 0) | 8 => (35, 0) | 9 => (36, 0) | 10 => (37, 0) | 12 => (38, 0) | 13 => (39, 0) | 14 => (40, 0) | 15 => (41, 0) | 16 => (42, 0) | 17 => (43, 0) | 18 => (44, 0) | 31 => (45, 0) | 32 => (46, 0) | _ => (47, 0))
  | 10 => (1, k)
  | _ => i
def gTys (Y : gY) : List (ClassId × FieldType) := [(gAc Y 0, .int), (gAc Y 1, .byte), (gAc Y 2, .boolean), (gAc Y 3, .long), (gAc Y 4, .object "LogDisk$DiskFile")]
def gf_Content (Y : gY) (S : gS) (i : gI) : List Value := [.ref (gad Y (grf i 0)), .int (S.1 i 1), .int (S.1 i 2)]
def gf_DiskFile (Y : gY) (S : gS) (i : gI) : List Value := [.ref (gad Y (grf i 0)), .ref (gad Y (grf i 1)), .ref (gad Y (grf i 2)), .int (S.1 i 3)]
def gf_Entries (Y : gY) (S : gS) (i : gI) : List Value := [.ref (gad Y (grf i 0)), .ref (gad Y (grf i 1)), .ref (gad Y (grf i 2)), .ref (gad Y (grf i 3)), .ref (gad Y (grf i 4))]
def gf_Frame (Y : gY) (S : gS) (i : gI) : List Value := [.ref (gad Y (grf i 0)), .int (S.1 i 1)]
def gf_Pages (Y : gY) (S : gS) (i : gI) : List Value := [.ref (gad Y (grf i 0)), .ref (gad Y (grf i 1)), .ref (gad Y (grf i 2)), .int (S.1 i 3)]
def gf_Segments (Y : gY) (S : gS) (i : gI) : List Value := [.ref (gad Y (grf i 0)), .ref (gad Y (grf i 1)), .int (S.1 i 2)]
def gf_Snapshot (Y : gY) (S : gS) (i : gI) : List Value := [.int (S.1 i 0), .int (S.1 i 1), .int (S.1 i 2), .int (S.1 i 3)]
def gf_Tape (Y : gY) (S : gS) (i : gI) : List Value := [.ref (gad Y (grf i 0)), .int (S.1 i 1)]
def gf_Vote (Y : gY) (S : gS) (i : gI) : List Value := [.int (S.1 i 0), .int (S.1 i 1), .long (S.2 i 2), .int (S.1 i 3), .int (S.1 i 4)]
def gf_LogDisk (Y : gY) (S : gS) (i : gI) : List Value := [.ref (gad Y (grf i 0)), .ref (gad Y (grf i 1)), .ref (gad Y (grf i 2)), .ref (gad Y (grf i 3)), .ref (gad Y (grf i 4)), .ref (gad Y (grf i 5)), .ref (gad Y (grf i 6)), .ref (gad Y (grf i 7)), .ref (gad Y (grf i 8)), .int (S.1 i 9), .int (S.1 i 10), .int (S.1 i 11)]
def gf_Mo (Y : gY) (S : gS) (i : gI) : List Value := [.int (S.1 i 0), .int (S.1 i 1), .int (S.1 i 2), .int (S.1 i 3), .ref (gad Y (grf i 4)), .ref (gad Y (grf i 5)), .ref (gad Y (grf i 6)), .ref (gad Y (grf i 7)), .ref (gad Y (grf i 8)), .ref (gad Y (grf i 9)), .ref (gad Y (grf i 10)), .int (S.1 i 11), .ref (gad Y (grf i 12)), .ref (gad Y (grf i 13)), .ref (gad Y (grf i 14)), .ref (gad Y (grf i 15)), .ref (gad Y (grf i 16)), .ref (gad Y (grf i 17)), .ref (gad Y (grf i 18)), .int (S.1 i 19), .int (S.1 i 20), .int (S.1 i 21), .int (S.1 i 22), .int (S.1 i 23), .int (S.1 i 24), .int (S.1 i 25), .int (S.1 i 26), .int (S.1 i 27), .int (S.1 i 28), .int (S.1 i 29), .int (S.1 i 30), .ref (gad Y (grf i 31)), .ref (gad Y (grf i 32)), .int (S.1 i 33), .ref (gad Y (grf i 34))]
def gce (Y : gY) (S : gS) (i : gI) : va_E := match gT i with
  | 0 => .inr (0, gf_Content Y S i)
  | 1 => .inr (1, gf_DiskFile Y S i)
  | 2 => .inr (2, gf_Entries Y S i)
  | 3 => .inr (3, gf_Frame Y S i)
  | 4 => .inr (4, gf_Pages Y S i)
  | 5 => .inr (5, gf_Segments Y S i)
  | 6 => .inr (6, gf_Snapshot Y S i)
  | 7 => .inr (7, gf_Tape Y S i)
  | 8 => .inr (8, gf_Vote Y S i)
  | 9 => .inr (9, gf_LogDisk Y S i)
  | 10 => .inr (10, gf_Mo Y S i)
  | 20 => .inl (gAc Y 0, gLn Y i, .inl (S.1 i))
  | 21 => .inl (gAc Y 1, gLn Y i, .inl (S.1 i))
  | 22 => .inl (gAc Y 2, gLn Y i, .inl (S.1 i))
  | 23 => .inl (gAc Y 3, gLn Y i, .inr (.inl (S.2 i)))
  | 24 => .inl (gAc Y 4, gLn Y i, .inr (.inr (.inr (.inr (fun j => some (gad Y (grf i j)))))))
  | _ => gre Y i
theorem gce_Content {Y : gY} {S : gS} {i : gI} (h : gT i = 0) : gce Y S i = .inr (0, gf_Content Y S i) := by
  unfold gce
  rw [h]
  first | done | rfl
theorem gce_DiskFile {Y : gY} {S : gS} {i : gI} (h : gT i = 1) : gce Y S i = .inr (1, gf_DiskFile Y S i) := by
  unfold gce
  rw [h]
  first | done | rfl
theorem gce_Entries {Y : gY} {S : gS} {i : gI} (h : gT i = 2) : gce Y S i = .inr (2, gf_Entries Y S i) := by
  unfold gce
  rw [h]
  first | done | rfl
theorem gce_Frame {Y : gY} {S : gS} {i : gI} (h : gT i = 3) : gce Y S i = .inr (3, gf_Frame Y S i) := by
  unfold gce
  rw [h]
  first | done | rfl
theorem gce_Pages {Y : gY} {S : gS} {i : gI} (h : gT i = 4) : gce Y S i = .inr (4, gf_Pages Y S i) := by
  unfold gce
  rw [h]
  first | done | rfl
theorem gce_Segments {Y : gY} {S : gS} {i : gI} (h : gT i = 5) : gce Y S i = .inr (5, gf_Segments Y S i) := by
  unfold gce
  rw [h]
  first | done | rfl
theorem gce_Snapshot {Y : gY} {S : gS} {i : gI} (h : gT i = 6) : gce Y S i = .inr (6, gf_Snapshot Y S i) := by
  unfold gce
  rw [h]
  first | done | rfl
theorem gce_Tape {Y : gY} {S : gS} {i : gI} (h : gT i = 7) : gce Y S i = .inr (7, gf_Tape Y S i) := by
  unfold gce
  rw [h]
  first | done | rfl
theorem gce_Vote {Y : gY} {S : gS} {i : gI} (h : gT i = 8) : gce Y S i = .inr (8, gf_Vote Y S i) := by
  unfold gce
  rw [h]
  first | done | rfl
theorem gce_LogDisk {Y : gY} {S : gS} {i : gI} (h : gT i = 9) : gce Y S i = .inr (9, gf_LogDisk Y S i) := by
  unfold gce
  rw [h]
  first | done | rfl
theorem gce_Mo {Y : gY} {S : gS} {i : gI} (h : gT i = 10) : gce Y S i = .inr (10, gf_Mo Y S i) := by
  unfold gce
  rw [h]
  first | done | rfl
theorem gce_int {Y : gY} {S : gS} {i : gI} (h : gT i = 20) : gce Y S i = .inl (gAc Y 0, gLn Y i, .inl (S.1 i)) := by
  unfold gce
  rw [h]
  first | done | rfl
theorem gce_byte {Y : gY} {S : gS} {i : gI} (h : gT i = 21) : gce Y S i = .inl (gAc Y 1, gLn Y i, .inl (S.1 i)) := by
  unfold gce
  rw [h]
  first | done | rfl
theorem gce_bool {Y : gY} {S : gS} {i : gI} (h : gT i = 22) : gce Y S i = .inl (gAc Y 2, gLn Y i, .inl (S.1 i)) := by
  unfold gce
  rw [h]
  first | done | rfl
theorem gce_long {Y : gY} {S : gS} {i : gI} (h : gT i = 23) : gce Y S i = .inl (gAc Y 3, gLn Y i, .inr (.inl (S.2 i))) := by
  unfold gce
  rw [h]
  first | done | rfl
theorem gce_file {Y : gY} {S : gS} {i : gI} (h : gT i = 24) : gce Y S i = .inl (gAc Y 4, gLn Y i, .inr (.inr (.inr (.inr (fun j => some (gad Y (grf i j))))))) := by
  unfold gce
  rw [h]
  first | done | rfl
theorem gce_congr {Y : gY} {S S' : gS} {i : gI} (h1 : S'.1 i = S.1 i) (h2 : S'.2 i = S.2 i) : gce Y S' i = gce Y S i := by
  unfold gce
  split <;> first | rfl | simp only [gf_Content, gf_DiskFile, gf_Entries, gf_Frame, gf_Pages, gf_Segments, gf_Snapshot, gf_Tape, gf_Vote, gf_LogDisk, gf_Mo, h1, h2]
def gNames : List gI := [(0, 0), (1, 0), (1, 1), (1, 2), (1, 3), (1, 4), (1, 5), (1, 6), (1, 7), (1, 8), (1, 9), (1, 10), (1, 11), (1, 12), (1, 13), (1, 14), (1, 15), (2, 0), (2, 1), (2, 2), (2, 3), (2, 4), (2, 5), (2, 6), (2, 7), (2, 8), (2, 9), (2, 10), (2, 11), (2, 12), (2, 13), (2, 14), (2, 15), (3, 0), (3, 1), (3, 2), (3, 3), (3, 4), (3, 5), (3, 6), (3, 7), (3, 8), (3, 9), (3, 10), (3, 11), (3, 12), (3, 13), (3, 14), (3, 15), (4, 0), (4, 1), (4, 2), (4, 3), (4, 4), (4, 5), (4, 6), (4, 7), (4, 8), (4, 9), (4, 10), (4, 11), (4, 12), (4, 13), (4, 14), (4, 15), (5, 0), (5, 1), (5, 2), (5, 3), (5, 4), (5, 5), (5, 6), (5, 7), (5, 8), (5, 9), (5, 10), (5, 11), (5, 12), (5, 13), (5, 14), (5, 15), (6, 0), (7, 0), (8, 0), (9, 0), (10, 0), (11, 0), (12, 0), (13, 0), (14, 0), (15, 0), (16, 0), (17, 0), (18, 0), (19, 0), (20, 0), (21, 0), (22, 0), (23, 0), (24, 0), (25, 0), (26, 0), (30, 0), (31, 0), (32, 0), (33, 0), (34, 0), (35, 0), (36, 0), (37, 0), (38, 0), (39, 0), (40, 0), (41, 0), (42, 0), (43, 0), (44, 0), (45, 0), (46, 0), (47, 0), (60, 0)]
def gis (Y : gY) (t : Nat) (i : gI) : Prop := gT i = t ∧ i ∈ gLs Y
/-- the names are apart, and so are the addresses -/
def gInj (Y : gY) : Prop := (gLs Y).Nodup ∧ ∀ i, i ∈ gLs Y → ∀ j, j ∈ gLs Y → gad Y i = gad Y j → i = j
/-- the world has just these cells; there are 16 files -/
def gOK (Y : gY) : Prop := gInj Y ∧ (∀ i, i ∈ gLs Y ↔ i ∈ gNames) ∧ gLn Y (10, 0) = 16
theorem gk_Content_row : gNames.all (fun i => decide (gT i = 0 → grf i 0 ∈ gNames ∧ gT (grf i 0) = 20)) = true := by decide +kernel
theorem gis_Content_row {Y : gY} {i : gI} (hY : gOK Y) (h : gis Y 0 i) : gis Y 20 (grf i 0) := by
  have h1 := of_decide_eq_true (List.all_eq_true.mp gk_Content_row i ((hY.2.1 i).mp h.2)) h.1
  exact ⟨h1.2, (hY.2.1 _).mpr h1.1⟩
theorem gk_DiskFile_pages : gNames.all (fun i => decide (gT i = 1 → grf i 0 ∈ gNames ∧ gT (grf i 0) = 4)) = true := by decide +kernel
theorem gis_DiskFile_pages {Y : gY} {i : gI} (hY : gOK Y) (h : gis Y 1 i) : gis Y 4 (grf i 0) := by
  have h1 := of_decide_eq_true (List.all_eq_true.mp gk_DiskFile_pages i ((hY.2.1 i).mp h.2)) h.1
  exact ⟨h1.2, (hY.2.1 _).mpr h1.1⟩
theorem gk_DiskFile_now : gNames.all (fun i => decide (gT i = 1 → grf i 1 ∈ gNames ∧ gT (grf i 1) = 0)) = true := by decide +kernel
theorem gis_DiskFile_now {Y : gY} {i : gI} (hY : gOK Y) (h : gis Y 1 i) : gis Y 0 (grf i 1) := by
  have h1 := of_decide_eq_true (List.all_eq_true.mp gk_DiskFile_now i ((hY.2.1 i).mp h.2)) h.1
  exact ⟨h1.2, (hY.2.1 _).mpr h1.1⟩
theorem gk_DiskFile_synced : gNames.all (fun i => decide (gT i = 1 → grf i 2 ∈ gNames ∧ gT (grf i 2) = 0)) = true := by decide +kernel
theorem gis_DiskFile_synced {Y : gY} {i : gI} (hY : gOK Y) (h : gis Y 1 i) : gis Y 0 (grf i 2) := by
  have h1 := of_decide_eq_true (List.all_eq_true.mp gk_DiskFile_synced i ((hY.2.1 i).mp h.2)) h.1
  exact ⟨h1.2, (hY.2.1 _).mpr h1.1⟩
theorem gk_Entries_file : gNames.all (fun i => decide (gT i = 2 → grf i 0 ∈ gNames ∧ gT (grf i 0) = 20)) = true := by decide +kernel
theorem gis_Entries_file {Y : gY} {i : gI} (hY : gOK Y) (h : gis Y 2 i) : gis Y 20 (grf i 0) := by
  have h1 := of_decide_eq_true (List.all_eq_true.mp gk_Entries_file i ((hY.2.1 i).mp h.2)) h.1
  exact ⟨h1.2, (hY.2.1 _).mpr h1.1⟩
theorem gk_Entries_start : gNames.all (fun i => decide (gT i = 2 → grf i 1 ∈ gNames ∧ gT (grf i 1) = 20)) = true := by decide +kernel
theorem gis_Entries_start {Y : gY} {i : gI} (hY : gOK Y) (h : gis Y 2 i) : gis Y 20 (grf i 1) := by
  have h1 := of_decide_eq_true (List.all_eq_true.mp gk_Entries_start i ((hY.2.1 i).mp h.2)) h.1
  exact ⟨h1.2, (hY.2.1 _).mpr h1.1⟩
theorem gk_Entries_term : gNames.all (fun i => decide (gT i = 2 → grf i 2 ∈ gNames ∧ gT (grf i 2) = 20)) = true := by decide +kernel
theorem gis_Entries_term {Y : gY} {i : gI} (hY : gOK Y) (h : gis Y 2 i) : gis Y 20 (grf i 2) := by
  have h1 := of_decide_eq_true (List.all_eq_true.mp gk_Entries_term i ((hY.2.1 i).mp h.2)) h.1
  exact ⟨h1.2, (hY.2.1 _).mpr h1.1⟩
theorem gk_Entries_kind : gNames.all (fun i => decide (gT i = 2 → grf i 3 ∈ gNames ∧ gT (grf i 3) = 20)) = true := by decide +kernel
theorem gis_Entries_kind {Y : gY} {i : gI} (hY : gOK Y) (h : gis Y 2 i) : gis Y 20 (grf i 3) := by
  have h1 := of_decide_eq_true (List.all_eq_true.mp gk_Entries_kind i ((hY.2.1 i).mp h.2)) h.1
  exact ⟨h1.2, (hY.2.1 _).mpr h1.1⟩
theorem gk_Entries_bytes : gNames.all (fun i => decide (gT i = 2 → grf i 4 ∈ gNames ∧ gT (grf i 4) = 20)) = true := by decide +kernel
theorem gis_Entries_bytes {Y : gY} {i : gI} (hY : gOK Y) (h : gis Y 2 i) : gis Y 20 (grf i 4) := by
  have h1 := of_decide_eq_true (List.all_eq_true.mp gk_Entries_bytes i ((hY.2.1 i).mp h.2)) h.1
  exact ⟨h1.2, (hY.2.1 _).mpr h1.1⟩
theorem gk_Frame_bytes : gNames.all (fun i => decide (gT i = 3 → grf i 0 ∈ gNames ∧ gT (grf i 0) = 21)) = true := by decide +kernel
theorem gis_Frame_bytes {Y : gY} {i : gI} (hY : gOK Y) (h : gis Y 3 i) : gis Y 21 (grf i 0) := by
  have h1 := of_decide_eq_true (List.all_eq_true.mp gk_Frame_bytes i ((hY.2.1 i).mp h.2)) h.1
  exact ⟨h1.2, (hY.2.1 _).mpr h1.1⟩
theorem gk_Pages_bytes : gNames.all (fun i => decide (gT i = 4 → grf i 0 ∈ gNames ∧ gT (grf i 0) = 21)) = true := by decide +kernel
theorem gis_Pages_bytes {Y : gY} {i : gI} (hY : gOK Y) (h : gis Y 4 i) : gis Y 21 (grf i 0) := by
  have h1 := of_decide_eq_true (List.all_eq_true.mp gk_Pages_bytes i ((hY.2.1 i).mp h.2)) h.1
  exact ⟨h1.2, (hY.2.1 _).mpr h1.1⟩
theorem gk_Pages_owners : gNames.all (fun i => decide (gT i = 4 → grf i 1 ∈ gNames ∧ gT (grf i 1) = 20)) = true := by decide +kernel
theorem gis_Pages_owners {Y : gY} {i : gI} (hY : gOK Y) (h : gis Y 4 i) : gis Y 20 (grf i 1) := by
  have h1 := of_decide_eq_true (List.all_eq_true.mp gk_Pages_owners i ((hY.2.1 i).mp h.2)) h.1
  exact ⟨h1.2, (hY.2.1 _).mpr h1.1⟩
theorem gk_Pages_unused : gNames.all (fun i => decide (gT i = 4 → grf i 2 ∈ gNames ∧ gT (grf i 2) = 20)) = true := by decide +kernel
theorem gis_Pages_unused {Y : gY} {i : gI} (hY : gOK Y) (h : gis Y 4 i) : gis Y 20 (grf i 2) := by
  have h1 := of_decide_eq_true (List.all_eq_true.mp gk_Pages_unused i ((hY.2.1 i).mp h.2)) h.1
  exact ⟨h1.2, (hY.2.1 _).mpr h1.1⟩
theorem gk_Segments_file : gNames.all (fun i => decide (gT i = 5 → grf i 0 ∈ gNames ∧ gT (grf i 0) = 20)) = true := by decide +kernel
theorem gis_Segments_file {Y : gY} {i : gI} (hY : gOK Y) (h : gis Y 5 i) : gis Y 20 (grf i 0) := by
  have h1 := of_decide_eq_true (List.all_eq_true.mp gk_Segments_file i ((hY.2.1 i).mp h.2)) h.1
  exact ⟨h1.2, (hY.2.1 _).mpr h1.1⟩
theorem gk_Segments_first : gNames.all (fun i => decide (gT i = 5 → grf i 1 ∈ gNames ∧ gT (grf i 1) = 20)) = true := by decide +kernel
theorem gis_Segments_first {Y : gY} {i : gI} (hY : gOK Y) (h : gis Y 5 i) : gis Y 20 (grf i 1) := by
  have h1 := of_decide_eq_true (List.all_eq_true.mp gk_Segments_first i ((hY.2.1 i).mp h.2)) h.1
  exact ⟨h1.2, (hY.2.1 _).mpr h1.1⟩
theorem gk_Tape_bytes : gNames.all (fun i => decide (gT i = 7 → grf i 0 ∈ gNames ∧ gT (grf i 0) = 21)) = true := by decide +kernel
theorem gis_Tape_bytes {Y : gY} {i : gI} (hY : gOK Y) (h : gis Y 7 i) : gis Y 21 (grf i 0) := by
  have h1 := of_decide_eq_true (List.all_eq_true.mp gk_Tape_bytes i ((hY.2.1 i).mp h.2)) h.1
  exact ⟨h1.2, (hY.2.1 _).mpr h1.1⟩
theorem gk_LogDisk_pages : gNames.all (fun i => decide (gT i = 9 → grf i 0 ∈ gNames ∧ gT (grf i 0) = 4)) = true := by decide +kernel
theorem gis_LogDisk_pages {Y : gY} {i : gI} (hY : gOK Y) (h : gis Y 9 i) : gis Y 4 (grf i 0) := by
  have h1 := of_decide_eq_true (List.all_eq_true.mp gk_LogDisk_pages i ((hY.2.1 i).mp h.2)) h.1
  exact ⟨h1.2, (hY.2.1 _).mpr h1.1⟩
theorem gk_LogDisk_files : gNames.all (fun i => decide (gT i = 9 → grf i 1 ∈ gNames ∧ gT (grf i 1) = 24)) = true := by decide +kernel
theorem gis_LogDisk_files {Y : gY} {i : gI} (hY : gOK Y) (h : gis Y 9 i) : gis Y 24 (grf i 1) := by
  have h1 := of_decide_eq_true (List.all_eq_true.mp gk_LogDisk_files i ((hY.2.1 i).mp h.2)) h.1
  exact ⟨h1.2, (hY.2.1 _).mpr h1.1⟩
theorem gk_LogDisk_keeps : gNames.all (fun i => decide (gT i = 9 → grf i 2 ∈ gNames ∧ gT (grf i 2) = 20)) = true := by decide +kernel
theorem gis_LogDisk_keeps {Y : gY} {i : gI} (hY : gOK Y) (h : gis Y 9 i) : gis Y 20 (grf i 2) := by
  have h1 := of_decide_eq_true (List.all_eq_true.mp gk_LogDisk_keeps i ((hY.2.1 i).mp h.2)) h.1
  exact ⟨h1.2, (hY.2.1 _).mpr h1.1⟩
theorem gk_LogDisk_tape : gNames.all (fun i => decide (gT i = 9 → grf i 3 ∈ gNames ∧ gT (grf i 3) = 7)) = true := by decide +kernel
theorem gis_LogDisk_tape {Y : gY} {i : gI} (hY : gOK Y) (h : gis Y 9 i) : gis Y 7 (grf i 3) := by
  have h1 := of_decide_eq_true (List.all_eq_true.mp gk_LogDisk_tape i ((hY.2.1 i).mp h.2)) h.1
  exact ⟨h1.2, (hY.2.1 _).mpr h1.1⟩
theorem gk_LogDisk_frame : gNames.all (fun i => decide (gT i = 9 → grf i 4 ∈ gNames ∧ gT (grf i 4) = 3)) = true := by decide +kernel
theorem gis_LogDisk_frame {Y : gY} {i : gI} (hY : gOK Y) (h : gis Y 9 i) : gis Y 3 (grf i 4) := by
  have h1 := of_decide_eq_true (List.all_eq_true.mp gk_LogDisk_frame i ((hY.2.1 i).mp h.2)) h.1
  exact ⟨h1.2, (hY.2.1 _).mpr h1.1⟩
theorem gk_LogDisk_vote : gNames.all (fun i => decide (gT i = 9 → grf i 5 ∈ gNames ∧ gT (grf i 5) = 8)) = true := by decide +kernel
theorem gis_LogDisk_vote {Y : gY} {i : gI} (hY : gOK Y) (h : gis Y 9 i) : gis Y 8 (grf i 5) := by
  have h1 := of_decide_eq_true (List.all_eq_true.mp gk_LogDisk_vote i ((hY.2.1 i).mp h.2)) h.1
  exact ⟨h1.2, (hY.2.1 _).mpr h1.1⟩
theorem gk_LogDisk_snapshot : gNames.all (fun i => decide (gT i = 9 → grf i 6 ∈ gNames ∧ gT (grf i 6) = 6)) = true := by decide +kernel
theorem gis_LogDisk_snapshot {Y : gY} {i : gI} (hY : gOK Y) (h : gis Y 9 i) : gis Y 6 (grf i 6) := by
  have h1 := of_decide_eq_true (List.all_eq_true.mp gk_LogDisk_snapshot i ((hY.2.1 i).mp h.2)) h.1
  exact ⟨h1.2, (hY.2.1 _).mpr h1.1⟩
theorem gk_LogDisk_segments : gNames.all (fun i => decide (gT i = 9 → grf i 7 ∈ gNames ∧ gT (grf i 7) = 5)) = true := by decide +kernel
theorem gis_LogDisk_segments {Y : gY} {i : gI} (hY : gOK Y) (h : gis Y 9 i) : gis Y 5 (grf i 7) := by
  have h1 := of_decide_eq_true (List.all_eq_true.mp gk_LogDisk_segments i ((hY.2.1 i).mp h.2)) h.1
  exact ⟨h1.2, (hY.2.1 _).mpr h1.1⟩
theorem gk_LogDisk_entries : gNames.all (fun i => decide (gT i = 9 → grf i 8 ∈ gNames ∧ gT (grf i 8) = 2)) = true := by decide +kernel
theorem gis_LogDisk_entries {Y : gY} {i : gI} (hY : gOK Y) (h : gis Y 9 i) : gis Y 2 (grf i 8) := by
  have h1 := of_decide_eq_true (List.all_eq_true.mp gk_LogDisk_entries i ((hY.2.1 i).mp h.2)) h.1
  exact ⟨h1.2, (hY.2.1 _).mpr h1.1⟩
theorem gk_Mo_sorts : gNames.all (fun i => decide (gT i = 10 → grf i 4 ∈ gNames ∧ gT (grf i 4) = 20)) = true := by decide +kernel
theorem gis_Mo_sorts {Y : gY} {i : gI} (hY : gOK Y) (h : gis Y 10 i) : gis Y 20 (grf i 4) := by
  have h1 := of_decide_eq_true (List.all_eq_true.mp gk_Mo_sorts i ((hY.2.1 i).mp h.2)) h.1
  exact ⟨h1.2, (hY.2.1 _).mpr h1.1⟩
theorem gk_Mo_as : gNames.all (fun i => decide (gT i = 10 → grf i 5 ∈ gNames ∧ gT (grf i 5) = 20)) = true := by decide +kernel
theorem gis_Mo_as {Y : gY} {i : gI} (hY : gOK Y) (h : gis Y 10 i) : gis Y 20 (grf i 5) := by
  have h1 := of_decide_eq_true (List.all_eq_true.mp gk_Mo_as i ((hY.2.1 i).mp h.2)) h.1
  exact ⟨h1.2, (hY.2.1 _).mpr h1.1⟩
theorem gk_Mo_bs : gNames.all (fun i => decide (gT i = 10 → grf i 6 ∈ gNames ∧ gT (grf i 6) = 20)) = true := by decide +kernel
theorem gis_Mo_bs {Y : gY} {i : gI} (hY : gOK Y) (h : gis Y 10 i) : gis Y 20 (grf i 6) := by
  have h1 := of_decide_eq_true (List.all_eq_true.mp gk_Mo_bs i ((hY.2.1 i).mp h.2)) h.1
  exact ⟨h1.2, (hY.2.1 _).mpr h1.1⟩
theorem gk_Mo_cs : gNames.all (fun i => decide (gT i = 10 → grf i 7 ∈ gNames ∧ gT (grf i 7) = 20)) = true := by decide +kernel
theorem gis_Mo_cs {Y : gY} {i : gI} (hY : gOK Y) (h : gis Y 10 i) : gis Y 20 (grf i 7) := by
  have h1 := of_decide_eq_true (List.all_eq_true.mp gk_Mo_cs i ((hY.2.1 i).mp h.2)) h.1
  exact ⟨h1.2, (hY.2.1 _).mpr h1.1⟩
theorem gk_Mo_froms : gNames.all (fun i => decide (gT i = 10 → grf i 8 ∈ gNames ∧ gT (grf i 8) = 20)) = true := by decide +kernel
theorem gis_Mo_froms {Y : gY} {i : gI} (hY : gOK Y) (h : gis Y 10 i) : gis Y 20 (grf i 8) := by
  have h1 := of_decide_eq_true (List.all_eq_true.mp gk_Mo_froms i ((hY.2.1 i).mp h.2)) h.1
  exact ⟨h1.2, (hY.2.1 _).mpr h1.1⟩
theorem gk_Mo_lengths : gNames.all (fun i => decide (gT i = 10 → grf i 9 ∈ gNames ∧ gT (grf i 9) = 20)) = true := by decide +kernel
theorem gis_Mo_lengths {Y : gY} {i : gI} (hY : gOK Y) (h : gis Y 10 i) : gis Y 20 (grf i 9) := by
  have h1 := of_decide_eq_true (List.all_eq_true.mp gk_Mo_lengths i ((hY.2.1 i).mp h.2)) h.1
  exact ⟨h1.2, (hY.2.1 _).mpr h1.1⟩
theorem gk_Mo_bytes : gNames.all (fun i => decide (gT i = 10 → grf i 10 ∈ gNames ∧ gT (grf i 10) = 20)) = true := by decide +kernel
theorem gis_Mo_bytes {Y : gY} {i : gI} (hY : gOK Y) (h : gis Y 10 i) : gis Y 20 (grf i 10) := by
  have h1 := of_decide_eq_true (List.all_eq_true.mp gk_Mo_bytes i ((hY.2.1 i).mp h.2)) h.1
  exact ⟨h1.2, (hY.2.1 _).mpr h1.1⟩
theorem gk_Mo_rows : gNames.all (fun i => decide (gT i = 10 → grf i 12 ∈ gNames ∧ gT (grf i 12) = 20)) = true := by decide +kernel
theorem gis_Mo_rows {Y : gY} {i : gI} (hY : gOK Y) (h : gis Y 10 i) : gis Y 20 (grf i 12) := by
  have h1 := of_decide_eq_true (List.all_eq_true.mp gk_Mo_rows i ((hY.2.1 i).mp h.2)) h.1
  exact ⟨h1.2, (hY.2.1 _).mpr h1.1⟩
theorem gk_Mo_counts : gNames.all (fun i => decide (gT i = 10 → grf i 13 ∈ gNames ∧ gT (grf i 13) = 20)) = true := by decide +kernel
theorem gis_Mo_counts {Y : gY} {i : gI} (hY : gOK Y) (h : gis Y 10 i) : gis Y 20 (grf i 13) := by
  have h1 := of_decide_eq_true (List.all_eq_true.mp gk_Mo_counts i ((hY.2.1 i).mp h.2)) h.1
  exact ⟨h1.2, (hY.2.1 _).mpr h1.1⟩
theorem gk_Mo_sizes : gNames.all (fun i => decide (gT i = 10 → grf i 14 ∈ gNames ∧ gT (grf i 14) = 20)) = true := by decide +kernel
theorem gis_Mo_sizes {Y : gY} {i : gI} (hY : gOK Y) (h : gis Y 10 i) : gis Y 20 (grf i 14) := by
  have h1 := of_decide_eq_true (List.all_eq_true.mp gk_Mo_sizes i ((hY.2.1 i).mp h.2)) h.1
  exact ⟨h1.2, (hY.2.1 _).mpr h1.1⟩
theorem gk_Mo_there : gNames.all (fun i => decide (gT i = 10 → grf i 15 ∈ gNames ∧ gT (grf i 15) = 22)) = true := by decide +kernel
theorem gis_Mo_there {Y : gY} {i : gI} (hY : gOK Y) (h : gis Y 10 i) : gis Y 22 (grf i 15) := by
  have h1 := of_decide_eq_true (List.all_eq_true.mp gk_Mo_there i ((hY.2.1 i).mp h.2)) h.1
  exact ⟨h1.2, (hY.2.1 _).mpr h1.1⟩
theorem gk_Mo_lows : gNames.all (fun i => decide (gT i = 10 → grf i 16 ∈ gNames ∧ gT (grf i 16) = 20)) = true := by decide +kernel
theorem gis_Mo_lows {Y : gY} {i : gI} (hY : gOK Y) (h : gis Y 10 i) : gis Y 20 (grf i 16) := by
  have h1 := of_decide_eq_true (List.all_eq_true.mp gk_Mo_lows i ((hY.2.1 i).mp h.2)) h.1
  exact ⟨h1.2, (hY.2.1 _).mpr h1.1⟩
theorem gk_Mo_shared : gNames.all (fun i => decide (gT i = 10 → grf i 17 ∈ gNames ∧ gT (grf i 17) = 20)) = true := by decide +kernel
theorem gis_Mo_shared {Y : gY} {i : gI} (hY : gOK Y) (h : gis Y 10 i) : gis Y 20 (grf i 17) := by
  have h1 := of_decide_eq_true (List.all_eq_true.mp gk_Mo_shared i ((hY.2.1 i).mp h.2)) h.1
  exact ⟨h1.2, (hY.2.1 _).mpr h1.1⟩
theorem gk_Mo_keeps : gNames.all (fun i => decide (gT i = 10 → grf i 18 ∈ gNames ∧ gT (grf i 18) = 20)) = true := by decide +kernel
theorem gis_Mo_keeps {Y : gY} {i : gI} (hY : gOK Y) (h : gis Y 10 i) : gis Y 20 (grf i 18) := by
  have h1 := of_decide_eq_true (List.all_eq_true.mp gk_Mo_keeps i ((hY.2.1 i).mp h.2)) h.1
  exact ⟨h1.2, (hY.2.1 _).mpr h1.1⟩
theorem gk_Mo_order : gNames.all (fun i => decide (gT i = 10 → grf i 31 ∈ gNames ∧ gT (grf i 31) = 20)) = true := by decide +kernel
theorem gis_Mo_order {Y : gY} {i : gI} (hY : gOK Y) (h : gis Y 10 i) : gis Y 20 (grf i 31) := by
  have h1 := of_decide_eq_true (List.all_eq_true.mp gk_Mo_order i ((hY.2.1 i).mp h.2)) h.1
  exact ⟨h1.2, (hY.2.1 _).mpr h1.1⟩
theorem gk_Mo_entries : gNames.all (fun i => decide (gT i = 10 → grf i 32 ∈ gNames ∧ gT (grf i 32) = 20)) = true := by decide +kernel
theorem gis_Mo_entries {Y : gY} {i : gI} (hY : gOK Y) (h : gis Y 10 i) : gis Y 20 (grf i 32) := by
  have h1 := of_decide_eq_true (List.all_eq_true.mp gk_Mo_entries i ((hY.2.1 i).mp h.2)) h.1
  exact ⟨h1.2, (hY.2.1 _).mpr h1.1⟩
theorem gk_Mo_fed : gNames.all (fun i => decide (gT i = 10 → grf i 34 ∈ gNames ∧ gT (grf i 34) = 20)) = true := by decide +kernel
theorem gis_Mo_fed {Y : gY} {i : gI} (hY : gOK Y) (h : gis Y 10 i) : gis Y 20 (grf i 34) := by
  have h1 := of_decide_eq_true (List.all_eq_true.mp gk_Mo_fed i ((hY.2.1 i).mp h.2)) h.1
  exact ⟨h1.2, (hY.2.1 _).mpr h1.1⟩
theorem gk_file : gNames.all (fun i => decide (gT i = 24 → i = (10, 0))) = true := by decide +kernel
theorem gk_elem : (List.range 16).all (fun f => decide (grf (10, 0) f ∈ gNames ∧ gT (grf (10, 0) f) = 1)) = true := by decide +kernel
theorem gis_elem_DiskFile {Y : gY} {i : gI} {x : Int32} (hY : gOK Y) (h : gis Y 24 i) (hin : vp_in x (gLn Y i)) : gis Y 1 (grf i x.toNatClampNeg) := by
  have h1 := of_decide_eq_true (List.all_eq_true.mp gk_file i ((hY.2.1 i).mp h.2)) h.1
  subst h1
  rw [hY.2.2] at hin
  have hlt : x.toNatClampNeg < 16 := Nat.not_le.mp fun q => hin (Or.inr q)
  have h2 := of_decide_eq_true (List.all_eq_true.mp gk_elem _ (List.mem_range.mpr hlt))
  exact ⟨h2.2, (hY.2.1 _).mpr h2.1⟩
