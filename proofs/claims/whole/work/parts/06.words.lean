theorem fw_OF_12 : gFl gCl gTs "ObjectFile" 12 7 0 := ⟨_, _, _, rfl, in_OF, by decide, gT0 (gI1 233 rfl) rfl⟩
theorem fw_OF_16 : gFl gCl gTs "ObjectFile" 16 7 1 := ⟨_, _, _, rfl, in_OF, by decide, gT0 (gI1 234 rfl) rfl⟩
theorem fw_OF_22 : gFl gCl gTs "ObjectFile" 22 7 2 := ⟨_, _, _, rfl, in_OF, by decide, gT0 (gI1 235 rfl) rfl⟩
theorem fw_OF_31 : gFl gCl gTs "ObjectFile" 31 7 3 := ⟨_, _, _, rfl, in_OF, by decide, gT0 (gI1 236 rfl) rfl⟩
theorem fw_OF_38 : gFl gCl gTs "ObjectFile" 38 7 4 := ⟨_, _, _, rfl, in_OF, by decide, gT0 (gI1 237 rfl) rfl⟩
theorem fw_OF_47 : gFl gCl gTs "ObjectFile" 47 7 5 := ⟨_, _, _, rfl, in_OF, by decide, gT0 (gI1 238 rfl) rfl⟩
theorem fw_OF_56 : gFl gCl gTs "ObjectFile" 56 7 6 := ⟨_, _, _, rfl, in_OF, by decide, gT0 (gI1 239 rfl) rfl⟩
theorem fw_OF_60 : gFl gCl gTs "ObjectFile" 60 7 7 := ⟨_, _, _, rfl, in_OF, by decide, gT0 (gI2 0 rfl) rfl⟩
theorem fw_OF_67 : gFl gCl gTs "ObjectFile" 67 7 8 := ⟨_, _, _, rfl, in_OF, by decide, gT0 (gI2 1 rfl) rfl⟩
theorem fw_OF_75 : gFn gCl gTs gNw "ObjectFile" 75 0 1 := ⟨_, _, _, "ObjectFile", rfl, in_CT, by decide, List.mem_filter.mpr ⟨gI1 35 rfl, rfl⟩⟩
theorem fw_OF_79 : gFn gCl gTs gNw "ObjectFile" 79 0 2 := ⟨_, _, _, "ObjectFile", rfl, in_CT, by decide, List.mem_filter.mpr ⟨gI1 39 rfl, rfl⟩⟩
theorem fw_OF_121 : gFn gCl gTs gNw "ObjectFile" 121 0 7 := ⟨_, _, _, "ObjectFile", rfl, in_CT, by decide, List.mem_filter.mpr ⟨gI1 51 rfl, rfl⟩⟩
theorem fw_OF_134 : gFn gCl gTs gNw "ObjectFile" 134 2 1 := ⟨_, _, _, "ObjectFile", rfl, in_FB, by decide, List.mem_filter.mpr ⟨gI1 89 rfl, rfl⟩⟩
theorem fw_OF_151 : gFn gCl gTs gNw "ObjectFile" 151 3 0 := ⟨_, _, _, "ObjectFile", rfl, in_FI, by decide, List.mem_filter.mpr ⟨gI1 169 rfl, rfl⟩⟩
theorem fw_OF_169 : gFn gCl gTs gNw "ObjectFile" 169 0 4 := ⟨_, _, _, "ObjectFile", rfl, in_CT, by decide, List.mem_filter.mpr ⟨gI1 45 rfl, rfl⟩⟩
theorem fw_OF_172 : gFn gCl gTs gNw "ObjectFile" 172 0 9 := ⟨_, _, _, "ObjectFile", rfl, in_CT, by decide, List.mem_filter.mpr ⟨gI1 55 rfl, rfl⟩⟩
theorem fw_CT_9 : gFl gCl gTs "ObjectFile$Contents" 9 0 0 := ⟨_, _, _, rfl, in_CT, by decide, gT0 (gI1 31 rfl) rfl⟩
theorem fw_CT_15 : gFl gCl gTs "ObjectFile$Contents" 15 0 1 := ⟨_, _, _, rfl, in_CT, by decide, gT0 (gI1 34 rfl) rfl⟩
theorem fw_CT_19 : gFl gCl gTs "ObjectFile$Contents" 19 0 2 := ⟨_, _, _, rfl, in_CT, by decide, gT0 (gI1 38 rfl) rfl⟩
theorem fw_CT_22 : gFl gCl gTs "ObjectFile$Contents" 22 0 3 := ⟨_, _, _, rfl, in_CT, by decide, gT0 (gI1 42 rfl) rfl⟩
theorem fw_CT_25 : gFl gCl gTs "ObjectFile$Contents" 25 0 5 := ⟨_, _, _, rfl, in_CT, by decide, gT0 (gI1 46 rfl) rfl⟩
theorem fw_CT_28 : gFl gCl gTs "ObjectFile$Contents" 28 0 6 := ⟨_, _, _, rfl, in_CT, by decide, gT0 (gI1 47 rfl) rfl⟩
theorem fw_CT_31 : gFl gCl gTs "ObjectFile$Contents" 31 0 8 := ⟨_, _, _, rfl, in_CT, by decide, gT0 (gI1 52 rfl) rfl⟩
theorem fw_CT_40 : gFl gCl gTs "ObjectFile$Contents" 40 0 4 := ⟨_, _, _, rfl, in_CT, by decide, gT0 (gI1 43 rfl) rfl⟩
theorem fw_CT_44 : gFl gCl gTs "ObjectFile$Contents" 44 0 7 := ⟨_, _, _, rfl, in_CT, by decide, gT0 (gI1 49 rfl) rfl⟩
theorem fw_CT_47 : gFl gCl gTs "ObjectFile$Contents" 47 0 9 := ⟨_, _, _, rfl, in_CT, by decide, gT0 (gI1 53 rfl) rfl⟩
theorem fw_DI_9 : gFl gCl gTs "ObjectFile$Directory" 9 1 2 := ⟨_, _, _, rfl, in_DI, by decide, gT0 (gI1 181 rfl) rfl⟩
theorem fw_DI_15 : gFl gCl gTs "ObjectFile$Directory" 15 1 3 := ⟨_, _, _, rfl, in_DI, by decide, gT0 (gI1 182 rfl) rfl⟩
theorem fw_DI_18 : gFl gCl gTs "ObjectFile$Directory" 18 1 4 := ⟨_, _, _, rfl, in_DI, by decide, gT0 (gI1 184 rfl) rfl⟩
theorem fw_DI_21 : gFl gCl gTs "ObjectFile$Directory" 21 1 5 := ⟨_, _, _, rfl, in_DI, by decide, gT0 (gI1 186 rfl) rfl⟩
theorem fw_DI_24 : gFl gCl gTs "ObjectFile$Directory" 24 1 6 := ⟨_, _, _, rfl, in_DI, by decide, gT0 (gI1 188 rfl) rfl⟩
theorem fw_DI_27 : gFl gCl gTs "ObjectFile$Directory" 27 1 0 := ⟨_, _, _, rfl, in_DI, by decide, gT0 (gI1 179 rfl) rfl⟩
theorem fw_DI_31 : gFl gCl gTs "ObjectFile$Directory" 31 1 1 := ⟨_, _, _, rfl, in_DI, by decide, gT0 (gI1 180 rfl) rfl⟩
theorem fw_DI_35 : gFl gCl gTs "ObjectFile$Directory" 35 1 7 := ⟨_, _, _, rfl, in_DI, by decide, gT0 (gI1 190 rfl) rfl⟩
theorem fw_DI_51 : gFl gCl gTs "ObjectFile$Directory" 51 1 8 := ⟨_, _, _, rfl, in_DI, by decide, gT0 (gI1 191 rfl) rfl⟩
theorem fw_DI_64 : gFl gCl gTs "ObjectFile$Directory" 64 1 9 := ⟨_, _, _, rfl, in_DI, by decide, gT0 (gI1 192 rfl) rfl⟩
theorem fw_DI_85 : gFn gCl gTs gNw "ObjectFile$Directory" 85 2 1 := ⟨_, _, _, "ObjectFile", rfl, in_FB, by decide, List.mem_filter.mpr ⟨gI1 88 rfl, rfl⟩⟩
theorem fw_FB_9 : gFl gCl gTs "ObjectFile$FileBytes" 9 2 0 := ⟨_, _, _, rfl, in_FB, by decide, gT0 (gI1 85 rfl) rfl⟩
theorem fw_FB_15 : gFl gCl gTs "ObjectFile$FileBytes" 15 2 1 := ⟨_, _, _, rfl, in_FB, by decide, gT0 (gI1 87 rfl) rfl⟩
theorem fw_FI_9 : gFl gCl gTs "ObjectFile$Finding" 9 3 0 := ⟨_, _, _, rfl, in_FI, by decide, gT0 (gI1 168 rfl) rfl⟩
theorem fw_RE_9 : gFl gCl gTs "ObjectFile$Reader" 9 4 0 := ⟨_, _, _, rfl, in_RE, by decide, gT0 (gI1 220 rfl) rfl⟩
theorem fw_RE_15 : gFl gCl gTs "ObjectFile$Reader" 15 4 1 := ⟨_, _, _, rfl, in_RE, by decide, gT0 (gI1 221 rfl) rfl⟩
theorem fw_RE_19 : gFl gCl gTs "ObjectFile$Reader" 19 4 2 := ⟨_, _, _, rfl, in_RE, by decide, gT0 (gI1 222 rfl) rfl⟩
theorem fw_RE_33 : gFn gCl gTs gNw "ObjectFile$Reader" 33 1 5 := ⟨_, _, _, "ObjectFile", rfl, in_DI, by decide, List.mem_filter.mpr ⟨gI1 187 rfl, rfl⟩⟩
theorem fw_RE_39 : gFn gCl gTs gNw "ObjectFile$Reader" 39 1 4 := ⟨_, _, _, "ObjectFile", rfl, in_DI, by decide, List.mem_filter.mpr ⟨gI1 185 rfl, rfl⟩⟩
theorem fw_RE_54 : gFl gCl gTs "ObjectFile$Reader" 54 4 3 := ⟨_, _, _, rfl, in_RE, by decide, gT0 (gI1 223 rfl) rfl⟩
theorem fw_RE_64 : gFn gCl gTs gNw "ObjectFile$Reader" 64 1 3 := ⟨_, _, _, "ObjectFile", rfl, in_DI, by decide, List.mem_filter.mpr ⟨gI1 183 rfl, rfl⟩⟩
theorem fw_RE_147 : gFn gCl gTs gNw "ObjectFile$Reader" 147 0 1 := ⟨_, _, _, "ObjectFile", rfl, in_CT, by decide, List.mem_filter.mpr ⟨gI1 37 rfl, rfl⟩⟩
theorem fw_RE_148 : gFn gCl gTs gNw "ObjectFile$Reader" 148 0 2 := ⟨_, _, _, "ObjectFile", rfl, in_CT, by decide, List.mem_filter.mpr ⟨gI1 41 rfl, rfl⟩⟩
theorem fw_RE_151 : gFn gCl gTs gNw "ObjectFile$Reader" 151 1 6 := ⟨_, _, _, "ObjectFile", rfl, in_DI, by decide, List.mem_filter.mpr ⟨gI1 189 rfl, rfl⟩⟩
theorem fw_RE_152 : gFn gCl gTs gNw "ObjectFile$Reader" 152 0 0 := ⟨_, _, _, "ObjectFile", rfl, in_CT, by decide, List.mem_filter.mpr ⟨gI1 33 rfl, rfl⟩⟩
theorem fw_RE_170 : gFn gCl gTs gNw "ObjectFile$Reader" 170 2 0 := ⟨_, _, _, "ObjectFile", rfl, in_FB, by decide, List.mem_filter.mpr ⟨gI1 86 rfl, rfl⟩⟩
theorem fw_ST_9 : gFl gCl gTs "ObjectFile$Strings" 9 5 0 := ⟨_, _, _, rfl, in_ST, by decide, gT0 (gI1 107 rfl) rfl⟩
theorem fw_ST_15 : gFl gCl gTs "ObjectFile$Strings" 15 5 1 := ⟨_, _, _, rfl, in_ST, by decide, gT0 (gI1 109 rfl) rfl⟩
theorem fw_WR_12 : gFl gCl gTs "ObjectFile$Writer" 12 6 2 := ⟨_, _, _, rfl, in_WR, by decide, gT0 (gI1 118 rfl) rfl⟩
theorem fw_WR_18 : gFl gCl gTs "ObjectFile$Writer" 18 6 3 := ⟨_, _, _, rfl, in_WR, by decide, gT0 (gI1 119 rfl) rfl⟩
theorem fw_WR_21 : gFl gCl gTs "ObjectFile$Writer" 21 6 4 := ⟨_, _, _, rfl, in_WR, by decide, gT0 (gI1 120 rfl) rfl⟩
theorem fw_WR_25 : gFl gCl gTs "ObjectFile$Writer" 25 6 5 := ⟨_, _, _, rfl, in_WR, by decide, gT0 (gI1 121 rfl) rfl⟩
theorem fw_WR_29 : gFl gCl gTs "ObjectFile$Writer" 29 6 6 := ⟨_, _, _, rfl, in_WR, by decide, gT0 (gI1 122 rfl) rfl⟩
theorem fw_WR_32 : gFl gCl gTs "ObjectFile$Writer" 32 6 7 := ⟨_, _, _, rfl, in_WR, by decide, gT0 (gI1 123 rfl) rfl⟩
theorem fw_WR_35 : gFl gCl gTs "ObjectFile$Writer" 35 6 8 := ⟨_, _, _, rfl, in_WR, by decide, gT0 (gI1 124 rfl) rfl⟩
theorem fw_WR_38 : gFl gCl gTs "ObjectFile$Writer" 38 6 9 := ⟨_, _, _, rfl, in_WR, by decide, gT0 (gI1 125 rfl) rfl⟩
theorem fw_WR_41 : gFl gCl gTs "ObjectFile$Writer" 41 6 10 := ⟨_, _, _, rfl, in_WR, by decide, gT0 (gI1 126 rfl) rfl⟩
theorem fw_WR_44 : gFl gCl gTs "ObjectFile$Writer" 44 6 11 := ⟨_, _, _, rfl, in_WR, by decide, gT0 (gI1 127 rfl) rfl⟩
theorem fw_WR_47 : gFl gCl gTs "ObjectFile$Writer" 47 6 0 := ⟨_, _, _, rfl, in_WR, by decide, gT0 (gI1 116 rfl) rfl⟩
theorem fw_WR_51 : gFl gCl gTs "ObjectFile$Writer" 51 6 1 := ⟨_, _, _, rfl, in_WR, by decide, gT0 (gI1 117 rfl) rfl⟩
theorem fw_WR_82 : gFl gCl gTs "ObjectFile$Writer" 82 6 14 := ⟨_, _, _, rfl, in_WR, by decide, gT0 (gI1 130 rfl) rfl⟩
theorem fw_WR_86 : gFl gCl gTs "ObjectFile$Writer" 86 6 13 := ⟨_, _, _, rfl, in_WR, by decide, gT0 (gI1 129 rfl) rfl⟩
theorem fw_WR_104 : gFn gCl gTs gNw "ObjectFile$Writer" 104 0 7 := ⟨_, _, _, "ObjectFile", rfl, in_CT, by decide, List.mem_filter.mpr ⟨gI1 50 rfl, rfl⟩⟩
theorem fw_WR_115 : gFl gCl gTs "ObjectFile$Writer" 115 6 12 := ⟨_, _, _, rfl, in_WR, by decide, gT0 (gI1 128 rfl) rfl⟩
theorem fw_WR_121 : gFn gCl gTs gNw "ObjectFile$Writer" 121 0 6 := ⟨_, _, _, "ObjectFile", rfl, in_CT, by decide, List.mem_filter.mpr ⟨gI1 48 rfl, rfl⟩⟩
theorem fw_WR_127 : gFn gCl gTs gNw "ObjectFile$Writer" 127 0 1 := ⟨_, _, _, "ObjectFile", rfl, in_CT, by decide, List.mem_filter.mpr ⟨gI1 36 rfl, rfl⟩⟩
theorem fw_WR_130 : gFn gCl gTs gNw "ObjectFile$Writer" 130 0 4 := ⟨_, _, _, "ObjectFile", rfl, in_CT, by decide, List.mem_filter.mpr ⟨gI1 44 rfl, rfl⟩⟩
theorem fw_WR_137 : gFn gCl gTs gNw "ObjectFile$Writer" 137 5 1 := ⟨_, _, _, "ObjectFile", rfl, in_ST, by decide, List.mem_filter.mpr ⟨gI1 110 rfl, rfl⟩⟩
theorem fw_WR_171 : gFn gCl gTs gNw "ObjectFile$Writer" 171 0 2 := ⟨_, _, _, "ObjectFile", rfl, in_CT, by decide, List.mem_filter.mpr ⟨gI1 40 rfl, rfl⟩⟩
theorem fw_WR_192 : gFn gCl gTs gNw "ObjectFile$Writer" 192 0 0 := ⟨_, _, _, "ObjectFile", rfl, in_CT, by decide, List.mem_filter.mpr ⟨gI1 32 rfl, rfl⟩⟩
theorem fw_WR_208 : gFn gCl gTs gNw "ObjectFile$Writer" 208 5 0 := ⟨_, _, _, "ObjectFile", rfl, in_ST, by decide, List.mem_filter.mpr ⟨gI1 108 rfl, rfl⟩⟩
theorem fw_WR_211 : gFn gCl gTs gNw "ObjectFile$Writer" 211 0 9 := ⟨_, _, _, "ObjectFile", rfl, in_CT, by decide, List.mem_filter.mpr ⟨gI1 54 rfl, rfl⟩⟩
theorem fw_MO_7 : gFl gCl gTs "ObjectFileModel" 7 8 0 := ⟨_, _, _, rfl, in_MO, by decide, gT0 (gI4 216 rfl) rfl⟩
theorem fw_MO_13 : gFl gCl gTs "ObjectFileModel" 13 8 1 := ⟨_, _, _, rfl, in_MO, by decide, gT0 (gI4 217 rfl) rfl⟩
theorem fw_MO_16 : gFl gCl gTs "ObjectFileModel" 16 8 2 := ⟨_, _, _, rfl, in_MO, by decide, gT0 (gI4 218 rfl) rfl⟩
theorem fw_MO_19 : gFl gCl gTs "ObjectFileModel" 19 8 3 := ⟨_, _, _, rfl, in_MO, by decide, gT0 (gI4 219 rfl) rfl⟩
theorem fw_MO_22 : gFl gCl gTs "ObjectFileModel" 22 8 4 := ⟨_, _, _, rfl, in_MO, by decide, gT0 (gI4 220 rfl) rfl⟩
theorem fw_MO_25 : gFl gCl gTs "ObjectFileModel" 25 8 5 := ⟨_, _, _, rfl, in_MO, by decide, gT0 (gI4 221 rfl) rfl⟩
theorem fw_MO_28 : gFl gCl gTs "ObjectFileModel" 28 8 6 := ⟨_, _, _, rfl, in_MO, by decide, gT0 (gI4 222 rfl) rfl⟩
theorem fw_MO_31 : gFl gCl gTs "ObjectFileModel" 31 8 7 := ⟨_, _, _, rfl, in_MO, by decide, gT0 (gI4 223 rfl) rfl⟩
theorem fw_MO_34 : gFl gCl gTs "ObjectFileModel" 34 8 8 := ⟨_, _, _, rfl, in_MO, by decide, gT0 (gI4 224 rfl) rfl⟩
theorem fw_MO_37 : gFl gCl gTs "ObjectFileModel" 37 8 9 := ⟨_, _, _, rfl, in_MO, by decide, gT0 (gI4 225 rfl) rfl⟩
theorem fw_MO_40 : gFl gCl gTs "ObjectFileModel" 40 8 10 := ⟨_, _, _, rfl, in_MO, by decide, gT0 (gI4 226 rfl) rfl⟩
theorem fw_MO_43 : gFl gCl gTs "ObjectFileModel" 43 8 11 := ⟨_, _, _, rfl, in_MO, by decide, gT0 (gI4 227 rfl) rfl⟩
theorem fw_MO_46 : gFl gCl gTs "ObjectFileModel" 46 8 12 := ⟨_, _, _, rfl, in_MO, by decide, gT0 (gI4 228 rfl) rfl⟩
theorem fw_MO_49 : gFl gCl gTs "ObjectFileModel" 49 8 13 := ⟨_, _, _, rfl, in_MO, by decide, gT0 (gI4 229 rfl) rfl⟩
theorem fw_MO_52 : gFl gCl gTs "ObjectFileModel" 52 8 14 := ⟨_, _, _, rfl, in_MO, by decide, gT0 (gI4 230 rfl) rfl⟩
theorem fw_MO_55 : gFl gCl gTs "ObjectFileModel" 55 8 15 := ⟨_, _, _, rfl, in_MO, by decide, gT0 (gI4 231 rfl) rfl⟩
theorem fw_MO_58 : gFl gCl gTs "ObjectFileModel" 58 8 16 := ⟨_, _, _, rfl, in_MO, by decide, gT0 (gI4 232 rfl) rfl⟩
theorem fw_MO_61 : gFl gCl gTs "ObjectFileModel" 61 8 17 := ⟨_, _, _, rfl, in_MO, by decide, gT0 (gI4 233 rfl) rfl⟩
theorem fw_MO_64 : gFl gCl gTs "ObjectFileModel" 64 8 18 := ⟨_, _, _, rfl, in_MO, by decide, gT0 (gI4 234 rfl) rfl⟩
theorem fw_MO_67 : gFl gCl gTs "ObjectFileModel" 67 8 19 := ⟨_, _, _, rfl, in_MO, by decide, gT0 (gI4 235 rfl) rfl⟩
theorem fw_MO_70 : gFl gCl gTs "ObjectFileModel" 70 8 21 := ⟨_, _, _, rfl, in_MO, by decide, gT0 (gI4 237 rfl) rfl⟩
theorem fw_MO_73 : gFl gCl gTs "ObjectFileModel" 73 8 23 := ⟨_, _, _, rfl, in_MO, by decide, gT0 (gI4 239 rfl) rfl⟩
theorem fw_MO_77 : gFl gCl gTs "ObjectFileModel" 77 8 24 := ⟨_, _, _, rfl, in_MO, by decide, gT0 (gI5 0 rfl) rfl⟩
theorem fw_MO_80 : gFl gCl gTs "ObjectFileModel" 80 8 25 := ⟨_, _, _, rfl, in_MO, by decide, gT0 (gI5 1 rfl) rfl⟩
theorem fw_MO_83 : gFl gCl gTs "ObjectFileModel" 83 8 26 := ⟨_, _, _, rfl, in_MO, by decide, gT0 (gI5 2 rfl) rfl⟩
theorem fw_MO_86 : gFl gCl gTs "ObjectFileModel" 86 8 27 := ⟨_, _, _, rfl, in_MO, by decide, gT0 (gI5 3 rfl) rfl⟩
theorem fw_MO_89 : gFl gCl gTs "ObjectFileModel" 89 8 28 := ⟨_, _, _, rfl, in_MO, by decide, gT0 (gI5 4 rfl) rfl⟩
theorem fw_MO_92 : gFl gCl gTs "ObjectFileModel" 92 8 29 := ⟨_, _, _, rfl, in_MO, by decide, gT0 (gI5 5 rfl) rfl⟩
theorem fw_MO_95 : gFl gCl gTs "ObjectFileModel" 95 8 31 := ⟨_, _, _, rfl, in_MO, by decide, gT0 (gI5 7 rfl) rfl⟩
theorem fw_MO_98 : gFl gCl gTs "ObjectFileModel" 98 8 33 := ⟨_, _, _, rfl, in_MO, by decide, gT0 (gI5 9 rfl) rfl⟩
theorem fw_MO_101 : gFl gCl gTs "ObjectFileModel" 101 8 34 := ⟨_, _, _, rfl, in_MO, by decide, gT0 (gI5 10 rfl) rfl⟩
theorem fw_MO_104 : gFl gCl gTs "ObjectFileModel" 104 8 35 := ⟨_, _, _, rfl, in_MO, by decide, gT0 (gI5 11 rfl) rfl⟩
theorem fw_MO_107 : gFl gCl gTs "ObjectFileModel" 107 8 37 := ⟨_, _, _, rfl, in_MO, by decide, gT0 (gI5 13 rfl) rfl⟩
theorem fw_MO_110 : gFl gCl gTs "ObjectFileModel" 110 8 38 := ⟨_, _, _, rfl, in_MO, by decide, gT0 (gI5 14 rfl) rfl⟩
theorem fw_MO_117 : gFl gCl gTs "ObjectFileModel" 117 8 36 := ⟨_, _, _, rfl, in_MO, by decide, gT0 (gI5 12 rfl) rfl⟩
theorem fw_MO_134 : gFl gCl gTs "ObjectFileModel" 134 8 20 := ⟨_, _, _, rfl, in_MO, by decide, gT0 (gI4 236 rfl) rfl⟩
theorem fw_MO_162 : gFl gCl gTs "ObjectFileModel" 162 8 30 := ⟨_, _, _, rfl, in_MO, by decide, gT0 (gI5 6 rfl) rfl⟩
theorem fw_MO_165 : gFl gCl gTs "ObjectFileModel" 165 8 32 := ⟨_, _, _, rfl, in_MO, by decide, gT0 (gI5 8 rfl) rfl⟩
theorem fw_MO_195 : gFl gCl gTs "ObjectFileModel" 195 8 40 := ⟨_, _, _, rfl, in_MO, by decide, gT0 (gI5 16 rfl) rfl⟩
theorem fw_MO_233 : gFl gCl gTs "ObjectFileModel" 233 8 22 := ⟨_, _, _, rfl, in_MO, by decide, gT0 (gI4 238 rfl) rfl⟩
theorem fw_MO_254 : gFl gCl gTs "ObjectFileModel" 254 8 39 := ⟨_, _, _, rfl, in_MO, by decide, gT0 (gI5 15 rfl) rfl⟩
theorem pw_OF_8 : gPk gCl 7 8 := by
  intro C T N h
  have h : some (cR_OF, cT_OF, 9) = some (C, T, N) := h
  cases h
  exact ⟨⟨cY_OF, by decide +kernel⟩, by decide +kernel, rfl, by decide +kernel⟩
theorem pw_CT_4 : gPk gCl 0 4 := by
  intro C T N h
  have h : some (cR_CT, cT_CT, 10) = some (C, T, N) := h
  cases h
  exact ⟨⟨cY_CT, by decide +kernel⟩, by decide +kernel, rfl, by decide +kernel⟩
theorem pw_CT_7 : gPk gCl 0 7 := by
  intro C T N h
  have h : some (cR_CT, cT_CT, 10) = some (C, T, N) := h
  cases h
  exact ⟨⟨cY_CT, by decide +kernel⟩, by decide +kernel, rfl, by decide +kernel⟩
theorem pw_CT_9 : gPk gCl 0 9 := by
  intro C T N h
  have h : some (cR_CT, cT_CT, 10) = some (C, T, N) := h
  cases h
  exact ⟨⟨cY_CT, by decide +kernel⟩, by decide +kernel, rfl, by decide +kernel⟩
theorem pw_DI_7 : gPk gCl 1 7 := by
  intro C T N h
  have h : some (cR_DI, cT_DI, 10) = some (C, T, N) := h
  cases h
  exact ⟨⟨cY_DI, by decide +kernel⟩, by decide +kernel, rfl, by decide +kernel⟩
theorem pw_DI_8 : gPk gCl 1 8 := by
  intro C T N h
  have h : some (cR_DI, cT_DI, 10) = some (C, T, N) := h
  cases h
  exact ⟨⟨cY_DI, by decide +kernel⟩, by decide +kernel, rfl, by decide +kernel⟩
theorem pw_DI_9 : gPk gCl 1 9 := by
  intro C T N h
  have h : some (cR_DI, cT_DI, 10) = some (C, T, N) := h
  cases h
  exact ⟨⟨cY_DI, by decide +kernel⟩, by decide +kernel, rfl, by decide +kernel⟩
theorem pw_FB_1 : gPk gCl 2 1 := by
  intro C T N h
  have h : some (cR_FB, cT_FB, 2) = some (C, T, N) := h
  cases h
  exact ⟨⟨cY_FB, by decide +kernel⟩, by decide +kernel, rfl, by decide +kernel⟩
theorem pw_FI_0 : gPk gCl 3 0 := by
  intro C T N h
  have h : some (cR_FI, cT_FI, 1) = some (C, T, N) := h
  cases h
  exact ⟨⟨cY_FI, by decide +kernel⟩, by decide +kernel, rfl, by decide +kernel⟩
theorem pw_RE_3 : gPk gCl 4 3 := by
  intro C T N h
  have h : some (cR_RE, cT_RE, 4) = some (C, T, N) := h
  cases h
  exact ⟨⟨cY_RE, by decide +kernel⟩, by decide +kernel, rfl, by decide +kernel⟩
theorem pw_ST_1 : gPk gCl 5 1 := by
  intro C T N h
  have h : some (cR_ST, cT_ST, 2) = some (C, T, N) := h
  cases h
  exact ⟨⟨cY_ST, by decide +kernel⟩, by decide +kernel, rfl, by decide +kernel⟩
theorem pw_WR_12 : gPk gCl 6 12 := by
  intro C T N h
  have h : some (cR_WR, cT_WR, 15) = some (C, T, N) := h
  cases h
  exact ⟨⟨cY_WR, by decide +kernel⟩, by decide +kernel, rfl, by decide +kernel⟩
theorem pw_WR_13 : gPk gCl 6 13 := by
  intro C T N h
  have h : some (cR_WR, cT_WR, 15) = some (C, T, N) := h
  cases h
  exact ⟨⟨cY_WR, by decide +kernel⟩, by decide +kernel, rfl, by decide +kernel⟩
theorem pw_WR_14 : gPk gCl 6 14 := by
  intro C T N h
  have h : some (cR_WR, cT_WR, 15) = some (C, T, N) := h
  cases h
  exact ⟨⟨cY_WR, by decide +kernel⟩, by decide +kernel, rfl, by decide +kernel⟩
theorem pw_MO_20 : gPk gCl 8 20 := by
  intro C T N h
  have h : some (cR_MO, cT_MO, 41) = some (C, T, N) := h
  cases h
  exact ⟨⟨cY_MO, by decide +kernel⟩, by decide +kernel, rfl, by decide +kernel⟩
theorem pw_MO_22 : gPk gCl 8 22 := by
  intro C T N h
  have h : some (cR_MO, cT_MO, 41) = some (C, T, N) := h
  cases h
  exact ⟨⟨cY_MO, by decide +kernel⟩, by decide +kernel, rfl, by decide +kernel⟩
theorem pw_MO_23 : gPk gCl 8 23 := by
  intro C T N h
  have h : some (cR_MO, cT_MO, 41) = some (C, T, N) := h
  cases h
  exact ⟨⟨cY_MO, by decide +kernel⟩, by decide +kernel, rfl, by decide +kernel⟩
theorem pw_MO_30 : gPk gCl 8 30 := by
  intro C T N h
  have h : some (cR_MO, cT_MO, 41) = some (C, T, N) := h
  cases h
  exact ⟨⟨cY_MO, by decide +kernel⟩, by decide +kernel, rfl, by decide +kernel⟩
theorem pw_MO_32 : gPk gCl 8 32 := by
  intro C T N h
  have h : some (cR_MO, cT_MO, 41) = some (C, T, N) := h
  cases h
  exact ⟨⟨cY_MO, by decide +kernel⟩, by decide +kernel, rfl, by decide +kernel⟩
theorem pw_MO_36 : gPk gCl 8 36 := by
  intro C T N h
  have h : some (cR_MO, cT_MO, 41) = some (C, T, N) := h
  cases h
  exact ⟨⟨cY_MO, by decide +kernel⟩, by decide +kernel, rfl, by decide +kernel⟩
theorem pw_MO_39 : gPk gCl 8 39 := by
  intro C T N h
  have h : some (cR_MO, cT_MO, 41) = some (C, T, N) := h
  cases h
  exact ⟨⟨cY_MO, by decide +kernel⟩, by decide +kernel, rfl, by decide +kernel⟩
theorem pw_MO_40 : gPk gCl 8 40 := by
  intro C T N h
  have h : some (cR_MO, cT_MO, 41) = some (C, T, N) := h
  cases h
  exact ⟨⟨cY_MO, by decide +kernel⟩, by decide +kernel, rfl, by decide +kernel⟩
theorem tw_2 : Cond.initialized "ObjectFile$Contents" ∈ gTs := gT0 (gI1 2 rfl) rfl
theorem tw_3 : Cond.initialized "ObjectFile$FileBytes" ∈ gTs := gT0 (gI1 3 rfl) rfl
theorem tw_4 : Cond.initialized "ObjectFile$Writer" ∈ gTs := gT0 (gI1 4 rfl) rfl
theorem tw_5 : Cond.initialized "ObjectFile$Strings" ∈ gTs := gT0 (gI1 5 rfl) rfl
theorem tw_6 : Cond.initialized "ObjectFile$Finding" ∈ gTs := gT0 (gI1 6 rfl) rfl
theorem tw_7 : Cond.initialized "ObjectFile$Directory" ∈ gTs := gT0 (gI1 7 rfl) rfl
theorem tw_8 : Cond.initialized "ObjectFile$Reader" ∈ gTs := gT0 (gI1 8 rfl) rfl
theorem tw_11 : Cond.initialized "java/lang/System" ∈ gTs := gT0 (gI1 11 rfl) rfl
theorem tw_13 : Cond.initialized "java/lang/Math" ∈ gTs := gT0 (gI1 13 rfl) rfl
theorem tw_22 : Cond.methodLink "ObjectFile" 3 ⟨"java/lang/Object", "<init>", "()V"⟩ ∈ gTs := gT0 (gI1 22 rfl) rfl
theorem tw_23 : Cond.instanceMethod ⟨"java/lang/Object", "<init>", "()V"⟩ ∈ gTs := gT0 (gI1 23 rfl) rfl
theorem tw_25 : Cond.classLink "ObjectFile" 9 "ObjectFile$Contents" ∈ gTs := gT0 (gI1 25 rfl) rfl
theorem tw_26 : Cond.instantiable "ObjectFile$Contents" 10 ∈ gTs := gT0 (gI1 26 rfl) rfl
theorem tw_30 : Cond.methodLink "ObjectFile$Contents" 3 ⟨"java/lang/Object", "<init>", "()V"⟩ ∈ gTs := gT0 (gI1 30 rfl) rfl
theorem tw_77 : Cond.arrayClass FieldType.byte ∈ gTs := gT0 (gI1 77 rfl) rfl
theorem tw_78 : Cond.arrayClass FieldType.int ∈ gTs := gT0 (gI1 78 rfl) rfl
theorem tw_79 : Cond.classLink "ObjectFile" 19 "ObjectFile$FileBytes" ∈ gTs := gT0 (gI1 79 rfl) rfl
theorem tw_80 : Cond.instantiable "ObjectFile$FileBytes" 2 ∈ gTs := gT0 (gI1 80 rfl) rfl
theorem tw_84 : Cond.methodLink "ObjectFile$FileBytes" 3 ⟨"java/lang/Object", "<init>", "()V"⟩ ∈ gTs := gT0 (gI1 84 rfl) rfl
theorem tw_95 : Cond.classLink "ObjectFile" 26 "ObjectFile$Writer" ∈ gTs := gT0 (gI1 95 rfl) rfl
theorem tw_96 : Cond.instantiable "ObjectFile$Writer" 15 ∈ gTs := gT0 (gI1 96 rfl) rfl
theorem tw_100 : Cond.methodLink "ObjectFile$Writer" 3 ⟨"java/lang/Object", "<init>", "()V"⟩ ∈ gTs := gT0 (gI1 100 rfl) rfl
theorem tw_101 : Cond.classLink "ObjectFile$Writer" 9 "ObjectFile$Strings" ∈ gTs := gT0 (gI1 101 rfl) rfl
theorem tw_102 : Cond.instantiable "ObjectFile$Strings" 2 ∈ gTs := gT0 (gI1 102 rfl) rfl
theorem tw_106 : Cond.methodLink "ObjectFile$Strings" 3 ⟨"java/lang/Object", "<init>", "()V"⟩ ∈ gTs := gT0 (gI1 106 rfl) rfl
theorem tw_162 : Cond.classLink "ObjectFile" 35 "ObjectFile$Finding" ∈ gTs := gT0 (gI1 162 rfl) rfl
theorem tw_163 : Cond.instantiable "ObjectFile$Finding" 1 ∈ gTs := gT0 (gI1 163 rfl) rfl
theorem tw_167 : Cond.methodLink "ObjectFile$Finding" 3 ⟨"java/lang/Object", "<init>", "()V"⟩ ∈ gTs := gT0 (gI1 167 rfl) rfl
theorem tw_173 : Cond.classLink "ObjectFile" 42 "ObjectFile$Directory" ∈ gTs := gT0 (gI1 173 rfl) rfl
theorem tw_174 : Cond.instantiable "ObjectFile$Directory" 10 ∈ gTs := gT0 (gI1 174 rfl) rfl
theorem tw_178 : Cond.methodLink "ObjectFile$Directory" 3 ⟨"java/lang/Object", "<init>", "()V"⟩ ∈ gTs := gT0 (gI1 178 rfl) rfl
theorem tw_214 : Cond.classLink "ObjectFile" 51 "ObjectFile$Reader" ∈ gTs := gT0 (gI1 214 rfl) rfl
theorem tw_215 : Cond.instantiable "ObjectFile$Reader" 4 ∈ gTs := gT0 (gI1 215 rfl) rfl
theorem tw_219 : Cond.methodLink "ObjectFile$Reader" 3 ⟨"java/lang/Object", "<init>", "()V"⟩ ∈ gTs := gT0 (gI1 219 rfl) rfl
theorem tw_261 : Cond.methodLink "ObjectFileLaw" 13 ⟨"ObjectFile", "clear", "()V"⟩ ∈ gTs := gT0 (gI2 21 rfl) rfl
theorem tw_269 : Cond.methodLink "ObjectFile$Contents" 34 ⟨"java/util/Arrays", "fill", "([II)V"⟩ ∈ gTs := gT0 (gI2 29 rfl) rfl
theorem tw_272 : Cond.methodLink "ObjectFileLaw" 19 ⟨"ObjectFile", "put", "(IIJ)Z"⟩ ∈ gTs := gT0 (gI2 32 rfl) rfl
theorem tw_280 : Cond.methodLink "ObjectFileLaw" 24 ⟨"ObjectFile", "bss", "(I)Z"⟩ ∈ gTs := gT0 (gI2 40 rfl) rfl
theorem tw_284 : Cond.methodLink "ObjectFileLaw" 29 ⟨"ObjectFile", "align", "(II)Z"⟩ ∈ gTs := gT0 (gI2 44 rfl) rfl
theorem tw_288 : Cond.methodLink "ObjectFileLaw" 34 ⟨"ObjectFile", "start", "(I)Z"⟩ ∈ gTs := gT0 (gI2 48 rfl) rfl
theorem tw_296 : Cond.methodLink "ObjectFile$Contents" 56 ⟨"ObjectFile$Contents", "startOf", "(I)I"⟩ ∈ gTs := gT0 (gI2 56 rfl) rfl
theorem tw_304 : Cond.methodLink "ObjectFileLaw" 38 ⟨"ObjectFile", "letter", "(I)Z"⟩ ∈ gTs := gT0 (gI2 64 rfl) rfl
theorem tw_308 : Cond.methodLink "ObjectFile" 90 ⟨"ObjectFile", "isNameCharacter", "(I)Z"⟩ ∈ gTs := gT0 (gI2 68 rfl) rfl
theorem tw_311 : Cond.methodLink "ObjectFileLaw" 42 ⟨"ObjectFile", "symbol", "(IIIII)I"⟩ ∈ gTs := gT0 (gI2 71 rfl) rfl
theorem tw_315 : Cond.methodLink "ObjectFile" 93 ⟨"ObjectFile", "isBindOrType", "(I)Z"⟩ ∈ gTs := gT0 (gI2 75 rfl) rfl
theorem tw_318 : Cond.constantLong "ObjectFile" 96 4294967296 ∈ gTs := gT0 (gI2 78 rfl) rfl
theorem tw_319 : Cond.methodLink "ObjectFile" 98 ⟨"ObjectFile", "flawOf", "(IIIIJ)I"⟩ ∈ gTs := gT0 (gI2 79 rfl) rfl
theorem tw_322 : Cond.methodLink "ObjectFile" 192 ⟨"ObjectFile", "firstFlaw", "(ZZZ)I"⟩ ∈ gTs := gT0 (gI2 82 rfl) rfl
theorem tw_325 : Cond.methodLink "ObjectFile" 196 ⟨"ObjectFile", "isAlignment", "(J)Z"⟩ ∈ gTs := gT0 (gI2 85 rfl) rfl
theorem tw_328 : Cond.constantLong "ObjectFile" 190 64 ∈ gTs := gT0 (gI2 88 rfl) rfl
theorem tw_333 : Cond.methodLink "ObjectFile$Contents" 68 ⟨"ObjectFile$Contents", "symbolFact", "(II)I"⟩ ∈ gTs := gT0 (gI2 93 rfl) rfl
theorem tw_337 : Cond.methodLink "ObjectFile$Contents" 71 ⟨"ObjectFile$Contents", "hasName", "(I[BI)Z"⟩ ∈ gTs := gT0 (gI2 97 rfl) rfl
theorem tw_341 : Cond.methodLink "ObjectFile$Contents" 75 ⟨"ObjectFile$Contents", "nameCharacter", "(II)I"⟩ ∈ gTs := gT0 (gI2 101 rfl) rfl
theorem tw_349 : Cond.methodLink "ObjectFile$Contents" 50 ⟨"java/lang/System", "arraycopy", "(Ljava/lang/Object;ILjava/lang/Object;II)V"⟩ ∈ gTs := gT0 (gI2 109 rfl) rfl
theorem tw_350 : Cond.static ⟨"java/lang/System", "arraycopy", "(Ljava/lang/Object;ILjava/lang/Object;II)V"⟩ ∈ gTs := gT0 (gI2 110 rfl) rfl
theorem tw_351 : Cond.native ⟨"java/lang/System", "arraycopy", "(Ljava/lang/Object;ILjava/lang/Object;II)V"⟩ ∈ gTs := gT0 (gI2 111 rfl) rfl
theorem tw_356 : Cond.methodLink "ObjectFileLaw" 47 ⟨"ObjectFile", "relocation", "(IIIII)I"⟩ ∈ gTs := gT0 (gI2 116 rfl) rfl
theorem tw_360 : Cond.methodLink "ObjectFile" 114 ⟨"ObjectFile", "kindMayBeIn", "(II)Z"⟩ ∈ gTs := gT0 (gI2 120 rfl) rfl
theorem tw_363 : Cond.methodLink "ObjectFile" 200 ⟨"ObjectFile", "widthOf", "(II)I"⟩ ∈ gTs := gT0 (gI2 123 rfl) rfl
theorem tw_366 : Cond.methodLink "ObjectFile" 118 ⟨"ObjectFile", "addendMayBe", "(II)Z"⟩ ∈ gTs := gT0 (gI2 126 rfl) rfl
theorem tw_369 : Cond.methodLink "ObjectFile" 124 ⟨"ObjectFile", "hasSymbol", "(I)Z"⟩ ∈ gTs := gT0 (gI2 129 rfl) rfl
theorem tw_376 : Cond.methodLink "ObjectFileLaw" 51 ⟨"ObjectFile", "write", "()I"⟩ ∈ gTs := gT0 (gI2 136 rfl) rfl
theorem tw_388 : Cond.methodLink "ObjectFile$Contents" 81 ⟨"ObjectFile$Contents", "latestStart", "()I"⟩ ∈ gTs := gT0 (gI2 148 rfl) rfl
theorem tw_397 : Cond.methodLink "ObjectFile$Contents" 78 ⟨"ObjectFile$Contents", "relocationFact", "(II)I"⟩ ∈ gTs := gT0 (gI2 157 rfl) rfl
theorem tw_402 : Cond.methodLink "ObjectFile$Writer" 67 ⟨"ObjectFile$Writer", "orderSymbols", "()V"⟩ ∈ gTs := gT0 (gI2 162 rfl) rfl
theorem tw_407 : Cond.methodLink "ObjectFile$Writer" 111 ⟨"ObjectFile$Writer", "giveTurn", "(II)V"⟩ ∈ gTs := gT0 (gI2 167 rfl) rfl
theorem tw_411 : Cond.methodLink "ObjectFile$Writer" 70 ⟨"ObjectFile$Writer", "gatherNames", "()V"⟩ ∈ gTs := gT0 (gI2 171 rfl) rfl
theorem tw_423 : Cond.methodLink "ObjectFile$Strings" 19 ⟨"ObjectFile$Strings", "standsAt", "(I[BII)Z"⟩ ∈ gTs := gT0 (gI2 183 rfl) rfl
theorem tw_427 : Cond.methodLink "ObjectFile$Strings" 23 ⟨"ObjectFile$Strings", "putBehind", "([BII)I"⟩ ∈ gTs := gT0 (gI2 187 rfl) rfl
theorem tw_431 : Cond.methodLink "ObjectFile$Strings" 27 ⟨"java/lang/System", "arraycopy", "(Ljava/lang/Object;ILjava/lang/Object;II)V"⟩ ∈ gTs := gT0 (gI2 191 rfl) rfl
theorem tw_432 : Cond.methodLink "ObjectFile$Writer" 73 ⟨"ObjectFile$Writer", "measureParts", "()V"⟩ ∈ gTs := gT0 (gI2 192 rfl) rfl
theorem tw_440 : Cond.methodLink "ObjectFile$Writer" 76 ⟨"ObjectFile$Writer", "numberEntries", "()V"⟩ ∈ gTs := gT0 (gI2 200 rfl) rfl
theorem tw_444 : Cond.methodLink "ObjectFile$Writer" 140 ⟨"ObjectFile$Writer", "isThere", "(I)Z"⟩ ∈ gTs := gT0 (gI2 204 rfl) rfl
theorem tw_448 : Cond.methodLink "ObjectFile$Writer" 144 ⟨"ObjectFile$Writer", "spell", "(I)I"⟩ ∈ gTs := gT0 (gI2 208 rfl) rfl
theorem tw_466 : Cond.methodLink "ObjectFile$Writer" 151 ⟨"java/lang/String", "length", "()I"⟩ ∈ gTs := gT0 (gI2 226 rfl) rfl
theorem tw_476 : Cond.methodLink "ObjectFile$Writer" 156 ⟨"java/lang/Math", "min", "(II)I"⟩ ∈ gTs := gT0 (gI2 236 rfl) rfl
theorem tw_477 : Cond.static ⟨"java/lang/Math", "min", "(II)I"⟩ ∈ gTs := gT0 (gI2 237 rfl) rfl
theorem tw_479 : Cond.methodLink "ObjectFile$Writer" 161 ⟨"java/lang/String", "charAt", "(I)C"⟩ ∈ gTs := gT0 (gI2 239 rfl) rfl
theorem tw_517 : Cond.methodLink "ObjectFile$Writer" 79 ⟨"ObjectFile$Writer", "layParts", "()V"⟩ ∈ gTs := gT0 (gI3 37 rfl) rfl
theorem tw_521 : Cond.methodLink "ObjectFile$Writer" 165 ⟨"ObjectFile$Writer", "alignmentOf", "(I)I"⟩ ∈ gTs := gT0 (gI3 41 rfl) rfl
theorem tw_527 : Cond.methodLink "ObjectFile$Writer" 168 ⟨"ObjectFile$Writer", "upTo", "(II)I"⟩ ∈ gTs := gT0 (gI3 47 rfl) rfl
theorem tw_534 : Cond.methodLink "ObjectFile$FileBytes" 19 ⟨"java/util/Arrays", "fill", "([BIIB)V"⟩ ∈ gTs := gT0 (gI3 54 rfl) rfl
theorem tw_537 : Cond.methodLink "java/util/Arrays" 13 ⟨"java/util/Arrays", "rangeCheck", "(III)V"⟩ ∈ gTs := gT0 (gI3 57 rfl) rfl
theorem tw_540 : Cond.methodLink "ObjectFile$Writer" 95 ⟨"ObjectFile$Writer", "putHeader", "()V"⟩ ∈ gTs := gT0 (gI3 60 rfl) rfl
theorem tw_562 : Cond.methodLink "ObjectFile$Contents" 60 ⟨"ObjectFile$Contents", "byteOf", "(II)I"⟩ ∈ gTs := gT0 (gI3 82 rfl) rfl
theorem tw_569 : Cond.methodLink "ObjectFile$Writer" 98 ⟨"ObjectFile$Writer", "putParts", "()V"⟩ ∈ gTs := gT0 (gI3 89 rfl) rfl
theorem tw_577 : Cond.methodLink "ObjectFile$FileBytes" 25 ⟨"java/lang/System", "arraycopy", "(Ljava/lang/Object;ILjava/lang/Object;II)V"⟩ ∈ gTs := gT0 (gI3 97 rfl) rfl
theorem tw_579 : Cond.methodLink "ObjectFile$Writer" 202 ⟨"ObjectFile$Writer", "putRelocations", "(I)V"⟩ ∈ gTs := gT0 (gI3 99 rfl) rfl
theorem tw_584 : Cond.methodLink "ObjectFile$Writer" 205 ⟨"ObjectFile$Writer", "putSymbol", "(I)V"⟩ ∈ gTs := gT0 (gI3 104 rfl) rfl
theorem tw_588 : Cond.methodLink "ObjectFile$Writer" 217 ⟨"ObjectFile$Writer", "whereInFile", "(I)I"⟩ ∈ gTs := gT0 (gI3 108 rfl) rfl
theorem tw_592 : Cond.constant "ObjectFile$Writer" 220 65521 ∈ gTs := gT0 (gI3 112 rfl) rfl
theorem tw_593 : Cond.constant "ObjectFile$Writer" 221 65522 ∈ gTs := gT0 (gI3 113 rfl) rfl
theorem tw_594 : Cond.methodLink "ObjectFile$Writer" 101 ⟨"ObjectFile$Writer", "putTable", "()V"⟩ ∈ gTs := gT0 (gI3 114 rfl) rfl
theorem tw_598 : Cond.methodLink "ObjectFile$Writer" 222 ⟨"ObjectFile$Writer", "putEntry", "(I)V"⟩ ∈ gTs := gT0 (gI3 118 rfl) rfl
theorem tw_606 : Cond.methodLink "ObjectFile$Writer" 231 ⟨"ObjectFile$Writer", "linkOf", "(I)I"⟩ ∈ gTs := gT0 (gI3 126 rfl) rfl
theorem tw_613 : Cond.methodLink "ObjectFile$Writer" 234 ⟨"ObjectFile$Writer", "infoOf", "(I)I"⟩ ∈ gTs := gT0 (gI3 133 rfl) rfl
theorem tw_619 : Cond.methodLink "ObjectFileLaw" 56 ⟨"ObjectFile", "size", "()I"⟩ ∈ gTs := gT0 (gI3 139 rfl) rfl
theorem tw_623 : Cond.methodLink "ObjectFileLaw" 60 ⟨"ObjectFile", "byteAt", "(I)I"⟩ ∈ gTs := gT0 (gI3 143 rfl) rfl
theorem tw_635 : Cond.methodLink "ObjectFileLaw" 65 ⟨"ObjectFile", "feed", "(IJ)Z"⟩ ∈ gTs := gT0 (gI3 155 rfl) rfl
theorem tw_643 : Cond.methodLink "ObjectFileLaw" 70 ⟨"ObjectFile", "cut", "(I)Z"⟩ ∈ gTs := gT0 (gI3 163 rfl) rfl
theorem tw_647 : Cond.methodLink "ObjectFileLaw" 74 ⟨"ObjectFile", "spoil", "(II)I"⟩ ∈ gTs := gT0 (gI3 167 rfl) rfl
theorem tw_652 : Cond.methodLink "ObjectFileLaw" 79 ⟨"ObjectFile", "read", "()I"⟩ ∈ gTs := gT0 (gI3 172 rfl) rfl
theorem tw_660 : Cond.methodLink "ObjectFile$Directory" 54 ⟨"ObjectFile$Directory", "markFault", "()I"⟩ ∈ gTs := gT0 (gI3 180 rfl) rfl
theorem tw_674 : Cond.methodLink "ObjectFile$Directory" 58 ⟨"ObjectFile$Directory", "headerFault", "()I"⟩ ∈ gTs := gT0 (gI3 194 rfl) rfl
theorem tw_678 : Cond.methodLink "ObjectFile$Directory" 98 ⟨"ObjectFile$Directory", "wrongHeaderNumber", "()I"⟩ ∈ gTs := gT0 (gI3 198 rfl) rfl
theorem tw_686 : Cond.constantLong "ObjectFile$Directory" 101 52 ∈ gTs := gT0 (gI3 206 rfl) rfl
theorem tw_687 : Cond.constantLong "ObjectFile$Directory" 103 4 ∈ gTs := gT0 (gI3 207 rfl) rfl
theorem tw_688 : Cond.methodLink "ObjectFile$Directory" 105 ⟨"ObjectFile$Directory", "wrongEntryCount", "()I"⟩ ∈ gTs := gT0 (gI3 208 rfl) rfl
theorem tw_692 : Cond.methodLink "ObjectFile$Directory" 61 ⟨"ObjectFile$Directory", "entriesFault", "()I"⟩ ∈ gTs := gT0 (gI3 212 rfl) rfl
theorem tw_696 : Cond.methodLink "ObjectFile$Directory" 108 ⟨"ObjectFile$Directory", "numberOf", "(II)J"⟩ ∈ gTs := gT0 (gI3 216 rfl) rfl
theorem tw_700 : Cond.methodLink "ObjectFile$Directory" 112 ⟨"ObjectFile$Directory", "tellEntry", "(III)I"⟩ ∈ gTs := gT0 (gI3 220 rfl) rfl
theorem tw_704 : Cond.methodLink "ObjectFile$Directory" 116 ⟨"ObjectFile$Directory", "entryFault", "(I)I"⟩ ∈ gTs := gT0 (gI3 224 rfl) rfl
theorem tw_708 : Cond.constantLong "ObjectFile$Directory" 119 8 ∈ gTs := gT0 (gI3 228 rfl) rfl
theorem tw_710 : Cond.methodLink "ObjectFile$Directory" 125 ⟨"ObjectFile$Directory", "sharesBytes", "(IJJ)Z"⟩ ∈ gTs := gT0 (gI3 230 rfl) rfl
theorem tw_714 : Cond.methodLink "ObjectFile$Directory" 67 ⟨"ObjectFile$Directory", "stringsFault", "(II)I"⟩ ∈ gTs := gT0 (gI3 234 rfl) rfl
theorem tw_718 : Cond.constantLong "ObjectFile$Directory" 129 3 ∈ gTs := gT0 (gI3 238 rfl) rfl
theorem tw_719 : Cond.methodLink "ObjectFile$Directory" 70 ⟨"ObjectFile$Directory", "labelsFault", "()I"⟩ ∈ gTs := gT0 (gI3 239 rfl) rfl
theorem tw_723 : Cond.methodLink "ObjectFile$Directory" 131 ⟨"java/util/Arrays", "fill", "([II)V"⟩ ∈ gTs := gT0 (gI4 3 rfl) rfl
theorem tw_724 : Cond.methodLink "ObjectFile$Directory" 137 ⟨"ObjectFile$Directory", "partNamedBy", "(I)I"⟩ ∈ gTs := gT0 (gI4 4 rfl) rfl
theorem tw_729 : Cond.methodLink "ObjectFile$Directory" 144 ⟨"ObjectFile$Directory", "standsAt", "(ILjava/lang/String;)Z"⟩ ∈ gTs := gT0 (gI4 9 rfl) rfl
theorem tw_733 : Cond.methodLink "ObjectFile$Directory" 148 ⟨"java/lang/String", "length", "()I"⟩ ∈ gTs := gT0 (gI4 13 rfl) rfl
theorem tw_734 : Cond.methodLink "ObjectFile$Directory" 152 ⟨"java/lang/String", "charAt", "(I)C"⟩ ∈ gTs := gT0 (gI4 14 rfl) rfl
theorem tw_735 : Cond.methodLink "ObjectFile$Directory" 73 ⟨"ObjectFile$Directory", "numbersFault", "()I"⟩ ∈ gTs := gT0 (gI4 15 rfl) rfl
theorem tw_739 : Cond.methodLink "ObjectFile$Directory" 156 ⟨"ObjectFile$Directory", "wrongNumber", "(II)I"⟩ ∈ gTs := gT0 (gI4 19 rfl) rfl
theorem tw_745 : Cond.methodLink "ObjectFile$Directory" 165 ⟨"ObjectFile$Directory", "linkIsRight", "(IJ)Z"⟩ ∈ gTs := gT0 (gI4 25 rfl) rfl
theorem tw_750 : Cond.methodLink "ObjectFile$Directory" 169 ⟨"ObjectFile$Directory", "infoIsRight", "(IJ)Z"⟩ ∈ gTs := gT0 (gI4 30 rfl) rfl
theorem tw_755 : Cond.methodLink "ObjectFile$Directory" 76 ⟨"ObjectFile$Directory", "missingFault", "()I"⟩ ∈ gTs := gT0 (gI4 35 rfl) rfl
theorem tw_759 : Cond.methodLink "ObjectFile$Directory" 79 ⟨"ObjectFile$Directory", "lengthsFault", "()I"⟩ ∈ gTs := gT0 (gI4 39 rfl) rfl
theorem tw_763 : Cond.constantLong "ObjectFile$Directory" 179 12 ∈ gTs := gT0 (gI4 43 rfl) rfl
theorem tw_764 : Cond.methodLink "ObjectFile$Directory" 181 ⟨"ObjectFile$Directory", "lengthMayBe", "(IJ)Z"⟩ ∈ gTs := gT0 (gI4 44 rfl) rfl
theorem tw_767 : Cond.constantLong "ObjectFile$Directory" 186 4096 ∈ gTs := gT0 (gI4 47 rfl) rfl
theorem tw_768 : Cond.constantLong "ObjectFile$Directory" 188 2 ∈ gTs := gT0 (gI4 48 rfl) rfl
theorem tw_769 : Cond.constantLong "ObjectFile$Directory" 190 2048 ∈ gTs := gT0 (gI4 49 rfl) rfl
theorem tw_770 : Cond.constantLong "ObjectFile$Directory" 192 16 ∈ gTs := gT0 (gI4 50 rfl) rfl
theorem tw_771 : Cond.constantLong "ObjectFile$Directory" 194 1616 ∈ gTs := gT0 (gI4 51 rfl) rfl
theorem tw_772 : Cond.constantLong "ObjectFile$Directory" 184 300 ∈ gTs := gT0 (gI4 52 rfl) rfl
theorem tw_773 : Cond.methodLink "ObjectFile$Directory" 82 ⟨"ObjectFile$Directory", "locateParts", "()V"⟩ ∈ gTs := gT0 (gI4 53 rfl) rfl
theorem tw_781 : Cond.methodLink "ObjectFile$Reader" 23 ⟨"ObjectFile$Reader", "symbolsFault", "()I"⟩ ∈ gTs := gT0 (gI4 61 rfl) rfl
theorem tw_787 : Cond.methodLink "ObjectFile$Reader" 58 ⟨"ObjectFile$Reader", "symbolRows", "()I"⟩ ∈ gTs := gT0 (gI4 67 rfl) rfl
theorem tw_791 : Cond.methodLink "ObjectFile$Reader" 61 ⟨"ObjectFile$Reader", "symbolFault", "(II)I"⟩ ∈ gTs := gT0 (gI4 71 rfl) rfl
theorem tw_795 : Cond.methodLink "ObjectFile$Reader" 75 ⟨"ObjectFile$Reader", "nameLength", "(I)I"⟩ ∈ gTs := gT0 (gI4 75 rfl) rfl
theorem tw_800 : Cond.methodLink "ObjectFile$Reader" 112 ⟨"ObjectFile$Reader", "nameSpot", "(I)I"⟩ ∈ gTs := gT0 (gI4 80 rfl) rfl
theorem tw_805 : Cond.methodLink "ObjectFile$Reader" 78 ⟨"ObjectFile$Reader", "bindOf", "(I)I"⟩ ∈ gTs := gT0 (gI4 85 rfl) rfl
theorem tw_810 : Cond.methodLink "ObjectFile$Reader" 85 ⟨"ObjectFile$Reader", "typeOf", "(I)I"⟩ ∈ gTs := gT0 (gI4 90 rfl) rfl
theorem tw_814 : Cond.methodLink "ObjectFile$Reader" 88 ⟨"ObjectFile$Reader", "whereOf", "(I)I"⟩ ∈ gTs := gT0 (gI4 94 rfl) rfl
theorem tw_823 : Cond.methodLink "ObjectFile$Reader" 91 ⟨"ObjectFile$Reader", "flawIn", "(I)I"⟩ ∈ gTs := gT0 (gI4 103 rfl) rfl
theorem tw_828 : Cond.methodLink "ObjectFile$Reader" 94 ⟨"ObjectFile$Reader", "isNamedBefore", "(II)Z"⟩ ∈ gTs := gT0 (gI4 108 rfl) rfl
theorem tw_832 : Cond.methodLink "ObjectFile$Reader" 118 ⟨"ObjectFile$Reader", "haveSameName", "(II)Z"⟩ ∈ gTs := gT0 (gI4 112 rfl) rfl
theorem tw_838 : Cond.methodLink "ObjectFile$Reader" 27 ⟨"ObjectFile$Reader", "relocationsFault", "()I"⟩ ∈ gTs := gT0 (gI4 118 rfl) rfl
theorem tw_842 : Cond.methodLink "ObjectFile$Reader" 121 ⟨"ObjectFile$Reader", "relocationFault", "(II)I"⟩ ∈ gTs := gT0 (gI4 122 rfl) rfl
theorem tw_847 : Cond.methodLink "ObjectFile$Reader" 127 ⟨"ObjectFile$Reader", "symbolNumber", "(I)I"⟩ ∈ gTs := gT0 (gI4 127 rfl) rfl
theorem tw_854 : Cond.methodLink "ObjectFile$Reader" 30 ⟨"ObjectFile$Reader", "startsFault", "()I"⟩ ∈ gTs := gT0 (gI4 134 rfl) rfl
theorem tw_869 : Cond.methodLink "ObjectFile$Reader" 163 ⟨"ObjectFile$Reader", "fillSymbol", "(LObjectFile$Contents;I)V"⟩ ∈ gTs := gT0 (gI4 149 rfl) rfl
theorem tw_875 : Cond.methodLink "ObjectFile$Reader" 167 ⟨"ObjectFile$Reader", "fillRelocations", "(LObjectFile$Contents;I)V"⟩ ∈ gTs := gT0 (gI4 155 rfl) rfl
theorem tw_880 : Cond.methodLink "ObjectFileLaw" 83 ⟨"ObjectFile", "place", "()I"⟩ ∈ gTs := gT0 (gI4 160 rfl) rfl
theorem tw_884 : Cond.methodLink "ObjectFileLaw" 87 ⟨"ObjectFile", "keep", "()V"⟩ ∈ gTs := gT0 (gI4 164 rfl) rfl
theorem tw_892 : Cond.methodLink "ObjectFileLaw" 91 ⟨"ObjectFile", "section", "(II)I"⟩ ∈ gTs := gT0 (gI4 172 rfl) rfl
theorem tw_896 : Cond.methodLink "ObjectFileLaw" 95 ⟨"ObjectFile", "at", "(II)I"⟩ ∈ gTs := gT0 (gI4 176 rfl) rfl
theorem tw_901 : Cond.methodLink "ObjectFileLaw" 99 ⟨"ObjectFile", "count", "(I)I"⟩ ∈ gTs := gT0 (gI4 181 rfl) rfl
theorem tw_906 : Cond.methodLink "ObjectFileLaw" 103 ⟨"ObjectFile", "startAt", "(I)I"⟩ ∈ gTs := gT0 (gI4 186 rfl) rfl
theorem tw_911 : Cond.methodLink "ObjectFileLaw" 107 ⟨"ObjectFile", "symbolAt", "(II)I"⟩ ∈ gTs := gT0 (gI4 191 rfl) rfl
theorem tw_917 : Cond.methodLink "ObjectFileLaw" 111 ⟨"ObjectFile", "relocationAt", "(II)I"⟩ ∈ gTs := gT0 (gI4 197 rfl) rfl
theorem tw_927 : Cond.methodLink "ObjectFileModel" 1 ⟨"java/lang/Object", "<init>", "()V"⟩ ∈ gTs := gT0 (gI4 207 rfl) rfl
theorem tw_928 : Cond.methodLink "ObjectFileModel" 113 ⟨"ObjectFileModel", "title", "(IIIIIIIII)V"⟩ ∈ gTs := gT0 (gI4 208 rfl) rfl
theorem tw_932 : Cond.methodLink "ObjectFileModel" 120 ⟨"ObjectFileModel", "letterOf", "(I)V"⟩ ∈ gTs := gT0 (gI4 212 rfl) rfl
theorem tw_1060 : Cond.methodLink "ObjectFileLaw" 16 ⟨"ObjectFileModel", "clear", "()V"⟩ ∈ gTs := gT0 (gI5 100 rfl) rfl
theorem tw_1064 : Cond.methodLink "ObjectFileLaw" 23 ⟨"ObjectFileModel", "put", "(IIJ)Z"⟩ ∈ gTs := gT0 (gI5 104 rfl) rfl
theorem tw_1068 : Cond.methodLink "ObjectFileModel" 137 ⟨"ObjectFileModel", "byteOf", "(JI)I"⟩ ∈ gTs := gT0 (gI5 108 rfl) rfl
theorem tw_1071 : Cond.constantLong "ObjectFileModel" 132 255 ∈ gTs := gT0 (gI5 111 rfl) rfl
theorem tw_1072 : Cond.methodLink "ObjectFileLaw" 28 ⟨"ObjectFileModel", "bss", "(I)Z"⟩ ∈ gTs := gT0 (gI5 112 rfl) rfl
theorem tw_1076 : Cond.methodLink "ObjectFileLaw" 33 ⟨"ObjectFileModel", "align", "(II)Z"⟩ ∈ gTs := gT0 (gI5 116 rfl) rfl
theorem tw_1080 : Cond.methodLink "ObjectFileLaw" 37 ⟨"ObjectFileModel", "start", "(I)Z"⟩ ∈ gTs := gT0 (gI5 120 rfl) rfl
theorem tw_1084 : Cond.methodLink "ObjectFileLaw" 41 ⟨"ObjectFileModel", "letter", "(I)Z"⟩ ∈ gTs := gT0 (gI5 124 rfl) rfl
theorem tw_1088 : Cond.methodLink "ObjectFileLaw" 46 ⟨"ObjectFileModel", "symbol", "(IIIII)I"⟩ ∈ gTs := gT0 (gI5 128 rfl) rfl
theorem tw_1092 : Cond.methodLink "ObjectFileModel" 144 ⟨"ObjectFileModel", "isSameName", "(II)Z"⟩ ∈ gTs := gT0 (gI5 132 rfl) rfl
theorem tw_1096 : Cond.methodLink "ObjectFileModel" 148 ⟨"ObjectFileModel", "isSymbol", "(IIII)Z"⟩ ∈ gTs := gT0 (gI5 136 rfl) rfl
theorem tw_1100 : Cond.methodLink "ObjectFileModel" 141 ⟨"ObjectFileModel", "isPower", "(I)Z"⟩ ∈ gTs := gT0 (gI5 140 rfl) rfl
theorem tw_1103 : Cond.methodLink "ObjectFileLaw" 50 ⟨"ObjectFileModel", "relocation", "(IIIII)I"⟩ ∈ gTs := gT0 (gI5 143 rfl) rfl
theorem tw_1107 : Cond.methodLink "ObjectFileModel" 152 ⟨"ObjectFileModel", "isKindOf", "(II)Z"⟩ ∈ gTs := gT0 (gI5 147 rfl) rfl
theorem tw_1110 : Cond.methodLink "ObjectFileModel" 124 ⟨"ObjectFileModel", "isKind", "(I)Z"⟩ ∈ gTs := gT0 (gI5 150 rfl) rfl
theorem tw_1113 : Cond.methodLink "ObjectFileModel" 155 ⟨"ObjectFileModel", "isAlone", "(I)Z"⟩ ∈ gTs := gT0 (gI5 153 rfl) rfl
theorem tw_1116 : Cond.methodLink "ObjectFileModel" 158 ⟨"ObjectFileModel", "isSkip", "(J)Z"⟩ ∈ gTs := gT0 (gI5 156 rfl) rfl
theorem tw_1119 : Cond.constantLong "ObjectFileModel" 128 62 ∈ gTs := gT0 (gI5 159 rfl) rfl
theorem tw_1120 : Cond.constantLong "ObjectFileModel" 130 2 ∈ gTs := gT0 (gI5 160 rfl) rfl
theorem tw_1121 : Cond.methodLink "ObjectFileLaw" 55 ⟨"ObjectFileModel", "write", "()I"⟩ ∈ gTs := gT0 (gI5 161 rfl) rfl
theorem tw_1125 : Cond.methodLink "ObjectFileModel" 227 ⟨"ObjectFileModel", "unfit", "()I"⟩ ∈ gTs := gT0 (gI5 165 rfl) rfl
theorem tw_1129 : Cond.methodLink "ObjectFileModel" 168 ⟨"ObjectFileModel", "widthOf", "(II)I"⟩ ∈ gTs := gT0 (gI5 169 rfl) rfl
theorem tw_1132 : Cond.methodLink "ObjectFileModel" 230 ⟨"ObjectFileModel", "lay", "()I"⟩ ∈ gTs := gT0 (gI5 172 rfl) rfl
theorem tw_1136 : Cond.methodLink "ObjectFileModel" 182 ⟨"ObjectFileModel", "roundUp", "(II)I"⟩ ∈ gTs := gT0 (gI5 176 rfl) rfl
theorem tw_1139 : Cond.methodLink "ObjectFileModel" 185 ⟨"ObjectFileModel", "relocationsOf", "(I)I"⟩ ∈ gTs := gT0 (gI5 179 rfl) rfl
theorem tw_1143 : Cond.methodLink "ObjectFileModel" 189 ⟨"ObjectFileModel", "order", "()I"⟩ ∈ gTs := gT0 (gI5 183 rfl) rfl
theorem tw_1147 : Cond.methodLink "ObjectFileModel" 192 ⟨"ObjectFileModel", "sizeOfSymbolNames", "()I"⟩ ∈ gTs := gT0 (gI5 187 rfl) rfl
theorem tw_1151 : Cond.methodLink "ObjectFileModel" 172 ⟨"ObjectFileModel", "begin", "()V"⟩ ∈ gTs := gT0 (gI5 191 rfl) rfl
theorem tw_1155 : Cond.methodLink "ObjectFileModel" 175 ⟨"ObjectFileModel", "stringFor", "()I"⟩ ∈ gTs := gT0 (gI5 195 rfl) rfl
theorem tw_1159 : Cond.methodLink "ObjectFileModel" 198 ⟨"ObjectFileModel", "sizeOfTitles", "()I"⟩ ∈ gTs := gT0 (gI5 199 rfl) rfl
theorem tw_1163 : Cond.methodLink "ObjectFileModel" 179 ⟨"ObjectFileModel", "takeTitle", "(I)V"⟩ ∈ gTs := gT0 (gI5 203 rfl) rfl
theorem tw_1167 : Cond.methodLink "ObjectFileModel" 236 ⟨"ObjectFileModel", "writeHead", "(I)V"⟩ ∈ gTs := gT0 (gI5 207 rfl) rfl
theorem tw_1171 : Cond.constant "ObjectFileModel" 208 1179403647 ∈ gTs := gT0 (gI5 211 rfl) rfl
theorem tw_1172 : Cond.methodLink "ObjectFileModel" 209 ⟨"ObjectFileModel", "write4", "(II)V"⟩ ∈ gTs := gT0 (gI5 212 rfl) rfl
theorem tw_1176 : Cond.methodLink "ObjectFileModel" 205 ⟨"ObjectFileModel", "write2", "(II)V"⟩ ∈ gTs := gT0 (gI5 216 rfl) rfl
theorem tw_1180 : Cond.methodLink "ObjectFileModel" 201 ⟨"ObjectFileModel", "write1", "(II)V"⟩ ∈ gTs := gT0 (gI5 220 rfl) rfl
theorem tw_1184 : Cond.constant "ObjectFileModel" 212 65793 ∈ gTs := gT0 (gI5 224 rfl) rfl
theorem tw_1185 : Cond.methodLink "ObjectFileModel" 213 ⟨"ObjectFileModel", "isShort", "(I)Z"⟩ ∈ gTs := gT0 (gI5 225 rfl) rfl
theorem tw_1188 : Cond.methodLink "ObjectFileModel" 239 ⟨"ObjectFileModel", "writeRelocations", "(I)V"⟩ ∈ gTs := gT0 (gI5 228 rfl) rfl
theorem tw_1192 : Cond.methodLink "ObjectFileModel" 242 ⟨"ObjectFileModel", "writeSymbols", "()V"⟩ ∈ gTs := gT0 (gI5 232 rfl) rfl
theorem tw_1196 : Cond.constant "ObjectFileModel" 225 65521 ∈ gTs := gT0 (gI5 236 rfl) rfl
theorem tw_1197 : Cond.constant "ObjectFileModel" 226 65522 ∈ gTs := gT0 (gI5 237 rfl) rfl
theorem tw_1198 : Cond.methodLink "ObjectFileModel" 245 ⟨"ObjectFileModel", "writeEntry", "(III)V"⟩ ∈ gTs := gT0 (gI5 238 rfl) rfl
theorem tw_1202 : Cond.methodLink "ObjectFileModel" 216 ⟨"ObjectFileModel", "sortOf", "(I)I"⟩ ∈ gTs := gT0 (gI6 2 rfl) rfl
theorem tw_1205 : Cond.methodLink "ObjectFileModel" 219 ⟨"ObjectFileModel", "flagsOf", "(I)I"⟩ ∈ gTs := gT0 (gI6 5 rfl) rfl
theorem tw_1208 : Cond.methodLink "ObjectFileModel" 222 ⟨"ObjectFileModel", "eachOf", "(I)I"⟩ ∈ gTs := gT0 (gI6 8 rfl) rfl
theorem tw_1211 : Cond.methodLink "ObjectFileLaw" 59 ⟨"ObjectFileModel", "size", "()I"⟩ ∈ gTs := gT0 (gI6 11 rfl) rfl
theorem tw_1215 : Cond.methodLink "ObjectFileLaw" 64 ⟨"ObjectFileModel", "byteAt", "(I)I"⟩ ∈ gTs := gT0 (gI6 15 rfl) rfl
theorem tw_1219 : Cond.methodLink "ObjectFileLaw" 69 ⟨"ObjectFileModel", "feed", "(IJ)Z"⟩ ∈ gTs := gT0 (gI6 19 rfl) rfl
theorem tw_1223 : Cond.methodLink "ObjectFileLaw" 73 ⟨"ObjectFileModel", "cut", "(I)Z"⟩ ∈ gTs := gT0 (gI6 23 rfl) rfl
theorem tw_1227 : Cond.methodLink "ObjectFileLaw" 78 ⟨"ObjectFileModel", "spoil", "(II)I"⟩ ∈ gTs := gT0 (gI6 27 rfl) rfl
theorem tw_1231 : Cond.methodLink "ObjectFileLaw" 82 ⟨"ObjectFileModel", "read", "()I"⟩ ∈ gTs := gT0 (gI6 31 rfl) rfl
theorem tw_1235 : Cond.methodLink "ObjectFileModel" 366 ⟨"ObjectFileModel", "allFaults", "()I"⟩ ∈ gTs := gT0 (gI6 35 rfl) rfl
theorem tw_1239 : Cond.methodLink "ObjectFileModel" 339 ⟨"ObjectFileModel", "head", "()I"⟩ ∈ gTs := gT0 (gI6 39 rfl) rfl
theorem tw_1243 : Cond.methodLink "ObjectFileModel" 264 ⟨"ObjectFileModel", "fault", "(II)I"⟩ ∈ gTs := gT0 (gI6 43 rfl) rfl
theorem tw_1247 : Cond.methodLink "ObjectFileModel" 249 ⟨"ObjectFileModel", "read2", "(I)I"⟩ ∈ gTs := gT0 (gI6 47 rfl) rfl
theorem tw_1251 : Cond.methodLink "ObjectFileModel" 260 ⟨"ObjectFileModel", "read4", "(I)J"⟩ ∈ gTs := gT0 (gI6 51 rfl) rfl
theorem tw_1255 : Cond.constantLong "ObjectFileModel" 252 65536 ∈ gTs := gT0 (gI6 55 rfl) rfl
theorem tw_1256 : Cond.constantLong "ObjectFileModel" 267 4 ∈ gTs := gT0 (gI6 56 rfl) rfl
theorem tw_1257 : Cond.constantLong "ObjectFileModel" 269 52 ∈ gTs := gT0 (gI6 57 rfl) rfl
theorem tw_1258 : Cond.constantLong "ObjectFileModel" 271 40 ∈ gTs := gT0 (gI6 58 rfl) rfl
theorem tw_1259 : Cond.methodLink "ObjectFileModel" 342 ⟨"ObjectFileModel", "entryFault", "(I)I"⟩ ∈ gTs := gT0 (gI6 59 rfl) rfl
theorem tw_1263 : Cond.methodLink "ObjectFileModel" 273 ⟨"ObjectFileModel", "told", "(II)J"⟩ ∈ gTs := gT0 (gI6 63 rfl) rfl
theorem tw_1267 : Cond.methodLink "ObjectFileModel" 257 ⟨"ObjectFileModel", "spotOf", "(II)I"⟩ ∈ gTs := gT0 (gI6 67 rfl) rfl
theorem tw_1271 : Cond.constantLong "ObjectFileModel" 277 8 ∈ gTs := gT0 (gI6 71 rfl) rfl
theorem tw_1272 : Cond.constantLong "ObjectFileModel" 279 64 ∈ gTs := gT0 (gI6 72 rfl) rfl
theorem tw_1273 : Cond.methodLink "ObjectFileModel" 281 ⟨"ObjectFileModel", "meets", "(JJJJ)Z"⟩ ∈ gTs := gT0 (gI6 73 rfl) rfl
theorem tw_1276 : Cond.methodLink "ObjectFileModel" 345 ⟨"ObjectFileModel", "nameFaults", "()I"⟩ ∈ gTs := gT0 (gI6 76 rfl) rfl
theorem tw_1280 : Cond.constantLong "ObjectFileModel" 285 3 ∈ gTs := gT0 (gI6 80 rfl) rfl
theorem tw_1281 : Cond.methodLink "ObjectFileModel" 287 ⟨"ObjectFileModel", "isTitle", "(II)Z"⟩ ∈ gTs := gT0 (gI6 81 rfl) rfl
theorem tw_1285 : Cond.methodLink "ObjectFileModel" 348 ⟨"ObjectFileModel", "ruleFault", "(I)I"⟩ ∈ gTs := gT0 (gI6 85 rfl) rfl
theorem tw_1289 : Cond.methodLink "ObjectFileModel" 351 ⟨"ObjectFileModel", "sizeFaults", "()I"⟩ ∈ gTs := gT0 (gI6 89 rfl) rfl
theorem tw_1293 : Cond.constantLong "ObjectFileModel" 290 12 ∈ gTs := gT0 (gI6 93 rfl) rfl
theorem tw_1294 : Cond.constantLong "ObjectFileModel" 292 2048 ∈ gTs := gT0 (gI6 94 rfl) rfl
theorem tw_1295 : Cond.constantLong "ObjectFileModel" 294 4096 ∈ gTs := gT0 (gI6 95 rfl) rfl
theorem tw_1296 : Cond.constantLong "ObjectFileModel" 296 300 ∈ gTs := gT0 (gI6 96 rfl) rfl
theorem tw_1297 : Cond.constantLong "ObjectFileModel" 298 16 ∈ gTs := gT0 (gI6 97 rfl) rfl
theorem tw_1298 : Cond.constantLong "ObjectFileModel" 300 1616 ∈ gTs := gT0 (gI6 98 rfl) rfl
theorem tw_1299 : Cond.methodLink "ObjectFileModel" 302 ⟨"ObjectFileModel", "bytesOf", "(I)J"⟩ ∈ gTs := gT0 (gI6 99 rfl) rfl
theorem tw_1303 : Cond.methodLink "ObjectFileModel" 305 ⟨"ObjectFileModel", "from", "(I)I"⟩ ∈ gTs := gT0 (gI6 103 rfl) rfl
theorem tw_1307 : Cond.methodLink "ObjectFileModel" 334 ⟨"ObjectFileModel", "symbolsIn", "()I"⟩ ∈ gTs := gT0 (gI6 107 rfl) rfl
theorem tw_1311 : Cond.methodLink "ObjectFileModel" 354 ⟨"ObjectFileModel", "symbolFault", "(I)I"⟩ ∈ gTs := gT0 (gI6 111 rfl) rfl
theorem tw_1315 : Cond.methodLink "ObjectFileModel" 311 ⟨"ObjectFileModel", "symbolPlace", "(I)I"⟩ ∈ gTs := gT0 (gI6 115 rfl) rfl
theorem tw_1319 : Cond.methodLink "ObjectFileModel" 314 ⟨"ObjectFileModel", "namePlace", "(I)I"⟩ ∈ gTs := gT0 (gI6 119 rfl) rfl
theorem tw_1323 : Cond.methodLink "ObjectFileModel" 325 ⟨"ObjectFileModel", "isName", "(I)Z"⟩ ∈ gTs := gT0 (gI6 123 rfl) rfl
theorem tw_1327 : Cond.methodLink "ObjectFileModel" 308 ⟨"ObjectFileModel", "nameLength", "(I)I"⟩ ∈ gTs := gT0 (gI6 127 rfl) rfl
theorem tw_1331 : Cond.methodLink "ObjectFileModel" 320 ⟨"ObjectFileModel", "bindOf", "(I)I"⟩ ∈ gTs := gT0 (gI6 131 rfl) rfl
theorem tw_1335 : Cond.methodLink "ObjectFileModel" 317 ⟨"ObjectFileModel", "whereOf", "(I)I"⟩ ∈ gTs := gT0 (gI6 135 rfl) rfl
theorem tw_1339 : Cond.methodLink "ObjectFileModel" 328 ⟨"ObjectFileModel", "amiss", "(I)I"⟩ ∈ gTs := gT0 (gI6 139 rfl) rfl
theorem tw_1343 : Cond.constantLong "ObjectFileModel" 323 2147483647 ∈ gTs := gT0 (gI6 143 rfl) rfl
theorem tw_1344 : Cond.methodLink "ObjectFileModel" 331 ⟨"ObjectFileModel", "isSameIn", "(II)Z"⟩ ∈ gTs := gT0 (gI6 144 rfl) rfl
theorem tw_1348 : Cond.methodLink "ObjectFileModel" 357 ⟨"ObjectFileModel", "infoFault", "()I"⟩ ∈ gTs := gT0 (gI6 148 rfl) rfl
theorem tw_1352 : Cond.methodLink "ObjectFileModel" 360 ⟨"ObjectFileModel", "relocationFault", "(II)I"⟩ ∈ gTs := gT0 (gI6 152 rfl) rfl
theorem tw_1356 : Cond.constantLong "ObjectFileModel" 337 256 ∈ gTs := gT0 (gI6 156 rfl) rfl
theorem tw_1357 : Cond.methodLink "ObjectFileModel" 363 ⟨"ObjectFileModel", "startFaults", "()I"⟩ ∈ gTs := gT0 (gI6 157 rfl) rfl
theorem tw_1361 : Cond.methodLink "ObjectFileModel" 369 ⟨"ObjectFileModel", "takeSymbol", "(II)V"⟩ ∈ gTs := gT0 (gI6 161 rfl) rfl
theorem tw_1365 : Cond.methodLink "ObjectFileModel" 372 ⟨"ObjectFileModel", "takeRelocation", "(II)V"⟩ ∈ gTs := gT0 (gI6 165 rfl) rfl
theorem tw_1369 : Cond.methodLink "ObjectFileLaw" 86 ⟨"ObjectFileModel", "place", "()I"⟩ ∈ gTs := gT0 (gI6 169 rfl) rfl
theorem tw_1373 : Cond.methodLink "ObjectFileLaw" 90 ⟨"ObjectFileModel", "keep", "()V"⟩ ∈ gTs := gT0 (gI6 173 rfl) rfl
theorem tw_1377 : Cond.methodLink "ObjectFileLaw" 94 ⟨"ObjectFileModel", "section", "(II)I"⟩ ∈ gTs := gT0 (gI6 177 rfl) rfl
theorem tw_1381 : Cond.methodLink "ObjectFileLaw" 98 ⟨"ObjectFileModel", "at", "(II)I"⟩ ∈ gTs := gT0 (gI6 181 rfl) rfl
theorem tw_1385 : Cond.methodLink "ObjectFileLaw" 102 ⟨"ObjectFileModel", "count", "(I)I"⟩ ∈ gTs := gT0 (gI6 185 rfl) rfl
theorem tw_1389 : Cond.methodLink "ObjectFileLaw" 106 ⟨"ObjectFileModel", "startAt", "(I)I"⟩ ∈ gTs := gT0 (gI6 189 rfl) rfl
theorem tw_1393 : Cond.methodLink "ObjectFileLaw" 110 ⟨"ObjectFileModel", "symbolAt", "(II)I"⟩ ∈ gTs := gT0 (gI6 193 rfl) rfl
theorem tw_1397 : Cond.methodLink "ObjectFileLaw" 114 ⟨"ObjectFileModel", "relocationAt", "(II)I"⟩ ∈ gTs := gT0 (gI6 197 rfl) rfl
theorem tw_1401 : Cond.constantLong "ObjectFileLaw" 17 4294967295 ∈ gTs := gT0 (gI6 201 rfl) rfl
theorem nw_27 : Cond.methodLinkNest "ObjectFile" 11 ⟨"ObjectFile$Contents", "<init>", "()V"⟩ "ObjectFile" ∈ gNw := List.mem_filter.mpr ⟨gI1 27 rfl, rfl⟩
theorem nw_81 : Cond.methodLinkNest "ObjectFile" 21 ⟨"ObjectFile$FileBytes", "<init>", "()V"⟩ "ObjectFile" ∈ gNw := List.mem_filter.mpr ⟨gI1 81 rfl, rfl⟩
theorem nw_97 : Cond.methodLinkNest "ObjectFile" 28 ⟨"ObjectFile$Writer", "<init>", "(LObjectFile$Contents;LObjectFile$FileBytes;)V"⟩ "ObjectFile" ∈ gNw := List.mem_filter.mpr ⟨gI1 97 rfl, rfl⟩
theorem nw_103 : Cond.methodLinkNest "ObjectFile$Writer" 11 ⟨"ObjectFile$Strings", "<init>", "()V"⟩ "ObjectFile" ∈ gNw := List.mem_filter.mpr ⟨gI1 103 rfl, rfl⟩
theorem nw_164 : Cond.methodLinkNest "ObjectFile" 37 ⟨"ObjectFile$Finding", "<init>", "()V"⟩ "ObjectFile" ∈ gNw := List.mem_filter.mpr ⟨gI1 164 rfl, rfl⟩
theorem nw_175 : Cond.methodLinkNest "ObjectFile" 44 ⟨"ObjectFile$Directory", "<init>", "(LObjectFile$FileBytes;LObjectFile$Finding;)V"⟩ "ObjectFile" ∈ gNw := List.mem_filter.mpr ⟨gI1 175 rfl, rfl⟩
theorem nw_216 : Cond.methodLinkNest "ObjectFile" 53 ⟨"ObjectFile$Reader", "<init>", "(LObjectFile$FileBytes;LObjectFile$Finding;LObjectFile$Directory;)V"⟩ "ObjectFile" ∈ gNw := List.mem_filter.mpr ⟨gI1 216 rfl, rfl⟩
theorem nw_265 : Cond.methodLinkNest "ObjectFile" 64 ⟨"ObjectFile$Contents", "reset", "()V"⟩ "ObjectFile" ∈ gNw := List.mem_filter.mpr ⟨gI2 25 rfl, rfl⟩
theorem nw_276 : Cond.methodLinkNest "ObjectFile" 71 ⟨"ObjectFile$Contents", "append", "(IIJ)Z"⟩ "ObjectFile" ∈ gNw := List.mem_filter.mpr ⟨gI2 36 rfl, rfl⟩
theorem nw_292 : Cond.methodLinkNest "ObjectFile" 82 ⟨"ObjectFile$Contents", "latestStart", "()I"⟩ "ObjectFile" ∈ gNw := List.mem_filter.mpr ⟨gI2 52 rfl, rfl⟩
theorem nw_300 : Cond.methodLinkNest "ObjectFile" 86 ⟨"ObjectFile$Contents", "addStart", "(I)Z"⟩ "ObjectFile" ∈ gNw := List.mem_filter.mpr ⟨gI2 60 rfl, rfl⟩
theorem nw_329 : Cond.methodLinkNest "ObjectFile" 102 ⟨"ObjectFile$Contents", "hasGlobal", "([BI)Z"⟩ "ObjectFile" ∈ gNw := List.mem_filter.mpr ⟨gI2 89 rfl, rfl⟩
theorem nw_345 : Cond.methodLinkNest "ObjectFile" 106 ⟨"ObjectFile$Contents", "addSymbol", "([BII)I"⟩ "ObjectFile" ∈ gNw := List.mem_filter.mpr ⟨gI2 105 rfl, rfl⟩
theorem nw_352 : Cond.methodLinkNest "ObjectFile" 110 ⟨"ObjectFile$Contents", "tellSymbol", "(IIIIII)V"⟩ "ObjectFile" ∈ gNw := List.mem_filter.mpr ⟨gI2 112 rfl, rfl⟩
theorem nw_372 : Cond.methodLinkNest "ObjectFile" 127 ⟨"ObjectFile$Contents", "addRelocation", "(IIIII)I"⟩ "ObjectFile" ∈ gNw := List.mem_filter.mpr ⟨gI2 132 rfl, rfl⟩
theorem nw_380 : Cond.methodLinkNest "ObjectFile" 131 ⟨"ObjectFile$Writer", "writeAll", "()I"⟩ "ObjectFile" ∈ gNw := List.mem_filter.mpr ⟨gI2 140 rfl, rfl⟩
theorem nw_384 : Cond.methodLinkNest "ObjectFile$Writer" 55 ⟨"ObjectFile$Contents", "startGoesBeyond", "()Z"⟩ "ObjectFile" ∈ gNw := List.mem_filter.mpr ⟨gI2 144 rfl, rfl⟩
theorem nw_389 : Cond.methodLinkNest "ObjectFile$Writer" 61 ⟨"ObjectFile$Contents", "symbolGoesBeyond", "()Z"⟩ "ObjectFile" ∈ gNw := List.mem_filter.mpr ⟨gI2 149 rfl, rfl⟩
theorem nw_393 : Cond.methodLinkNest "ObjectFile$Writer" 64 ⟨"ObjectFile$Contents", "relocationGoesBeyond", "()Z"⟩ "ObjectFile" ∈ gNw := List.mem_filter.mpr ⟨gI2 153 rfl, rfl⟩
theorem nw_401 : Cond.methodLinkNest "ObjectFile$Contents" 85 ⟨"ObjectFile", "widthOf", "(II)I"⟩ "ObjectFile" ∈ gNw := List.mem_filter.mpr ⟨gI2 161 rfl, rfl⟩
theorem nw_406 : Cond.methodLinkNest "ObjectFile$Writer" 107 ⟨"ObjectFile$Contents", "symbolFact", "(II)I"⟩ "ObjectFile" ∈ gNw := List.mem_filter.mpr ⟨gI2 166 rfl, rfl⟩
theorem nw_415 : Cond.methodLinkNest "ObjectFile$Writer" 118 ⟨"ObjectFile$Strings", "restart", "()V"⟩ "ObjectFile" ∈ gNw := List.mem_filter.mpr ⟨gI2 175 rfl, rfl⟩
theorem nw_419 : Cond.methodLinkNest "ObjectFile$Writer" 123 ⟨"ObjectFile$Strings", "placeOf", "([BII)I"⟩ "ObjectFile" ∈ gNw := List.mem_filter.mpr ⟨gI2 179 rfl, rfl⟩
theorem nw_436 : Cond.methodLinkNest "ObjectFile$Writer" 133 ⟨"ObjectFile$Contents", "relocationsOf", "(I)I"⟩ "ObjectFile" ∈ gNw := List.mem_filter.mpr ⟨gI2 196 rfl, rfl⟩
theorem nw_452 : Cond.methodLinkNest "ObjectFile$Writer" 147 ⟨"ObjectFile", "labelOf", "(I)Ljava/lang/String;"⟩ "ObjectFile" ∈ gNw := List.mem_filter.mpr ⟨gI2 212 rfl, rfl⟩
theorem nw_525 : Cond.fieldLinkNest "ObjectFile$Writer" 174 "ObjectFile" "ALIGNMENTS" "[I" "ObjectFile" ∈ gNw := List.mem_filter.mpr ⟨gI3 45 rfl, rfl⟩
theorem nw_530 : Cond.methodLinkNest "ObjectFile$Writer" 89 ⟨"ObjectFile$FileBytes", "zeros", "(I)V"⟩ "ObjectFile" ∈ gNw := List.mem_filter.mpr ⟨gI3 50 rfl, rfl⟩
theorem nw_544 : Cond.fieldLinkNest "ObjectFile$Writer" 177 "ObjectFile" "MAGIC" "[I" "ObjectFile" ∈ gNw := List.mem_filter.mpr ⟨gI3 64 rfl, rfl⟩
theorem nw_546 : Cond.methodLinkNest "ObjectFile$Writer" 180 ⟨"ObjectFile$FileBytes", "put1", "(II)V"⟩ "ObjectFile" ∈ gNw := List.mem_filter.mpr ⟨gI3 66 rfl, rfl⟩
theorem nw_550 : Cond.methodLinkNest "ObjectFile$Writer" 183 ⟨"ObjectFile$FileBytes", "put2", "(II)V"⟩ "ObjectFile" ∈ gNw := List.mem_filter.mpr ⟨gI3 70 rfl, rfl⟩
theorem nw_554 : Cond.methodLinkNest "ObjectFile$Writer" 186 ⟨"ObjectFile$FileBytes", "put4", "(II)V"⟩ "ObjectFile" ∈ gNw := List.mem_filter.mpr ⟨gI3 74 rfl, rfl⟩
theorem nw_558 : Cond.methodLinkNest "ObjectFile$Writer" 189 ⟨"ObjectFile$Contents", "shortStarts", "()I"⟩ "ObjectFile" ∈ gNw := List.mem_filter.mpr ⟨gI3 78 rfl, rfl⟩
theorem nw_566 : Cond.methodLinkNest "ObjectFile$Contents" 64 ⟨"ObjectFile", "isShort", "(I)Z"⟩ "ObjectFile" ∈ gNw := List.mem_filter.mpr ⟨gI3 86 rfl, rfl⟩
theorem nw_573 : Cond.methodLinkNest "ObjectFile$Writer" 195 ⟨"ObjectFile$FileBytes", "copyIn", "([BIII)V"⟩ "ObjectFile" ∈ gNw := List.mem_filter.mpr ⟨gI3 93 rfl, rfl⟩
theorem nw_578 : Cond.methodLinkNest "ObjectFile$Writer" 199 ⟨"ObjectFile$Contents", "startOf", "(I)I"⟩ "ObjectFile" ∈ gNw := List.mem_filter.mpr ⟨gI3 98 rfl, rfl⟩
theorem nw_583 : Cond.methodLinkNest "ObjectFile$Writer" 214 ⟨"ObjectFile$Contents", "relocationFact", "(II)I"⟩ "ObjectFile" ∈ gNw := List.mem_filter.mpr ⟨gI3 103 rfl, rfl⟩
theorem nw_602 : Cond.fieldLinkNest "ObjectFile$Writer" 225 "ObjectFile" "SORTS" "[I" "ObjectFile" ∈ gNw := List.mem_filter.mpr ⟨gI3 122 rfl, rfl⟩
theorem nw_604 : Cond.fieldLinkNest "ObjectFile$Writer" 228 "ObjectFile" "FLAGS" "[I" "ObjectFile" ∈ gNw := List.mem_filter.mpr ⟨gI3 124 rfl, rfl⟩
theorem nw_610 : Cond.methodLinkNest "ObjectFile$Writer" 240 ⟨"ObjectFile", "isRela", "(I)Z"⟩ "ObjectFile" ∈ gNw := List.mem_filter.mpr ⟨gI3 130 rfl, rfl⟩
theorem nw_617 : Cond.fieldLinkNest "ObjectFile$Writer" 237 "ObjectFile" "UNITS" "[I" "ObjectFile" ∈ gNw := List.mem_filter.mpr ⟨gI3 137 rfl, rfl⟩
theorem nw_627 : Cond.methodLinkNest "ObjectFile" 137 ⟨"ObjectFile$FileBytes", "has", "(I)Z"⟩ "ObjectFile" ∈ gNw := List.mem_filter.mpr ⟨gI3 147 rfl, rfl⟩
theorem nw_631 : Cond.methodLinkNest "ObjectFile" 140 ⟨"ObjectFile$FileBytes", "u1", "(I)I"⟩ "ObjectFile" ∈ gNw := List.mem_filter.mpr ⟨gI3 151 rfl, rfl⟩
theorem nw_639 : Cond.methodLinkNest "ObjectFile" 144 ⟨"ObjectFile$FileBytes", "append", "(IJ)Z"⟩ "ObjectFile" ∈ gNw := List.mem_filter.mpr ⟨gI3 159 rfl, rfl⟩
theorem nw_651 : Cond.methodLinkNest "ObjectFile" 147 ⟨"ObjectFile$FileBytes", "put1", "(II)V"⟩ "ObjectFile" ∈ gNw := List.mem_filter.mpr ⟨gI3 171 rfl, rfl⟩
theorem nw_656 : Cond.methodLinkNest "ObjectFile" 154 ⟨"ObjectFile$Directory", "firstFault", "()I"⟩ "ObjectFile" ∈ gNw := List.mem_filter.mpr ⟨gI3 176 rfl, rfl⟩
theorem nw_664 : Cond.methodLinkNest "ObjectFile$Directory" 45 ⟨"ObjectFile$Finding", "tell", "(II)I"⟩ "ObjectFile" ∈ gNw := List.mem_filter.mpr ⟨gI3 184 rfl, rfl⟩
theorem nw_668 : Cond.fieldLinkNest "ObjectFile$Directory" 88 "ObjectFile" "MAGIC" "[I" "ObjectFile" ∈ gNw := List.mem_filter.mpr ⟨gI3 188 rfl, rfl⟩
theorem nw_669 : Cond.methodLinkNest "ObjectFile$Directory" 91 ⟨"ObjectFile$FileBytes", "u1", "(I)I"⟩ "ObjectFile" ∈ gNw := List.mem_filter.mpr ⟨gI3 189 rfl, rfl⟩
theorem nw_670 : Cond.methodLinkNest "ObjectFile$Directory" 95 ⟨"ObjectFile$FileBytes", "u2", "(I)I"⟩ "ObjectFile" ∈ gNw := List.mem_filter.mpr ⟨gI3 190 rfl, rfl⟩
theorem nw_682 : Cond.methodLinkNest "ObjectFile$Directory" 39 ⟨"ObjectFile$FileBytes", "u4", "(I)J"⟩ "ObjectFile" ∈ gNw := List.mem_filter.mpr ⟨gI3 202 rfl, rfl⟩
theorem nw_709 : Cond.methodLinkNest "ObjectFile$Directory" 121 ⟨"ObjectFile", "isAlignment", "(J)Z"⟩ "ObjectFile" ∈ gNw := List.mem_filter.mpr ⟨gI3 229 rfl, rfl⟩
theorem nw_728 : Cond.methodLinkNest "ObjectFile$Directory" 140 ⟨"ObjectFile", "labelOf", "(I)Ljava/lang/String;"⟩ "ObjectFile" ∈ gNw := List.mem_filter.mpr ⟨gI4 8 rfl, rfl⟩
theorem nw_743 : Cond.fieldLinkNest "ObjectFile$Directory" 159 "ObjectFile" "SORTS" "[I" "ObjectFile" ∈ gNw := List.mem_filter.mpr ⟨gI4 23 rfl, rfl⟩
theorem nw_744 : Cond.fieldLinkNest "ObjectFile$Directory" 162 "ObjectFile" "FLAGS" "[I" "ObjectFile" ∈ gNw := List.mem_filter.mpr ⟨gI4 24 rfl, rfl⟩
theorem nw_749 : Cond.methodLinkNest "ObjectFile$Directory" 175 ⟨"ObjectFile", "isRela", "(I)Z"⟩ "ObjectFile" ∈ gNw := List.mem_filter.mpr ⟨gI4 29 rfl, rfl⟩
theorem nw_754 : Cond.fieldLinkNest "ObjectFile$Directory" 172 "ObjectFile" "UNITS" "[I" "ObjectFile" ∈ gNw := List.mem_filter.mpr ⟨gI4 34 rfl, rfl⟩
theorem nw_777 : Cond.methodLinkNest "ObjectFile" 157 ⟨"ObjectFile$Reader", "firstFault", "()I"⟩ "ObjectFile" ∈ gNw := List.mem_filter.mpr ⟨gI4 57 rfl, rfl⟩
theorem nw_785 : Cond.methodLinkNest "ObjectFile$Reader" 42 ⟨"ObjectFile$FileBytes", "u1", "(I)I"⟩ "ObjectFile" ∈ gNw := List.mem_filter.mpr ⟨gI4 65 rfl, rfl⟩
theorem nw_786 : Cond.methodLinkNest "ObjectFile$Reader" 48 ⟨"ObjectFile$Finding", "tell", "(II)I"⟩ "ObjectFile" ∈ gNw := List.mem_filter.mpr ⟨gI4 66 rfl, rfl⟩
theorem nw_799 : Cond.methodLinkNest "ObjectFile$Reader" 98 ⟨"ObjectFile$FileBytes", "u4", "(I)J"⟩ "ObjectFile" ∈ gNw := List.mem_filter.mpr ⟨gI4 79 rfl, rfl⟩
theorem nw_804 : Cond.methodLinkNest "ObjectFile$Reader" 115 ⟨"ObjectFile", "isNameCharacter", "(I)Z"⟩ "ObjectFile" ∈ gNw := List.mem_filter.mpr ⟨gI4 84 rfl, rfl⟩
theorem nw_809 : Cond.methodLinkNest "ObjectFile$Reader" 81 ⟨"ObjectFile", "isBindOrType", "(I)Z"⟩ "ObjectFile" ∈ gNw := List.mem_filter.mpr ⟨gI4 89 rfl, rfl⟩
theorem nw_818 : Cond.methodLinkNest "ObjectFile$Reader" 106 ⟨"ObjectFile$FileBytes", "u2", "(I)I"⟩ "ObjectFile" ∈ gNw := List.mem_filter.mpr ⟨gI4 98 rfl, rfl⟩
theorem nw_819 : Cond.methodLinkNest "ObjectFile$Reader" 109 ⟨"ObjectFile$Directory", "sectionOf", "(I)I"⟩ "ObjectFile" ∈ gNw := List.mem_filter.mpr ⟨gI4 99 rfl, rfl⟩
theorem nw_827 : Cond.methodLinkNest "ObjectFile$Reader" 102 ⟨"ObjectFile", "flawOf", "(IIIIJ)I"⟩ "ObjectFile" ∈ gNw := List.mem_filter.mpr ⟨gI4 107 rfl, rfl⟩
theorem nw_836 : Cond.methodLinkNest "ObjectFile$Reader" 67 ⟨"ObjectFile$Directory", "numberOf", "(II)J"⟩ "ObjectFile" ∈ gNw := List.mem_filter.mpr ⟨gI4 116 rfl, rfl⟩
theorem nw_837 : Cond.methodLinkNest "ObjectFile$Reader" 71 ⟨"ObjectFile$Directory", "tellEntry", "(III)I"⟩ "ObjectFile" ∈ gNw := List.mem_filter.mpr ⟨gI4 117 rfl, rfl⟩
theorem nw_846 : Cond.methodLinkNest "ObjectFile$Reader" 124 ⟨"ObjectFile", "kindMayBeIn", "(II)Z"⟩ "ObjectFile" ∈ gNw := List.mem_filter.mpr ⟨gI4 126 rfl, rfl⟩
theorem nw_851 : Cond.methodLinkNest "ObjectFile$Reader" 130 ⟨"ObjectFile", "hasSymbol", "(I)Z"⟩ "ObjectFile" ∈ gNw := List.mem_filter.mpr ⟨gI4 131 rfl, rfl⟩
theorem nw_852 : Cond.methodLinkNest "ObjectFile$Reader" 133 ⟨"ObjectFile", "addendMayBe", "(II)Z"⟩ "ObjectFile" ∈ gNw := List.mem_filter.mpr ⟨gI4 132 rfl, rfl⟩
theorem nw_853 : Cond.methodLinkNest "ObjectFile$Reader" 136 ⟨"ObjectFile", "widthOf", "(II)I"⟩ "ObjectFile" ∈ gNw := List.mem_filter.mpr ⟨gI4 133 rfl, rfl⟩
theorem nw_858 : Cond.methodLinkNest "ObjectFile$Reader" 139 ⟨"ObjectFile", "isShort", "(I)Z"⟩ "ObjectFile" ∈ gNw := List.mem_filter.mpr ⟨gI4 138 rfl, rfl⟩
theorem nw_859 : Cond.methodLinkNest "ObjectFile" 158 ⟨"ObjectFile$Reader", "fill", "(LObjectFile$Contents;)V"⟩ "ObjectFile" ∈ gNw := List.mem_filter.mpr ⟨gI4 139 rfl, rfl⟩
theorem nw_863 : Cond.methodLinkNest "ObjectFile$Reader" 142 ⟨"ObjectFile$Contents", "reset", "()V"⟩ "ObjectFile" ∈ gNw := List.mem_filter.mpr ⟨gI4 143 rfl, rfl⟩
theorem nw_864 : Cond.methodLinkNest "ObjectFile$Reader" 156 ⟨"ObjectFile$FileBytes", "copyOut", "(I[BII)V"⟩ "ObjectFile" ∈ gNw := List.mem_filter.mpr ⟨gI4 144 rfl, rfl⟩
theorem nw_868 : Cond.methodLinkNest "ObjectFile$Reader" 160 ⟨"ObjectFile$Contents", "addStart", "(I)Z"⟩ "ObjectFile" ∈ gNw := List.mem_filter.mpr ⟨gI4 148 rfl, rfl⟩
theorem nw_873 : Cond.methodLinkNest "ObjectFile$Reader" 173 ⟨"ObjectFile$Contents", "addSymbol", "([BII)I"⟩ "ObjectFile" ∈ gNw := List.mem_filter.mpr ⟨gI4 153 rfl, rfl⟩
theorem nw_874 : Cond.methodLinkNest "ObjectFile$Reader" 177 ⟨"ObjectFile$Contents", "tellSymbol", "(IIIIII)V"⟩ "ObjectFile" ∈ gNw := List.mem_filter.mpr ⟨gI4 154 rfl, rfl⟩
theorem nw_879 : Cond.methodLinkNest "ObjectFile$Reader" 181 ⟨"ObjectFile$Contents", "addRelocation", "(IIIII)I"⟩ "ObjectFile" ∈ gNw := List.mem_filter.mpr ⟨gI4 159 rfl, rfl⟩
theorem nw_888 : Cond.methodLinkNest "ObjectFile" 162 ⟨"ObjectFile$Contents", "copyAll", "(LObjectFile$Contents;)V"⟩ "ObjectFile" ∈ gNw := List.mem_filter.mpr ⟨gI4 168 rfl, rfl⟩
theorem nw_900 : Cond.methodLinkNest "ObjectFile" 165 ⟨"ObjectFile$Contents", "byteOf", "(II)I"⟩ "ObjectFile" ∈ gNw := List.mem_filter.mpr ⟨gI4 180 rfl, rfl⟩
theorem nw_905 : Cond.methodLinkNest "ObjectFile" 175 ⟨"ObjectFile$Contents", "shortStarts", "()I"⟩ "ObjectFile" ∈ gNw := List.mem_filter.mpr ⟨gI4 185 rfl, rfl⟩
theorem nw_910 : Cond.methodLinkNest "ObjectFile" 178 ⟨"ObjectFile$Contents", "startOf", "(I)I"⟩ "ObjectFile" ∈ gNw := List.mem_filter.mpr ⟨gI4 190 rfl, rfl⟩
theorem nw_915 : Cond.methodLinkNest "ObjectFile" 181 ⟨"ObjectFile$Contents", "symbolFact", "(II)I"⟩ "ObjectFile" ∈ gNw := List.mem_filter.mpr ⟨gI4 195 rfl, rfl⟩
theorem nw_916 : Cond.methodLinkNest "ObjectFile" 184 ⟨"ObjectFile$Contents", "nameCharacter", "(II)I"⟩ "ObjectFile" ∈ gNw := List.mem_filter.mpr ⟨gI4 196 rfl, rfl⟩
theorem nw_921 : Cond.methodLinkNest "ObjectFile" 187 ⟨"ObjectFile$Contents", "relocationFact", "(II)I"⟩ "ObjectFile" ∈ gNw := List.mem_filter.mpr ⟨gI4 201 rfl, rfl⟩
theorem wmn_c : Cond.code Lib.Math.min.name Lib.Math.min.code 2 (some .int) ∈ gTs := gT0 (gI2 238 rfl) rfl
theorem mw_AR_fill0 : gMw gTs y_AR_fill0 b_AR_fill0 5 none 4 := ⟨gT0 (gI3 56 rfl) rfl, gT0 (gI1 10 rfl) rfl, by decide, by decide, by decide +kernel⟩
theorem mt_AR_fill0 : Cond.static y_AR_fill0 ∈ gTs := gT0 (gI3 55 rfl) rfl
theorem mw_AR_fill1 : gMw gTs y_AR_fill1 b_AR_fill1 4 none 2 := ⟨gT0 (gI2 31 rfl) rfl, gT0 (gI1 10 rfl) rfl, by decide, by decide, by decide +kernel⟩
theorem mt_AR_fill1 : Cond.static y_AR_fill1 ∈ gTs := gT0 (gI2 30 rfl) rfl
theorem mw_AR_rangeCheck : gMw gTs y_AR_rangeCheck b_AR_rangeCheck 3 none 3 := ⟨gT0 (gI3 59 rfl) rfl, gT0 (gI1 10 rfl) rfl, by decide, by decide, by decide +kernel⟩
theorem mt_AR_rangeCheck : Cond.static y_AR_rangeCheck ∈ gTs := gT0 (gI3 58 rfl) rfl
theorem mw_CT_addRelocation : gMw gTs y_CT_addRelocation b_CT_addRelocation 8 (some .int) 5 := ⟨gT0 (gI2 135 rfl) rfl, gT0 (gI1 2 rfl) rfl, by decide, by decide, by decide +kernel⟩
theorem mi_CT_addRelocation : Cond.instanceMethod y_CT_addRelocation ∈ gTs := gT0 (gI2 134 rfl) rfl
theorem ms_CT_addRelocation : Cond.selects "ObjectFile$Contents" y_CT_addRelocation y_CT_addRelocation ∈ gTs := gSel (List.mem_of_getElem? (i := 11) (by rfl : lw_privs[11]? = some (y_CT_addRelocation, 10)))
theorem mw_CT_addStart : gMw gTs y_CT_addStart b_CT_addStart 2 (some .boolean) 1 := ⟨gT0 (gI2 63 rfl) rfl, gT0 (gI1 2 rfl) rfl, by decide, by decide, by decide +kernel⟩
theorem mi_CT_addStart : Cond.instanceMethod y_CT_addStart ∈ gTs := gT0 (gI2 62 rfl) rfl
theorem ms_CT_addStart : Cond.selects "ObjectFile$Contents" y_CT_addStart y_CT_addStart ∈ gTs := gSel (List.mem_of_getElem? (i := 4) (by rfl : lw_privs[4]? = some (y_CT_addStart, 10)))
theorem mw_CT_addSymbol : gMw gTs y_CT_addSymbol b_CT_addSymbol 5 (some .int) 3 := ⟨gT0 (gI2 108 rfl) rfl, gT0 (gI1 2 rfl) rfl, by decide, by decide, by decide +kernel⟩
theorem mi_CT_addSymbol : Cond.instanceMethod y_CT_addSymbol ∈ gTs := gT0 (gI2 107 rfl) rfl
theorem ms_CT_addSymbol : Cond.selects "ObjectFile$Contents" y_CT_addSymbol y_CT_addSymbol ∈ gTs := gSel (List.mem_of_getElem? (i := 9) (by rfl : lw_privs[9]? = some (y_CT_addSymbol, 10)))
theorem mw_CT_append : gMw gTs y_CT_append b_CT_append 6 (some .boolean) 3 := ⟨gT0 (gI2 39 rfl) rfl, gT0 (gI1 2 rfl) rfl, by decide, by decide, by decide +kernel⟩
theorem mi_CT_append : Cond.instanceMethod y_CT_append ∈ gTs := gT0 (gI2 38 rfl) rfl
theorem ms_CT_append : Cond.selects "ObjectFile$Contents" y_CT_append y_CT_append ∈ gTs := gSel (List.mem_of_getElem? (i := 1) (by rfl : lw_privs[1]? = some (y_CT_append, 10)))
theorem mw_CT_byteOf : gMw gTs y_CT_byteOf b_CT_byteOf 3 (some .int) 2 := ⟨gT0 (gI3 85 rfl) rfl, gT0 (gI1 2 rfl) rfl, by decide, by decide, by decide +kernel⟩
theorem mi_CT_byteOf : Cond.instanceMethod y_CT_byteOf ∈ gTs := gT0 (gI3 84 rfl) rfl
theorem ms_CT_byteOf : Cond.selects "ObjectFile$Contents" y_CT_byteOf y_CT_byteOf ∈ gTs := gSel (List.mem_of_getElem? (i := 37) (by rfl : lw_privs[37]? = some (y_CT_byteOf, 10)))
theorem mw_CT_copyAll : gMw gTs y_CT_copyAll b_CT_copyAll 2 none 1 := ⟨gT0 (gI4 171 rfl) rfl, gT0 (gI1 2 rfl) rfl, by decide, by decide, by decide +kernel⟩
theorem mi_CT_copyAll : Cond.instanceMethod y_CT_copyAll ∈ gTs := gT0 (gI4 170 rfl) rfl
theorem ms_CT_copyAll : Cond.selects "ObjectFile$Contents" y_CT_copyAll y_CT_copyAll ∈ gTs := gSel (List.mem_of_getElem? (i := 95) (by rfl : lw_privs[95]? = some (y_CT_copyAll, 10)))
theorem mw_CT_hasGlobal : gMw gTs y_CT_hasGlobal b_CT_hasGlobal 4 (some .boolean) 2 := ⟨gT0 (gI2 92 rfl) rfl, gT0 (gI1 2 rfl) rfl, by decide, by decide, by decide +kernel⟩
theorem mi_CT_hasGlobal : Cond.instanceMethod y_CT_hasGlobal ∈ gTs := gT0 (gI2 91 rfl) rfl
theorem ms_CT_hasGlobal : Cond.selects "ObjectFile$Contents" y_CT_hasGlobal y_CT_hasGlobal ∈ gTs := gSel (List.mem_of_getElem? (i := 5) (by rfl : lw_privs[5]? = some (y_CT_hasGlobal, 10)))
theorem mw_CT_hasName : gMw gTs y_CT_hasName b_CT_hasName 5 (some .boolean) 3 := ⟨gT0 (gI2 100 rfl) rfl, gT0 (gI1 2 rfl) rfl, by decide, by decide, by decide +kernel⟩
theorem mi_CT_hasName : Cond.instanceMethod y_CT_hasName ∈ gTs := gT0 (gI2 99 rfl) rfl
theorem ms_CT_hasName : Cond.selects "ObjectFile$Contents" y_CT_hasName y_CT_hasName ∈ gTs := gSel (List.mem_of_getElem? (i := 7) (by rfl : lw_privs[7]? = some (y_CT_hasName, 10)))
theorem mw_CT_latestStart : gMw gTs y_CT_latestStart b_CT_latestStart 1 (some .int) 0 := ⟨gT0 (gI2 55 rfl) rfl, gT0 (gI1 2 rfl) rfl, by decide, by decide, by decide +kernel⟩
theorem mi_CT_latestStart : Cond.instanceMethod y_CT_latestStart ∈ gTs := gT0 (gI2 54 rfl) rfl
theorem ms_CT_latestStart : Cond.selects "ObjectFile$Contents" y_CT_latestStart y_CT_latestStart ∈ gTs := gSel (List.mem_of_getElem? (i := 2) (by rfl : lw_privs[2]? = some (y_CT_latestStart, 10)))
theorem mw_CT_nameCharacter : gMw gTs y_CT_nameCharacter b_CT_nameCharacter 3 (some .int) 2 := ⟨gT0 (gI2 104 rfl) rfl, gT0 (gI1 2 rfl) rfl, by decide, by decide, by decide +kernel⟩
theorem mi_CT_nameCharacter : Cond.instanceMethod y_CT_nameCharacter ∈ gTs := gT0 (gI2 103 rfl) rfl
theorem ms_CT_nameCharacter : Cond.selects "ObjectFile$Contents" y_CT_nameCharacter y_CT_nameCharacter ∈ gTs := gSel (List.mem_of_getElem? (i := 8) (by rfl : lw_privs[8]? = some (y_CT_nameCharacter, 10)))
theorem mw_CT_relocationFact : gMw gTs y_CT_relocationFact b_CT_relocationFact 3 (some .int) 2 := ⟨gT0 (gI2 160 rfl) rfl, gT0 (gI1 2 rfl) rfl, by decide, by decide, by decide +kernel⟩
theorem mi_CT_relocationFact : Cond.instanceMethod y_CT_relocationFact ∈ gTs := gT0 (gI2 159 rfl) rfl
theorem ms_CT_relocationFact : Cond.selects "ObjectFile$Contents" y_CT_relocationFact y_CT_relocationFact ∈ gTs := gSel (List.mem_of_getElem? (i := 16) (by rfl : lw_privs[16]? = some (y_CT_relocationFact, 10)))
theorem mw_CT_relocationGoesBeyond : gMw gTs y_CT_relocationGoesBeyond b_CT_relocationGoesBeyond 4 (some .boolean) 0 := ⟨gT0 (gI2 156 rfl) rfl, gT0 (gI1 2 rfl) rfl, by decide, by decide, by decide +kernel⟩
theorem mi_CT_relocationGoesBeyond : Cond.instanceMethod y_CT_relocationGoesBeyond ∈ gTs := gT0 (gI2 155 rfl) rfl
theorem ms_CT_relocationGoesBeyond : Cond.selects "ObjectFile$Contents" y_CT_relocationGoesBeyond y_CT_relocationGoesBeyond ∈ gTs := gSel (List.mem_of_getElem? (i := 15) (by rfl : lw_privs[15]? = some (y_CT_relocationGoesBeyond, 10)))
theorem mw_CT_relocationsOf : gMw gTs y_CT_relocationsOf b_CT_relocationsOf 4 (some .int) 1 := ⟨gT0 (gI2 199 rfl) rfl, gT0 (gI1 2 rfl) rfl, by decide, by decide, by decide +kernel⟩
theorem mi_CT_relocationsOf : Cond.instanceMethod y_CT_relocationsOf ∈ gTs := gT0 (gI2 198 rfl) rfl
theorem ms_CT_relocationsOf : Cond.selects "ObjectFile$Contents" y_CT_relocationsOf y_CT_relocationsOf ∈ gTs := gSel (List.mem_of_getElem? (i := 25) (by rfl : lw_privs[25]? = some (y_CT_relocationsOf, 10)))
theorem mw_CT_reset : gMw gTs y_CT_reset b_CT_reset 1 none 0 := ⟨gT0 (gI2 28 rfl) rfl, gT0 (gI1 2 rfl) rfl, by decide, by decide, by decide +kernel⟩
theorem mi_CT_reset : Cond.instanceMethod y_CT_reset ∈ gTs := gT0 (gI2 27 rfl) rfl
theorem ms_CT_reset : Cond.selects "ObjectFile$Contents" y_CT_reset y_CT_reset ∈ gTs := gSel (List.mem_of_getElem? (i := 0) (by rfl : lw_privs[0]? = some (y_CT_reset, 10)))
theorem mw_CT_shortStarts : gMw gTs y_CT_shortStarts b_CT_shortStarts 3 (some .int) 0 := ⟨gT0 (gI3 81 rfl) rfl, gT0 (gI1 2 rfl) rfl, by decide, by decide, by decide +kernel⟩
theorem mi_CT_shortStarts : Cond.instanceMethod y_CT_shortStarts ∈ gTs := gT0 (gI3 80 rfl) rfl
theorem ms_CT_shortStarts : Cond.selects "ObjectFile$Contents" y_CT_shortStarts y_CT_shortStarts ∈ gTs := gSel (List.mem_of_getElem? (i := 36) (by rfl : lw_privs[36]? = some (y_CT_shortStarts, 10)))
theorem mw_CT_startGoesBeyond : gMw gTs y_CT_startGoesBeyond b_CT_startGoesBeyond 1 (some .boolean) 0 := ⟨gT0 (gI2 147 rfl) rfl, gT0 (gI1 2 rfl) rfl, by decide, by decide, by decide +kernel⟩
theorem mi_CT_startGoesBeyond : Cond.instanceMethod y_CT_startGoesBeyond ∈ gTs := gT0 (gI2 146 rfl) rfl
theorem ms_CT_startGoesBeyond : Cond.selects "ObjectFile$Contents" y_CT_startGoesBeyond y_CT_startGoesBeyond ∈ gTs := gSel (List.mem_of_getElem? (i := 13) (by rfl : lw_privs[13]? = some (y_CT_startGoesBeyond, 10)))
theorem mw_CT_startOf : gMw gTs y_CT_startOf b_CT_startOf 2 (some .int) 1 := ⟨gT0 (gI2 59 rfl) rfl, gT0 (gI1 2 rfl) rfl, by decide, by decide, by decide +kernel⟩
theorem mi_CT_startOf : Cond.instanceMethod y_CT_startOf ∈ gTs := gT0 (gI2 58 rfl) rfl
theorem ms_CT_startOf : Cond.selects "ObjectFile$Contents" y_CT_startOf y_CT_startOf ∈ gTs := gSel (List.mem_of_getElem? (i := 3) (by rfl : lw_privs[3]? = some (y_CT_startOf, 10)))
theorem mw_CT_symbolFact : gMw gTs y_CT_symbolFact b_CT_symbolFact 3 (some .int) 2 := ⟨gT0 (gI2 96 rfl) rfl, gT0 (gI1 2 rfl) rfl, by decide, by decide, by decide +kernel⟩
theorem mi_CT_symbolFact : Cond.instanceMethod y_CT_symbolFact ∈ gTs := gT0 (gI2 95 rfl) rfl
theorem ms_CT_symbolFact : Cond.selects "ObjectFile$Contents" y_CT_symbolFact y_CT_symbolFact ∈ gTs := gSel (List.mem_of_getElem? (i := 6) (by rfl : lw_privs[6]? = some (y_CT_symbolFact, 10)))
theorem mw_CT_symbolGoesBeyond : gMw gTs y_CT_symbolGoesBeyond b_CT_symbolGoesBeyond 3 (some .boolean) 0 := ⟨gT0 (gI2 152 rfl) rfl, gT0 (gI1 2 rfl) rfl, by decide, by decide, by decide +kernel⟩
theorem mi_CT_symbolGoesBeyond : Cond.instanceMethod y_CT_symbolGoesBeyond ∈ gTs := gT0 (gI2 151 rfl) rfl
theorem ms_CT_symbolGoesBeyond : Cond.selects "ObjectFile$Contents" y_CT_symbolGoesBeyond y_CT_symbolGoesBeyond ∈ gTs := gSel (List.mem_of_getElem? (i := 14) (by rfl : lw_privs[14]? = some (y_CT_symbolGoesBeyond, 10)))
theorem mw_CT_tellSymbol : gMw gTs y_CT_tellSymbol b_CT_tellSymbol 8 none 6 := ⟨gT0 (gI2 115 rfl) rfl, gT0 (gI1 2 rfl) rfl, by decide, by decide, by decide +kernel⟩
theorem mi_CT_tellSymbol : Cond.instanceMethod y_CT_tellSymbol ∈ gTs := gT0 (gI2 114 rfl) rfl
theorem ms_CT_tellSymbol : Cond.selects "ObjectFile$Contents" y_CT_tellSymbol y_CT_tellSymbol ∈ gTs := gSel (List.mem_of_getElem? (i := 10) (by rfl : lw_privs[10]? = some (y_CT_tellSymbol, 10)))
theorem mw_DI_entriesFault : gMw gTs y_DI_entriesFault b_DI_entriesFault 3 (some .int) 0 := ⟨gT0 (gI3 215 rfl) rfl, gT0 (gI1 7 rfl) rfl, by decide, by decide, by decide +kernel⟩
theorem mi_DI_entriesFault : Cond.instanceMethod y_DI_entriesFault ∈ gTs := gT0 (gI3 214 rfl) rfl
theorem ms_DI_entriesFault : Cond.selects "ObjectFile$Directory" y_DI_entriesFault y_DI_entriesFault ∈ gTs := gSel (List.mem_of_getElem? (i := 58) (by rfl : lw_privs[58]? = some (y_DI_entriesFault, 10)))
theorem mw_DI_entryFault : gMw gTs y_DI_entryFault b_DI_entryFault 11 (some .int) 1 := ⟨gT0 (gI3 227 rfl) rfl, gT0 (gI1 7 rfl) rfl, by decide, by decide, by decide +kernel⟩
theorem mi_DI_entryFault : Cond.instanceMethod y_DI_entryFault ∈ gTs := gT0 (gI3 226 rfl) rfl
theorem ms_DI_entryFault : Cond.selects "ObjectFile$Directory" y_DI_entryFault y_DI_entryFault ∈ gTs := gSel (List.mem_of_getElem? (i := 61) (by rfl : lw_privs[61]? = some (y_DI_entryFault, 10)))
theorem mw_DI_firstFault : gMw gTs y_DI_firstFault b_DI_firstFault 2 (some .int) 0 := ⟨gT0 (gI3 179 rfl) rfl, gT0 (gI1 7 rfl) rfl, by decide, by decide, by decide +kernel⟩
theorem mi_DI_firstFault : Cond.instanceMethod y_DI_firstFault ∈ gTs := gT0 (gI3 178 rfl) rfl
theorem ms_DI_firstFault : Cond.selects "ObjectFile$Directory" y_DI_firstFault y_DI_firstFault ∈ gTs := gSel (List.mem_of_getElem? (i := 50) (by rfl : lw_privs[50]? = some (y_DI_firstFault, 10)))
theorem mw_DI_headerFault : gMw gTs y_DI_headerFault b_DI_headerFault 2 (some .int) 0 := ⟨gT0 (gI3 197 rfl) rfl, gT0 (gI1 7 rfl) rfl, by decide, by decide, by decide +kernel⟩
theorem mi_DI_headerFault : Cond.instanceMethod y_DI_headerFault ∈ gTs := gT0 (gI3 196 rfl) rfl
theorem ms_DI_headerFault : Cond.selects "ObjectFile$Directory" y_DI_headerFault y_DI_headerFault ∈ gTs := gSel (List.mem_of_getElem? (i := 54) (by rfl : lw_privs[54]? = some (y_DI_headerFault, 10)))
theorem mw_DI_infoIsRight : gMw gTs y_DI_infoIsRight b_DI_infoIsRight 4 (some .boolean) 2 := ⟨gT0 (gI4 33 rfl) rfl, gT0 (gI1 7 rfl) rfl, by decide, by decide, by decide +kernel⟩
theorem mi_DI_infoIsRight : Cond.instanceMethod y_DI_infoIsRight ∈ gTs := gT0 (gI4 32 rfl) rfl
theorem ms_DI_infoIsRight : Cond.selects "ObjectFile$Directory" y_DI_infoIsRight y_DI_infoIsRight ∈ gTs := gSel (List.mem_of_getElem? (i := 70) (by rfl : lw_privs[70]? = some (y_DI_infoIsRight, 10)))
theorem mw_DI_labelsFault : gMw gTs y_DI_labelsFault b_DI_labelsFault 3 (some .int) 0 := ⟨gT0 (gI4 2 rfl) rfl, gT0 (gI1 7 rfl) rfl, by decide, by decide, by decide +kernel⟩
theorem mi_DI_labelsFault : Cond.instanceMethod y_DI_labelsFault ∈ gTs := gT0 (gI4 1 rfl) rfl
theorem ms_DI_labelsFault : Cond.selects "ObjectFile$Directory" y_DI_labelsFault y_DI_labelsFault ∈ gTs := gSel (List.mem_of_getElem? (i := 64) (by rfl : lw_privs[64]? = some (y_DI_labelsFault, 10)))
theorem mw_DI_lengthMayBe : gMw gTs y_DI_lengthMayBe b_DI_lengthMayBe 3 (some .boolean) 2 := ⟨gT0 (gI4 46 rfl) rfl, gT0 (gI1 7 rfl) rfl, by decide, by decide, by decide +kernel⟩
theorem mt_DI_lengthMayBe : Cond.static y_DI_lengthMayBe ∈ gTs := gT0 (gI4 45 rfl) rfl
theorem mw_DI_lengthsFault : gMw gTs y_DI_lengthsFault b_DI_lengthsFault 6 (some .int) 0 := ⟨gT0 (gI4 42 rfl) rfl, gT0 (gI1 7 rfl) rfl, by decide, by decide, by decide +kernel⟩
theorem mi_DI_lengthsFault : Cond.instanceMethod y_DI_lengthsFault ∈ gTs := gT0 (gI4 41 rfl) rfl
theorem ms_DI_lengthsFault : Cond.selects "ObjectFile$Directory" y_DI_lengthsFault y_DI_lengthsFault ∈ gTs := gSel (List.mem_of_getElem? (i := 72) (by rfl : lw_privs[72]? = some (y_DI_lengthsFault, 10)))
theorem mw_DI_linkIsRight : gMw gTs y_DI_linkIsRight b_DI_linkIsRight 4 (some .boolean) 2 := ⟨gT0 (gI4 28 rfl) rfl, gT0 (gI1 7 rfl) rfl, by decide, by decide, by decide +kernel⟩
theorem mi_DI_linkIsRight : Cond.instanceMethod y_DI_linkIsRight ∈ gTs := gT0 (gI4 27 rfl) rfl
theorem ms_DI_linkIsRight : Cond.selects "ObjectFile$Directory" y_DI_linkIsRight y_DI_linkIsRight ∈ gTs := gSel (List.mem_of_getElem? (i := 69) (by rfl : lw_privs[69]? = some (y_DI_linkIsRight, 10)))
theorem mw_DI_locateParts : gMw gTs y_DI_locateParts b_DI_locateParts 3 none 0 := ⟨gT0 (gI4 56 rfl) rfl, gT0 (gI1 7 rfl) rfl, by decide, by decide, by decide +kernel⟩
theorem mi_DI_locateParts : Cond.instanceMethod y_DI_locateParts ∈ gTs := gT0 (gI4 55 rfl) rfl
theorem ms_DI_locateParts : Cond.selects "ObjectFile$Directory" y_DI_locateParts y_DI_locateParts ∈ gTs := gSel (List.mem_of_getElem? (i := 73) (by rfl : lw_privs[73]? = some (y_DI_locateParts, 10)))
theorem mw_DI_markFault : gMw gTs y_DI_markFault b_DI_markFault 2 (some .int) 0 := ⟨gT0 (gI3 183 rfl) rfl, gT0 (gI1 7 rfl) rfl, by decide, by decide, by decide +kernel⟩
theorem mi_DI_markFault : Cond.instanceMethod y_DI_markFault ∈ gTs := gT0 (gI3 182 rfl) rfl
theorem ms_DI_markFault : Cond.selects "ObjectFile$Directory" y_DI_markFault y_DI_markFault ∈ gTs := gSel (List.mem_of_getElem? (i := 51) (by rfl : lw_privs[51]? = some (y_DI_markFault, 10)))
theorem mw_DI_missingFault : gMw gTs y_DI_missingFault b_DI_missingFault 2 (some .int) 0 := ⟨gT0 (gI4 38 rfl) rfl, gT0 (gI1 7 rfl) rfl, by decide, by decide, by decide +kernel⟩
theorem mi_DI_missingFault : Cond.instanceMethod y_DI_missingFault ∈ gTs := gT0 (gI4 37 rfl) rfl
theorem ms_DI_missingFault : Cond.selects "ObjectFile$Directory" y_DI_missingFault y_DI_missingFault ∈ gTs := gSel (List.mem_of_getElem? (i := 71) (by rfl : lw_privs[71]? = some (y_DI_missingFault, 10)))
theorem mw_DI_numberOf : gMw gTs y_DI_numberOf b_DI_numberOf 3 (some .long) 2 := ⟨gT0 (gI3 219 rfl) rfl, gT0 (gI1 7 rfl) rfl, by decide, by decide, by decide +kernel⟩
theorem mi_DI_numberOf : Cond.instanceMethod y_DI_numberOf ∈ gTs := gT0 (gI3 218 rfl) rfl
theorem ms_DI_numberOf : Cond.selects "ObjectFile$Directory" y_DI_numberOf y_DI_numberOf ∈ gTs := gSel (List.mem_of_getElem? (i := 59) (by rfl : lw_privs[59]? = some (y_DI_numberOf, 10)))
theorem mw_DI_numbersFault : gMw gTs y_DI_numbersFault b_DI_numbersFault 3 (some .int) 0 := ⟨gT0 (gI4 18 rfl) rfl, gT0 (gI1 7 rfl) rfl, by decide, by decide, by decide +kernel⟩
theorem mi_DI_numbersFault : Cond.instanceMethod y_DI_numbersFault ∈ gTs := gT0 (gI4 17 rfl) rfl
theorem ms_DI_numbersFault : Cond.selects "ObjectFile$Directory" y_DI_numbersFault y_DI_numbersFault ∈ gTs := gSel (List.mem_of_getElem? (i := 67) (by rfl : lw_privs[67]? = some (y_DI_numbersFault, 10)))
theorem mw_DI_partNamedBy : gMw gTs y_DI_partNamedBy b_DI_partNamedBy 6 (some .int) 1 := ⟨gT0 (gI4 7 rfl) rfl, gT0 (gI1 7 rfl) rfl, by decide, by decide, by decide +kernel⟩
theorem mi_DI_partNamedBy : Cond.instanceMethod y_DI_partNamedBy ∈ gTs := gT0 (gI4 6 rfl) rfl
theorem ms_DI_partNamedBy : Cond.selects "ObjectFile$Directory" y_DI_partNamedBy y_DI_partNamedBy ∈ gTs := gSel (List.mem_of_getElem? (i := 65) (by rfl : lw_privs[65]? = some (y_DI_partNamedBy, 10)))
theorem mw_DI_sectionOf : gMw gTs y_DI_sectionOf b_DI_sectionOf 2 (some .int) 1 := ⟨gT0 (gI4 102 rfl) rfl, gT0 (gI1 7 rfl) rfl, by decide, by decide, by decide +kernel⟩
theorem mi_DI_sectionOf : Cond.instanceMethod y_DI_sectionOf ∈ gTs := gT0 (gI4 101 rfl) rfl
theorem ms_DI_sectionOf : Cond.selects "ObjectFile$Directory" y_DI_sectionOf y_DI_sectionOf ∈ gTs := gSel (List.mem_of_getElem? (i := 83) (by rfl : lw_privs[83]? = some (y_DI_sectionOf, 10)))
theorem mw_DI_sharesBytes : gMw gTs y_DI_sharesBytes b_DI_sharesBytes 11 (some .boolean) 3 := ⟨gT0 (gI3 233 rfl) rfl, gT0 (gI1 7 rfl) rfl, by decide, by decide, by decide +kernel⟩
theorem mi_DI_sharesBytes : Cond.instanceMethod y_DI_sharesBytes ∈ gTs := gT0 (gI3 232 rfl) rfl
theorem ms_DI_sharesBytes : Cond.selects "ObjectFile$Directory" y_DI_sharesBytes y_DI_sharesBytes ∈ gTs := gSel (List.mem_of_getElem? (i := 62) (by rfl : lw_privs[62]? = some (y_DI_sharesBytes, 10)))
theorem mw_DI_standsAt : gMw gTs y_DI_standsAt b_DI_standsAt 5 (some .boolean) 2 := ⟨gT0 (gI4 12 rfl) rfl, gT0 (gI1 7 rfl) rfl, by decide, by decide, by decide +kernel⟩
theorem mi_DI_standsAt : Cond.instanceMethod y_DI_standsAt ∈ gTs := gT0 (gI4 11 rfl) rfl
theorem ms_DI_standsAt : Cond.selects "ObjectFile$Directory" y_DI_standsAt y_DI_standsAt ∈ gTs := gSel (List.mem_of_getElem? (i := 66) (by rfl : lw_privs[66]? = some (y_DI_standsAt, 10)))
theorem mw_DI_stringsFault : gMw gTs y_DI_stringsFault b_DI_stringsFault 6 (some .int) 2 := ⟨gT0 (gI3 237 rfl) rfl, gT0 (gI1 7 rfl) rfl, by decide, by decide, by decide +kernel⟩
theorem mi_DI_stringsFault : Cond.instanceMethod y_DI_stringsFault ∈ gTs := gT0 (gI3 236 rfl) rfl
theorem ms_DI_stringsFault : Cond.selects "ObjectFile$Directory" y_DI_stringsFault y_DI_stringsFault ∈ gTs := gSel (List.mem_of_getElem? (i := 63) (by rfl : lw_privs[63]? = some (y_DI_stringsFault, 10)))
theorem mw_DI_tellEntry : gMw gTs y_DI_tellEntry b_DI_tellEntry 4 (some .int) 3 := ⟨gT0 (gI3 223 rfl) rfl, gT0 (gI1 7 rfl) rfl, by decide, by decide, by decide +kernel⟩
theorem mi_DI_tellEntry : Cond.instanceMethod y_DI_tellEntry ∈ gTs := gT0 (gI3 222 rfl) rfl
theorem ms_DI_tellEntry : Cond.selects "ObjectFile$Directory" y_DI_tellEntry y_DI_tellEntry ∈ gTs := gSel (List.mem_of_getElem? (i := 60) (by rfl : lw_privs[60]? = some (y_DI_tellEntry, 10)))
theorem mw_DI_wrongEntryCount : gMw gTs y_DI_wrongEntryCount b_DI_wrongEntryCount 3 (some .int) 0 := ⟨gT0 (gI3 211 rfl) rfl, gT0 (gI1 7 rfl) rfl, by decide, by decide, by decide +kernel⟩
theorem mi_DI_wrongEntryCount : Cond.instanceMethod y_DI_wrongEntryCount ∈ gTs := gT0 (gI3 210 rfl) rfl
theorem ms_DI_wrongEntryCount : Cond.selects "ObjectFile$Directory" y_DI_wrongEntryCount y_DI_wrongEntryCount ∈ gTs := gSel (List.mem_of_getElem? (i := 57) (by rfl : lw_privs[57]? = some (y_DI_wrongEntryCount, 10)))
theorem mw_DI_wrongHeaderNumber : gMw gTs y_DI_wrongHeaderNumber b_DI_wrongHeaderNumber 1 (some .int) 0 := ⟨gT0 (gI3 201 rfl) rfl, gT0 (gI1 7 rfl) rfl, by decide, by decide, by decide +kernel⟩
theorem mi_DI_wrongHeaderNumber : Cond.instanceMethod y_DI_wrongHeaderNumber ∈ gTs := gT0 (gI3 200 rfl) rfl
theorem ms_DI_wrongHeaderNumber : Cond.selects "ObjectFile$Directory" y_DI_wrongHeaderNumber y_DI_wrongHeaderNumber ∈ gTs := gSel (List.mem_of_getElem? (i := 55) (by rfl : lw_privs[55]? = some (y_DI_wrongHeaderNumber, 10)))
theorem mw_DI_wrongNumber : gMw gTs y_DI_wrongNumber b_DI_wrongNumber 3 (some .int) 2 := ⟨gT0 (gI4 22 rfl) rfl, gT0 (gI1 7 rfl) rfl, by decide, by decide, by decide +kernel⟩
theorem mi_DI_wrongNumber : Cond.instanceMethod y_DI_wrongNumber ∈ gTs := gT0 (gI4 21 rfl) rfl
theorem ms_DI_wrongNumber : Cond.selects "ObjectFile$Directory" y_DI_wrongNumber y_DI_wrongNumber ∈ gTs := gSel (List.mem_of_getElem? (i := 68) (by rfl : lw_privs[68]? = some (y_DI_wrongNumber, 10)))
theorem mw_FB_append : gMw gTs y_FB_append b_FB_append 5 (some .boolean) 2 := ⟨gT0 (gI3 162 rfl) rfl, gT0 (gI1 3 rfl) rfl, by decide, by decide, by decide +kernel⟩
theorem mi_FB_append : Cond.instanceMethod y_FB_append ∈ gTs := gT0 (gI3 161 rfl) rfl
theorem ms_FB_append : Cond.selects "ObjectFile$FileBytes" y_FB_append y_FB_append ∈ gTs := gSel (List.mem_of_getElem? (i := 49) (by rfl : lw_privs[49]? = some (y_FB_append, 2)))
theorem mw_FB_copyIn : gMw gTs y_FB_copyIn b_FB_copyIn 5 none 4 := ⟨gT0 (gI3 96 rfl) rfl, gT0 (gI1 3 rfl) rfl, by decide, by decide, by decide +kernel⟩
theorem mi_FB_copyIn : Cond.instanceMethod y_FB_copyIn ∈ gTs := gT0 (gI3 95 rfl) rfl
theorem ms_FB_copyIn : Cond.selects "ObjectFile$FileBytes" y_FB_copyIn y_FB_copyIn ∈ gTs := gSel (List.mem_of_getElem? (i := 39) (by rfl : lw_privs[39]? = some (y_FB_copyIn, 2)))
theorem mw_FB_copyOut : gMw gTs y_FB_copyOut b_FB_copyOut 5 none 4 := ⟨gT0 (gI4 147 rfl) rfl, gT0 (gI1 3 rfl) rfl, by decide, by decide, by decide +kernel⟩
theorem mi_FB_copyOut : Cond.instanceMethod y_FB_copyOut ∈ gTs := gT0 (gI4 146 rfl) rfl
theorem ms_FB_copyOut : Cond.selects "ObjectFile$FileBytes" y_FB_copyOut y_FB_copyOut ∈ gTs := gSel (List.mem_of_getElem? (i := 92) (by rfl : lw_privs[92]? = some (y_FB_copyOut, 2)))
theorem mw_FB_has : gMw gTs y_FB_has b_FB_has 2 (some .boolean) 1 := ⟨gT0 (gI3 150 rfl) rfl, gT0 (gI1 3 rfl) rfl, by decide, by decide, by decide +kernel⟩
theorem mi_FB_has : Cond.instanceMethod y_FB_has ∈ gTs := gT0 (gI3 149 rfl) rfl
theorem ms_FB_has : Cond.selects "ObjectFile$FileBytes" y_FB_has y_FB_has ∈ gTs := gSel (List.mem_of_getElem? (i := 47) (by rfl : lw_privs[47]? = some (y_FB_has, 2)))
theorem mw_FB_put1 : gMw gTs y_FB_put1 b_FB_put1 3 none 2 := ⟨gT0 (gI3 69 rfl) rfl, gT0 (gI1 3 rfl) rfl, by decide, by decide, by decide +kernel⟩
theorem mi_FB_put1 : Cond.instanceMethod y_FB_put1 ∈ gTs := gT0 (gI3 68 rfl) rfl
theorem ms_FB_put1 : Cond.selects "ObjectFile$FileBytes" y_FB_put1 y_FB_put1 ∈ gTs := gSel (List.mem_of_getElem? (i := 33) (by rfl : lw_privs[33]? = some (y_FB_put1, 2)))
theorem mw_FB_put2 : gMw gTs y_FB_put2 b_FB_put2 3 none 2 := ⟨gT0 (gI3 73 rfl) rfl, gT0 (gI1 3 rfl) rfl, by decide, by decide, by decide +kernel⟩
theorem mi_FB_put2 : Cond.instanceMethod y_FB_put2 ∈ gTs := gT0 (gI3 72 rfl) rfl
theorem ms_FB_put2 : Cond.selects "ObjectFile$FileBytes" y_FB_put2 y_FB_put2 ∈ gTs := gSel (List.mem_of_getElem? (i := 34) (by rfl : lw_privs[34]? = some (y_FB_put2, 2)))
theorem mw_FB_put4 : gMw gTs y_FB_put4 b_FB_put4 3 none 2 := ⟨gT0 (gI3 77 rfl) rfl, gT0 (gI1 3 rfl) rfl, by decide, by decide, by decide +kernel⟩
theorem mi_FB_put4 : Cond.instanceMethod y_FB_put4 ∈ gTs := gT0 (gI3 76 rfl) rfl
theorem ms_FB_put4 : Cond.selects "ObjectFile$FileBytes" y_FB_put4 y_FB_put4 ∈ gTs := gSel (List.mem_of_getElem? (i := 35) (by rfl : lw_privs[35]? = some (y_FB_put4, 2)))
theorem mw_FB_u1 : gMw gTs y_FB_u1 b_FB_u1 2 (some .int) 1 := ⟨gT0 (gI3 154 rfl) rfl, gT0 (gI1 3 rfl) rfl, by decide, by decide, by decide +kernel⟩
theorem mi_FB_u1 : Cond.instanceMethod y_FB_u1 ∈ gTs := gT0 (gI3 153 rfl) rfl
theorem ms_FB_u1 : Cond.selects "ObjectFile$FileBytes" y_FB_u1 y_FB_u1 ∈ gTs := gSel (List.mem_of_getElem? (i := 48) (by rfl : lw_privs[48]? = some (y_FB_u1, 2)))
theorem mw_FB_u2 : gMw gTs y_FB_u2 b_FB_u2 2 (some .int) 1 := ⟨gT0 (gI3 193 rfl) rfl, gT0 (gI1 3 rfl) rfl, by decide, by decide, by decide +kernel⟩
theorem mi_FB_u2 : Cond.instanceMethod y_FB_u2 ∈ gTs := gT0 (gI3 192 rfl) rfl
theorem ms_FB_u2 : Cond.selects "ObjectFile$FileBytes" y_FB_u2 y_FB_u2 ∈ gTs := gSel (List.mem_of_getElem? (i := 53) (by rfl : lw_privs[53]? = some (y_FB_u2, 2)))
theorem mw_FB_u4 : gMw gTs y_FB_u4 b_FB_u4 4 (some .long) 1 := ⟨gT0 (gI3 205 rfl) rfl, gT0 (gI1 3 rfl) rfl, by decide, by decide, by decide +kernel⟩
theorem mi_FB_u4 : Cond.instanceMethod y_FB_u4 ∈ gTs := gT0 (gI3 204 rfl) rfl
theorem ms_FB_u4 : Cond.selects "ObjectFile$FileBytes" y_FB_u4 y_FB_u4 ∈ gTs := gSel (List.mem_of_getElem? (i := 56) (by rfl : lw_privs[56]? = some (y_FB_u4, 2)))
theorem mw_FB_zeros : gMw gTs y_FB_zeros b_FB_zeros 2 none 1 := ⟨gT0 (gI3 53 rfl) rfl, gT0 (gI1 3 rfl) rfl, by decide, by decide, by decide +kernel⟩
theorem mi_FB_zeros : Cond.instanceMethod y_FB_zeros ∈ gTs := gT0 (gI3 52 rfl) rfl
theorem ms_FB_zeros : Cond.selects "ObjectFile$FileBytes" y_FB_zeros y_FB_zeros ∈ gTs := gSel (List.mem_of_getElem? (i := 31) (by rfl : lw_privs[31]? = some (y_FB_zeros, 2)))
theorem mw_FI_tell : gMw gTs y_FI_tell b_FI_tell 3 (some .int) 2 := ⟨gT0 (gI3 187 rfl) rfl, gT0 (gI1 6 rfl) rfl, by decide, by decide, by decide +kernel⟩
theorem mi_FI_tell : Cond.instanceMethod y_FI_tell ∈ gTs := gT0 (gI3 186 rfl) rfl
theorem ms_FI_tell : Cond.selects "ObjectFile$Finding" y_FI_tell y_FI_tell ∈ gTs := gSel (List.mem_of_getElem? (i := 52) (by rfl : lw_privs[52]? = some (y_FI_tell, 1)))
theorem mw_MO_align : gMw gTs y_MO_align b_MO_align 3 (some .boolean) 2 := ⟨gT0 (gI5 119 rfl) rfl, gT0 (gI1 9 rfl) rfl, by decide, by decide, by decide +kernel⟩
theorem mi_MO_align : Cond.instanceMethod y_MO_align ∈ gTs := gT0 (gI5 117 rfl) rfl
theorem ms_MO_align : Cond.selects "ObjectFileModel" y_MO_align y_MO_align ∈ gTs := gT0 (gI5 118 rfl) rfl
theorem mw_MO_allFaults : gMw gTs y_MO_allFaults b_MO_allFaults 5 (some .int) 0 := ⟨gT0 (gI6 38 rfl) rfl, gT0 (gI1 9 rfl) rfl, by decide, by decide, by decide +kernel⟩
theorem mi_MO_allFaults : Cond.instanceMethod y_MO_allFaults ∈ gTs := gT0 (gI6 37 rfl) rfl
theorem ms_MO_allFaults : Cond.selects "ObjectFileModel" y_MO_allFaults y_MO_allFaults ∈ gTs := gSel (List.mem_of_getElem? (i := 116) (by rfl : lw_privs[116]? = some (y_MO_allFaults, 41)))
theorem mw_MO_amiss : gMw gTs y_MO_amiss b_MO_amiss 8 (some .int) 1 := ⟨gT0 (gI6 142 rfl) rfl, gT0 (gI1 9 rfl) rfl, by decide, by decide, by decide +kernel⟩
theorem mi_MO_amiss : Cond.instanceMethod y_MO_amiss ∈ gTs := gT0 (gI6 141 rfl) rfl
theorem ms_MO_amiss : Cond.selects "ObjectFileModel" y_MO_amiss y_MO_amiss ∈ gTs := gSel (List.mem_of_getElem? (i := 138) (by rfl : lw_privs[138]? = some (y_MO_amiss, 41)))
theorem mw_MO_at : gMw gTs y_MO_at b_MO_at 3 (some .int) 2 := ⟨gT0 (gI6 184 rfl) rfl, gT0 (gI1 9 rfl) rfl, by decide, by decide, by decide +kernel⟩
theorem mi_MO_at : Cond.instanceMethod y_MO_at ∈ gTs := gT0 (gI6 182 rfl) rfl
theorem ms_MO_at : Cond.selects "ObjectFileModel" y_MO_at y_MO_at ∈ gTs := gT0 (gI6 183 rfl) rfl
theorem mw_MO_begin : gMw gTs y_MO_begin b_MO_begin 1 none 0 := ⟨gT0 (gI5 194 rfl) rfl, gT0 (gI1 9 rfl) rfl, by decide, by decide, by decide +kernel⟩
theorem mi_MO_begin : Cond.instanceMethod y_MO_begin ∈ gTs := gT0 (gI5 193 rfl) rfl
theorem ms_MO_begin : Cond.selects "ObjectFileModel" y_MO_begin y_MO_begin ∈ gTs := gSel (List.mem_of_getElem? (i := 105) (by rfl : lw_privs[105]? = some (y_MO_begin, 41)))
theorem mw_MO_bindOf : gMw gTs y_MO_bindOf b_MO_bindOf 2 (some .int) 1 := ⟨gT0 (gI6 134 rfl) rfl, gT0 (gI1 9 rfl) rfl, by decide, by decide, by decide +kernel⟩
theorem mi_MO_bindOf : Cond.instanceMethod y_MO_bindOf ∈ gTs := gT0 (gI6 133 rfl) rfl
theorem ms_MO_bindOf : Cond.selects "ObjectFileModel" y_MO_bindOf y_MO_bindOf ∈ gTs := gSel (List.mem_of_getElem? (i := 136) (by rfl : lw_privs[136]? = some (y_MO_bindOf, 41)))
theorem mw_MO_bss : gMw gTs y_MO_bss b_MO_bss 2 (some .boolean) 1 := ⟨gT0 (gI5 115 rfl) rfl, gT0 (gI1 9 rfl) rfl, by decide, by decide, by decide +kernel⟩
theorem mi_MO_bss : Cond.instanceMethod y_MO_bss ∈ gTs := gT0 (gI5 113 rfl) rfl
theorem ms_MO_bss : Cond.selects "ObjectFileModel" y_MO_bss y_MO_bss ∈ gTs := gT0 (gI5 114 rfl) rfl
theorem mw_MO_byteAt : gMw gTs y_MO_byteAt b_MO_byteAt 2 (some .int) 1 := ⟨gT0 (gI6 18 rfl) rfl, gT0 (gI1 9 rfl) rfl, by decide, by decide, by decide +kernel⟩
theorem mi_MO_byteAt : Cond.instanceMethod y_MO_byteAt ∈ gTs := gT0 (gI6 16 rfl) rfl
theorem ms_MO_byteAt : Cond.selects "ObjectFileModel" y_MO_byteAt y_MO_byteAt ∈ gTs := gT0 (gI6 17 rfl) rfl
theorem mw_MO_byteOf : gMw gTs y_MO_byteOf b_MO_byteOf 3 (some .int) 2 := ⟨gT0 (gI5 110 rfl) rfl, gT0 (gI1 9 rfl) rfl, by decide, by decide, by decide +kernel⟩
theorem mt_MO_byteOf : Cond.static y_MO_byteOf ∈ gTs := gT0 (gI5 109 rfl) rfl
theorem mw_MO_bytesOf : gMw gTs y_MO_bytesOf b_MO_bytesOf 2 (some .long) 1 := ⟨gT0 (gI6 102 rfl) rfl, gT0 (gI1 9 rfl) rfl, by decide, by decide, by decide +kernel⟩
theorem mi_MO_bytesOf : Cond.instanceMethod y_MO_bytesOf ∈ gTs := gT0 (gI6 101 rfl) rfl
theorem ms_MO_bytesOf : Cond.selects "ObjectFileModel" y_MO_bytesOf y_MO_bytesOf ∈ gTs := gSel (List.mem_of_getElem? (i := 128) (by rfl : lw_privs[128]? = some (y_MO_bytesOf, 41)))
theorem mw_MO_clear : gMw gTs y_MO_clear b_MO_clear 2 none 0 := ⟨gT0 (gI5 103 rfl) rfl, gT0 (gI1 9 rfl) rfl, by decide, by decide, by decide +kernel⟩
theorem mi_MO_clear : Cond.instanceMethod y_MO_clear ∈ gTs := gT0 (gI5 101 rfl) rfl
theorem ms_MO_clear : Cond.selects "ObjectFileModel" y_MO_clear y_MO_clear ∈ gTs := gT0 (gI5 102 rfl) rfl
theorem mw_MO_count : gMw gTs y_MO_count b_MO_count 4 (some .int) 1 := ⟨gT0 (gI6 188 rfl) rfl, gT0 (gI1 9 rfl) rfl, by decide, by decide, by decide +kernel⟩
theorem mi_MO_count : Cond.instanceMethod y_MO_count ∈ gTs := gT0 (gI6 186 rfl) rfl
theorem ms_MO_count : Cond.selects "ObjectFileModel" y_MO_count y_MO_count ∈ gTs := gT0 (gI6 187 rfl) rfl
theorem mw_MO_cut : gMw gTs y_MO_cut b_MO_cut 2 (some .boolean) 1 := ⟨gT0 (gI6 26 rfl) rfl, gT0 (gI1 9 rfl) rfl, by decide, by decide, by decide +kernel⟩
theorem mi_MO_cut : Cond.instanceMethod y_MO_cut ∈ gTs := gT0 (gI6 24 rfl) rfl
theorem ms_MO_cut : Cond.selects "ObjectFileModel" y_MO_cut y_MO_cut ∈ gTs := gT0 (gI6 25 rfl) rfl
theorem mw_MO_eachOf : gMw gTs y_MO_eachOf b_MO_eachOf 1 (some .int) 1 := ⟨gT0 (gI6 10 rfl) rfl, gT0 (gI1 9 rfl) rfl, by decide, by decide, by decide +kernel⟩
theorem mt_MO_eachOf : Cond.static y_MO_eachOf ∈ gTs := gT0 (gI6 9 rfl) rfl
theorem mw_MO_entryFault : gMw gTs y_MO_entryFault b_MO_entryFault 12 (some .int) 1 := ⟨gT0 (gI6 62 rfl) rfl, gT0 (gI1 9 rfl) rfl, by decide, by decide, by decide +kernel⟩
theorem mi_MO_entryFault : Cond.instanceMethod y_MO_entryFault ∈ gTs := gT0 (gI6 61 rfl) rfl
theorem ms_MO_entryFault : Cond.selects "ObjectFileModel" y_MO_entryFault y_MO_entryFault ∈ gTs := gSel (List.mem_of_getElem? (i := 121) (by rfl : lw_privs[121]? = some (y_MO_entryFault, 41)))
theorem mw_MO_fault : gMw gTs y_MO_fault b_MO_fault 3 (some .int) 2 := ⟨gT0 (gI6 46 rfl) rfl, gT0 (gI1 9 rfl) rfl, by decide, by decide, by decide +kernel⟩
theorem mi_MO_fault : Cond.instanceMethod y_MO_fault ∈ gTs := gT0 (gI6 45 rfl) rfl
theorem ms_MO_fault : Cond.selects "ObjectFileModel" y_MO_fault y_MO_fault ∈ gTs := gSel (List.mem_of_getElem? (i := 118) (by rfl : lw_privs[118]? = some (y_MO_fault, 41)))
theorem mw_MO_feed : gMw gTs y_MO_feed b_MO_feed 5 (some .boolean) 2 := ⟨gT0 (gI6 22 rfl) rfl, gT0 (gI1 9 rfl) rfl, by decide, by decide, by decide +kernel⟩
theorem mi_MO_feed : Cond.instanceMethod y_MO_feed ∈ gTs := gT0 (gI6 20 rfl) rfl
theorem ms_MO_feed : Cond.selects "ObjectFileModel" y_MO_feed y_MO_feed ∈ gTs := gT0 (gI6 21 rfl) rfl
theorem mw_MO_flagsOf : gMw gTs y_MO_flagsOf b_MO_flagsOf 1 (some .int) 1 := ⟨gT0 (gI6 7 rfl) rfl, gT0 (gI1 9 rfl) rfl, by decide, by decide, by decide +kernel⟩
theorem mt_MO_flagsOf : Cond.static y_MO_flagsOf ∈ gTs := gT0 (gI6 6 rfl) rfl
theorem mw_MO_from : gMw gTs y_MO_from b_MO_from 2 (some .int) 1 := ⟨gT0 (gI6 106 rfl) rfl, gT0 (gI1 9 rfl) rfl, by decide, by decide, by decide +kernel⟩
theorem mi_MO_from : Cond.instanceMethod y_MO_from ∈ gTs := gT0 (gI6 105 rfl) rfl
theorem ms_MO_from : Cond.selects "ObjectFileModel" y_MO_from y_MO_from ∈ gTs := gSel (List.mem_of_getElem? (i := 129) (by rfl : lw_privs[129]? = some (y_MO_from, 41)))
theorem mw_MO_head : gMw gTs y_MO_head b_MO_head 4 (some .int) 0 := ⟨gT0 (gI6 42 rfl) rfl, gT0 (gI1 9 rfl) rfl, by decide, by decide, by decide +kernel⟩
theorem mi_MO_head : Cond.instanceMethod y_MO_head ∈ gTs := gT0 (gI6 41 rfl) rfl
theorem ms_MO_head : Cond.selects "ObjectFileModel" y_MO_head y_MO_head ∈ gTs := gSel (List.mem_of_getElem? (i := 117) (by rfl : lw_privs[117]? = some (y_MO_head, 41)))
theorem mw_MO_infoFault : gMw gTs y_MO_infoFault b_MO_infoFault 4 (some .int) 0 := ⟨gT0 (gI6 151 rfl) rfl, gT0 (gI1 9 rfl) rfl, by decide, by decide, by decide +kernel⟩
theorem mi_MO_infoFault : Cond.instanceMethod y_MO_infoFault ∈ gTs := gT0 (gI6 150 rfl) rfl
theorem ms_MO_infoFault : Cond.selects "ObjectFileModel" y_MO_infoFault y_MO_infoFault ∈ gTs := gSel (List.mem_of_getElem? (i := 140) (by rfl : lw_privs[140]? = some (y_MO_infoFault, 41)))
theorem mw_MO_isAlone : gMw gTs y_MO_isAlone b_MO_isAlone 1 (some .boolean) 1 := ⟨gT0 (gI5 155 rfl) rfl, gT0 (gI1 9 rfl) rfl, by decide, by decide, by decide +kernel⟩
theorem mt_MO_isAlone : Cond.static y_MO_isAlone ∈ gTs := gT0 (gI5 154 rfl) rfl
theorem mw_MO_isKind : gMw gTs y_MO_isKind b_MO_isKind 1 (some .boolean) 1 := ⟨gT0 (gI5 152 rfl) rfl, gT0 (gI1 9 rfl) rfl, by decide, by decide, by decide +kernel⟩
theorem mt_MO_isKind : Cond.static y_MO_isKind ∈ gTs := gT0 (gI5 151 rfl) rfl
theorem mw_MO_isKindOf : gMw gTs y_MO_isKindOf b_MO_isKindOf 2 (some .boolean) 2 := ⟨gT0 (gI5 149 rfl) rfl, gT0 (gI1 9 rfl) rfl, by decide, by decide, by decide +kernel⟩
theorem mt_MO_isKindOf : Cond.static y_MO_isKindOf ∈ gTs := gT0 (gI5 148 rfl) rfl
theorem mw_MO_isName : gMw gTs y_MO_isName b_MO_isName 5 (some .boolean) 1 := ⟨gT0 (gI6 126 rfl) rfl, gT0 (gI1 9 rfl) rfl, by decide, by decide, by decide +kernel⟩
theorem mi_MO_isName : Cond.instanceMethod y_MO_isName ∈ gTs := gT0 (gI6 125 rfl) rfl
theorem ms_MO_isName : Cond.selects "ObjectFileModel" y_MO_isName y_MO_isName ∈ gTs := gSel (List.mem_of_getElem? (i := 134) (by rfl : lw_privs[134]? = some (y_MO_isName, 41)))
theorem mw_MO_isPower : gMw gTs y_MO_isPower b_MO_isPower 1 (some .boolean) 1 := ⟨gT0 (gI5 142 rfl) rfl, gT0 (gI1 9 rfl) rfl, by decide, by decide, by decide +kernel⟩
theorem mt_MO_isPower : Cond.static y_MO_isPower ∈ gTs := gT0 (gI5 141 rfl) rfl
theorem mw_MO_isSameIn : gMw gTs y_MO_isSameIn b_MO_isSameIn 6 (some .boolean) 2 := ⟨gT0 (gI6 147 rfl) rfl, gT0 (gI1 9 rfl) rfl, by decide, by decide, by decide +kernel⟩
theorem mi_MO_isSameIn : Cond.instanceMethod y_MO_isSameIn ∈ gTs := gT0 (gI6 146 rfl) rfl
theorem ms_MO_isSameIn : Cond.selects "ObjectFileModel" y_MO_isSameIn y_MO_isSameIn ∈ gTs := gSel (List.mem_of_getElem? (i := 139) (by rfl : lw_privs[139]? = some (y_MO_isSameIn, 41)))
theorem mw_MO_isSameName : gMw gTs y_MO_isSameName b_MO_isSameName 5 (some .boolean) 2 := ⟨gT0 (gI5 135 rfl) rfl, gT0 (gI1 9 rfl) rfl, by decide, by decide, by decide +kernel⟩
theorem mi_MO_isSameName : Cond.instanceMethod y_MO_isSameName ∈ gTs := gT0 (gI5 134 rfl) rfl
theorem ms_MO_isSameName : Cond.selects "ObjectFileModel" y_MO_isSameName y_MO_isSameName ∈ gTs := gSel (List.mem_of_getElem? (i := 98) (by rfl : lw_privs[98]? = some (y_MO_isSameName, 41)))
theorem mw_MO_isShort : gMw gTs y_MO_isShort b_MO_isShort 1 (some .boolean) 1 := ⟨gT0 (gI5 227 rfl) rfl, gT0 (gI1 9 rfl) rfl, by decide, by decide, by decide +kernel⟩
theorem mt_MO_isShort : Cond.static y_MO_isShort ∈ gTs := gT0 (gI5 226 rfl) rfl
theorem mw_MO_isSkip : gMw gTs y_MO_isSkip b_MO_isSkip 2 (some .boolean) 1 := ⟨gT0 (gI5 158 rfl) rfl, gT0 (gI1 9 rfl) rfl, by decide, by decide, by decide +kernel⟩
theorem mt_MO_isSkip : Cond.static y_MO_isSkip ∈ gTs := gT0 (gI5 157 rfl) rfl
theorem mw_MO_isSymbol : gMw gTs y_MO_isSymbol b_MO_isSymbol 5 (some .boolean) 4 := ⟨gT0 (gI5 139 rfl) rfl, gT0 (gI1 9 rfl) rfl, by decide, by decide, by decide +kernel⟩
theorem mi_MO_isSymbol : Cond.instanceMethod y_MO_isSymbol ∈ gTs := gT0 (gI5 138 rfl) rfl
theorem ms_MO_isSymbol : Cond.selects "ObjectFileModel" y_MO_isSymbol y_MO_isSymbol ∈ gTs := gSel (List.mem_of_getElem? (i := 99) (by rfl : lw_privs[99]? = some (y_MO_isSymbol, 41)))
theorem mw_MO_isTitle : gMw gTs y_MO_isTitle b_MO_isTitle 4 (some .boolean) 2 := ⟨gT0 (gI6 84 rfl) rfl, gT0 (gI1 9 rfl) rfl, by decide, by decide, by decide +kernel⟩
theorem mi_MO_isTitle : Cond.instanceMethod y_MO_isTitle ∈ gTs := gT0 (gI6 83 rfl) rfl
theorem ms_MO_isTitle : Cond.selects "ObjectFileModel" y_MO_isTitle y_MO_isTitle ∈ gTs := gSel (List.mem_of_getElem? (i := 125) (by rfl : lw_privs[125]? = some (y_MO_isTitle, 41)))
theorem mw_MO_keep : gMw gTs y_MO_keep b_MO_keep 2 none 0 := ⟨gT0 (gI6 176 rfl) rfl, gT0 (gI1 9 rfl) rfl, by decide, by decide, by decide +kernel⟩
theorem mi_MO_keep : Cond.instanceMethod y_MO_keep ∈ gTs := gT0 (gI6 174 rfl) rfl
theorem ms_MO_keep : Cond.selects "ObjectFileModel" y_MO_keep y_MO_keep ∈ gTs := gT0 (gI6 175 rfl) rfl
theorem mw_MO_lay : gMw gTs y_MO_lay b_MO_lay 5 (some .int) 0 := ⟨gT0 (gI5 175 rfl) rfl, gT0 (gI1 9 rfl) rfl, by decide, by decide, by decide +kernel⟩
theorem mi_MO_lay : Cond.instanceMethod y_MO_lay ∈ gTs := gT0 (gI5 174 rfl) rfl
theorem ms_MO_lay : Cond.selects "ObjectFileModel" y_MO_lay y_MO_lay ∈ gTs := gSel (List.mem_of_getElem? (i := 101) (by rfl : lw_privs[101]? = some (y_MO_lay, 41)))
theorem mw_MO_letter : gMw gTs y_MO_letter b_MO_letter 2 (some .boolean) 1 := ⟨gT0 (gI5 127 rfl) rfl, gT0 (gI1 9 rfl) rfl, by decide, by decide, by decide +kernel⟩
theorem mi_MO_letter : Cond.instanceMethod y_MO_letter ∈ gTs := gT0 (gI5 125 rfl) rfl
theorem ms_MO_letter : Cond.selects "ObjectFileModel" y_MO_letter y_MO_letter ∈ gTs := gT0 (gI5 126 rfl) rfl
theorem mw_MO_letterOf : gMw gTs y_MO_letterOf b_MO_letterOf 2 none 1 := ⟨gT0 (gI4 215 rfl) rfl, gT0 (gI1 9 rfl) rfl, by decide, by decide, by decide +kernel⟩
theorem mi_MO_letterOf : Cond.instanceMethod y_MO_letterOf ∈ gTs := gT0 (gI4 214 rfl) rfl
theorem ms_MO_letterOf : Cond.selects "ObjectFileModel" y_MO_letterOf y_MO_letterOf ∈ gTs := gSel (List.mem_of_getElem? (i := 97) (by rfl : lw_privs[97]? = some (y_MO_letterOf, 41)))
theorem mw_MO_meets : gMw gTs y_MO_meets b_MO_meets 8 (some .boolean) 4 := ⟨gT0 (gI6 75 rfl) rfl, gT0 (gI1 9 rfl) rfl, by decide, by decide, by decide +kernel⟩
theorem mt_MO_meets : Cond.static y_MO_meets ∈ gTs := gT0 (gI6 74 rfl) rfl
theorem mw_MO_nameFaults : gMw gTs y_MO_nameFaults b_MO_nameFaults 6 (some .int) 0 := ⟨gT0 (gI6 79 rfl) rfl, gT0 (gI1 9 rfl) rfl, by decide, by decide, by decide +kernel⟩
theorem mi_MO_nameFaults : Cond.instanceMethod y_MO_nameFaults ∈ gTs := gT0 (gI6 78 rfl) rfl
theorem ms_MO_nameFaults : Cond.selects "ObjectFileModel" y_MO_nameFaults y_MO_nameFaults ∈ gTs := gSel (List.mem_of_getElem? (i := 124) (by rfl : lw_privs[124]? = some (y_MO_nameFaults, 41)))
theorem mw_MO_nameLength : gMw gTs y_MO_nameLength b_MO_nameLength 3 (some .int) 1 := ⟨gT0 (gI6 130 rfl) rfl, gT0 (gI1 9 rfl) rfl, by decide, by decide, by decide +kernel⟩
theorem mi_MO_nameLength : Cond.instanceMethod y_MO_nameLength ∈ gTs := gT0 (gI6 129 rfl) rfl
theorem ms_MO_nameLength : Cond.selects "ObjectFileModel" y_MO_nameLength y_MO_nameLength ∈ gTs := gSel (List.mem_of_getElem? (i := 135) (by rfl : lw_privs[135]? = some (y_MO_nameLength, 41)))
theorem mw_MO_namePlace : gMw gTs y_MO_namePlace b_MO_namePlace 2 (some .int) 1 := ⟨gT0 (gI6 122 rfl) rfl, gT0 (gI1 9 rfl) rfl, by decide, by decide, by decide +kernel⟩
theorem mi_MO_namePlace : Cond.instanceMethod y_MO_namePlace ∈ gTs := gT0 (gI6 121 rfl) rfl
theorem ms_MO_namePlace : Cond.selects "ObjectFileModel" y_MO_namePlace y_MO_namePlace ∈ gTs := gSel (List.mem_of_getElem? (i := 133) (by rfl : lw_privs[133]? = some (y_MO_namePlace, 41)))
theorem mw_MO_order : gMw gTs y_MO_order b_MO_order 5 (some .int) 0 := ⟨gT0 (gI5 186 rfl) rfl, gT0 (gI1 9 rfl) rfl, by decide, by decide, by decide +kernel⟩
theorem mi_MO_order : Cond.instanceMethod y_MO_order ∈ gTs := gT0 (gI5 185 rfl) rfl
theorem ms_MO_order : Cond.selects "ObjectFileModel" y_MO_order y_MO_order ∈ gTs := gSel (List.mem_of_getElem? (i := 103) (by rfl : lw_privs[103]? = some (y_MO_order, 41)))
theorem mw_MO_place : gMw gTs y_MO_place b_MO_place 1 (some .int) 0 := ⟨gT0 (gI6 172 rfl) rfl, gT0 (gI1 9 rfl) rfl, by decide, by decide, by decide +kernel⟩
theorem mi_MO_place : Cond.instanceMethod y_MO_place ∈ gTs := gT0 (gI6 170 rfl) rfl
theorem ms_MO_place : Cond.selects "ObjectFileModel" y_MO_place y_MO_place ∈ gTs := gT0 (gI6 171 rfl) rfl
theorem mw_MO_put : gMw gTs y_MO_put b_MO_put 6 (some .boolean) 3 := ⟨gT0 (gI5 107 rfl) rfl, gT0 (gI1 9 rfl) rfl, by decide, by decide, by decide +kernel⟩
theorem mi_MO_put : Cond.instanceMethod y_MO_put ∈ gTs := gT0 (gI5 105 rfl) rfl
theorem ms_MO_put : Cond.selects "ObjectFileModel" y_MO_put y_MO_put ∈ gTs := gT0 (gI5 106 rfl) rfl
theorem mw_MO_read : gMw gTs y_MO_read b_MO_read 5 (some .int) 0 := ⟨gT0 (gI6 34 rfl) rfl, gT0 (gI1 9 rfl) rfl, by decide, by decide, by decide +kernel⟩
theorem mi_MO_read : Cond.instanceMethod y_MO_read ∈ gTs := gT0 (gI6 32 rfl) rfl
theorem ms_MO_read : Cond.selects "ObjectFileModel" y_MO_read y_MO_read ∈ gTs := gT0 (gI6 33 rfl) rfl
theorem mw_MO_read2 : gMw gTs y_MO_read2 b_MO_read2 2 (some .int) 1 := ⟨gT0 (gI6 50 rfl) rfl, gT0 (gI1 9 rfl) rfl, by decide, by decide, by decide +kernel⟩
theorem mi_MO_read2 : Cond.instanceMethod y_MO_read2 ∈ gTs := gT0 (gI6 49 rfl) rfl
theorem ms_MO_read2 : Cond.selects "ObjectFileModel" y_MO_read2 y_MO_read2 ∈ gTs := gSel (List.mem_of_getElem? (i := 119) (by rfl : lw_privs[119]? = some (y_MO_read2, 41)))
theorem mw_MO_read4 : gMw gTs y_MO_read4 b_MO_read4 2 (some .long) 1 := ⟨gT0 (gI6 54 rfl) rfl, gT0 (gI1 9 rfl) rfl, by decide, by decide, by decide +kernel⟩
theorem mi_MO_read4 : Cond.instanceMethod y_MO_read4 ∈ gTs := gT0 (gI6 53 rfl) rfl
theorem ms_MO_read4 : Cond.selects "ObjectFileModel" y_MO_read4 y_MO_read4 ∈ gTs := gSel (List.mem_of_getElem? (i := 120) (by rfl : lw_privs[120]? = some (y_MO_read4, 41)))
theorem mw_MO_relocation : gMw gTs y_MO_relocation b_MO_relocation 7 (some .int) 5 := ⟨gT0 (gI5 146 rfl) rfl, gT0 (gI1 9 rfl) rfl, by decide, by decide, by decide +kernel⟩
theorem mi_MO_relocation : Cond.instanceMethod y_MO_relocation ∈ gTs := gT0 (gI5 144 rfl) rfl
theorem ms_MO_relocation : Cond.selects "ObjectFileModel" y_MO_relocation y_MO_relocation ∈ gTs := gT0 (gI5 145 rfl) rfl
theorem mw_MO_relocationAt : gMw gTs y_MO_relocationAt b_MO_relocationAt 4 (some .int) 2 := ⟨gT0 (gI6 200 rfl) rfl, gT0 (gI1 9 rfl) rfl, by decide, by decide, by decide +kernel⟩
theorem mi_MO_relocationAt : Cond.instanceMethod y_MO_relocationAt ∈ gTs := gT0 (gI6 198 rfl) rfl
theorem ms_MO_relocationAt : Cond.selects "ObjectFileModel" y_MO_relocationAt y_MO_relocationAt ∈ gTs := gT0 (gI6 199 rfl) rfl
theorem mw_MO_relocationFault : gMw gTs y_MO_relocationFault b_MO_relocationFault 11 (some .int) 2 := ⟨gT0 (gI6 155 rfl) rfl, gT0 (gI1 9 rfl) rfl, by decide, by decide, by decide +kernel⟩
theorem mi_MO_relocationFault : Cond.instanceMethod y_MO_relocationFault ∈ gTs := gT0 (gI6 154 rfl) rfl
theorem ms_MO_relocationFault : Cond.selects "ObjectFileModel" y_MO_relocationFault y_MO_relocationFault ∈ gTs := gSel (List.mem_of_getElem? (i := 141) (by rfl : lw_privs[141]? = some (y_MO_relocationFault, 41)))
theorem mw_MO_relocationsOf : gMw gTs y_MO_relocationsOf b_MO_relocationsOf 4 (some .int) 1 := ⟨gT0 (gI5 182 rfl) rfl, gT0 (gI1 9 rfl) rfl, by decide, by decide, by decide +kernel⟩
theorem mi_MO_relocationsOf : Cond.instanceMethod y_MO_relocationsOf ∈ gTs := gT0 (gI5 181 rfl) rfl
theorem ms_MO_relocationsOf : Cond.selects "ObjectFileModel" y_MO_relocationsOf y_MO_relocationsOf ∈ gTs := gSel (List.mem_of_getElem? (i := 102) (by rfl : lw_privs[102]? = some (y_MO_relocationsOf, 41)))
theorem mw_MO_roundUp : gMw gTs y_MO_roundUp b_MO_roundUp 2 (some .int) 2 := ⟨gT0 (gI5 178 rfl) rfl, gT0 (gI1 9 rfl) rfl, by decide, by decide, by decide +kernel⟩
theorem mt_MO_roundUp : Cond.static y_MO_roundUp ∈ gTs := gT0 (gI5 177 rfl) rfl
theorem mw_MO_ruleFault : gMw gTs y_MO_ruleFault b_MO_ruleFault 6 (some .int) 1 := ⟨gT0 (gI6 88 rfl) rfl, gT0 (gI1 9 rfl) rfl, by decide, by decide, by decide +kernel⟩
theorem mi_MO_ruleFault : Cond.instanceMethod y_MO_ruleFault ∈ gTs := gT0 (gI6 87 rfl) rfl
theorem ms_MO_ruleFault : Cond.selects "ObjectFileModel" y_MO_ruleFault y_MO_ruleFault ∈ gTs := gSel (List.mem_of_getElem? (i := 126) (by rfl : lw_privs[126]? = some (y_MO_ruleFault, 41)))
theorem mw_MO_section : gMw gTs y_MO_section b_MO_section 3 (some .int) 2 := ⟨gT0 (gI6 180 rfl) rfl, gT0 (gI1 9 rfl) rfl, by decide, by decide, by decide +kernel⟩
theorem mi_MO_section : Cond.instanceMethod y_MO_section ∈ gTs := gT0 (gI6 178 rfl) rfl
theorem ms_MO_section : Cond.selects "ObjectFileModel" y_MO_section y_MO_section ∈ gTs := gT0 (gI6 179 rfl) rfl
theorem mw_MO_size : gMw gTs y_MO_size b_MO_size 1 (some .int) 0 := ⟨gT0 (gI6 14 rfl) rfl, gT0 (gI1 9 rfl) rfl, by decide, by decide, by decide +kernel⟩
theorem mi_MO_size : Cond.instanceMethod y_MO_size ∈ gTs := gT0 (gI6 12 rfl) rfl
theorem ms_MO_size : Cond.selects "ObjectFileModel" y_MO_size y_MO_size ∈ gTs := gT0 (gI6 13 rfl) rfl
theorem mw_MO_sizeFaults : gMw gTs y_MO_sizeFaults b_MO_sizeFaults 9 (some .int) 0 := ⟨gT0 (gI6 92 rfl) rfl, gT0 (gI1 9 rfl) rfl, by decide, by decide, by decide +kernel⟩
theorem mi_MO_sizeFaults : Cond.instanceMethod y_MO_sizeFaults ∈ gTs := gT0 (gI6 91 rfl) rfl
theorem ms_MO_sizeFaults : Cond.selects "ObjectFileModel" y_MO_sizeFaults y_MO_sizeFaults ∈ gTs := gSel (List.mem_of_getElem? (i := 127) (by rfl : lw_privs[127]? = some (y_MO_sizeFaults, 41)))
theorem mw_MO_sizeOfSymbolNames : gMw gTs y_MO_sizeOfSymbolNames b_MO_sizeOfSymbolNames 4 (some .int) 0 := ⟨gT0 (gI5 190 rfl) rfl, gT0 (gI1 9 rfl) rfl, by decide, by decide, by decide +kernel⟩
theorem mi_MO_sizeOfSymbolNames : Cond.instanceMethod y_MO_sizeOfSymbolNames ∈ gTs := gT0 (gI5 189 rfl) rfl
theorem ms_MO_sizeOfSymbolNames : Cond.selects "ObjectFileModel" y_MO_sizeOfSymbolNames y_MO_sizeOfSymbolNames ∈ gTs := gSel (List.mem_of_getElem? (i := 104) (by rfl : lw_privs[104]? = some (y_MO_sizeOfSymbolNames, 41)))
theorem mw_MO_sizeOfTitles : gMw gTs y_MO_sizeOfTitles b_MO_sizeOfTitles 2 (some .int) 0 := ⟨gT0 (gI5 202 rfl) rfl, gT0 (gI1 9 rfl) rfl, by decide, by decide, by decide +kernel⟩
theorem mi_MO_sizeOfTitles : Cond.instanceMethod y_MO_sizeOfTitles ∈ gTs := gT0 (gI5 201 rfl) rfl
theorem ms_MO_sizeOfTitles : Cond.selects "ObjectFileModel" y_MO_sizeOfTitles y_MO_sizeOfTitles ∈ gTs := gSel (List.mem_of_getElem? (i := 107) (by rfl : lw_privs[107]? = some (y_MO_sizeOfTitles, 41)))
theorem mw_MO_sortOf : gMw gTs y_MO_sortOf b_MO_sortOf 1 (some .int) 1 := ⟨gT0 (gI6 4 rfl) rfl, gT0 (gI1 9 rfl) rfl, by decide, by decide, by decide +kernel⟩
theorem mt_MO_sortOf : Cond.static y_MO_sortOf ∈ gTs := gT0 (gI6 3 rfl) rfl
theorem mw_MO_spoil : gMw gTs y_MO_spoil b_MO_spoil 4 (some .int) 2 := ⟨gT0 (gI6 30 rfl) rfl, gT0 (gI1 9 rfl) rfl, by decide, by decide, by decide +kernel⟩
theorem mi_MO_spoil : Cond.instanceMethod y_MO_spoil ∈ gTs := gT0 (gI6 28 rfl) rfl
theorem ms_MO_spoil : Cond.selects "ObjectFileModel" y_MO_spoil y_MO_spoil ∈ gTs := gT0 (gI6 29 rfl) rfl
theorem mw_MO_spotOf : gMw gTs y_MO_spotOf b_MO_spotOf 3 (some .int) 2 := ⟨gT0 (gI6 70 rfl) rfl, gT0 (gI1 9 rfl) rfl, by decide, by decide, by decide +kernel⟩
theorem mi_MO_spotOf : Cond.instanceMethod y_MO_spotOf ∈ gTs := gT0 (gI6 69 rfl) rfl
theorem ms_MO_spotOf : Cond.selects "ObjectFileModel" y_MO_spotOf y_MO_spotOf ∈ gTs := gSel (List.mem_of_getElem? (i := 123) (by rfl : lw_privs[123]? = some (y_MO_spotOf, 41)))
theorem mw_MO_start : gMw gTs y_MO_start b_MO_start 3 (some .boolean) 1 := ⟨gT0 (gI5 123 rfl) rfl, gT0 (gI1 9 rfl) rfl, by decide, by decide, by decide +kernel⟩
theorem mi_MO_start : Cond.instanceMethod y_MO_start ∈ gTs := gT0 (gI5 121 rfl) rfl
theorem ms_MO_start : Cond.selects "ObjectFileModel" y_MO_start y_MO_start ∈ gTs := gT0 (gI5 122 rfl) rfl
theorem mw_MO_startAt : gMw gTs y_MO_startAt b_MO_startAt 2 (some .int) 1 := ⟨gT0 (gI6 192 rfl) rfl, gT0 (gI1 9 rfl) rfl, by decide, by decide, by decide +kernel⟩
theorem mi_MO_startAt : Cond.instanceMethod y_MO_startAt ∈ gTs := gT0 (gI6 190 rfl) rfl
theorem ms_MO_startAt : Cond.selects "ObjectFileModel" y_MO_startAt y_MO_startAt ∈ gTs := gT0 (gI6 191 rfl) rfl
theorem mw_MO_startFaults : gMw gTs y_MO_startFaults b_MO_startFaults 6 (some .int) 0 := ⟨gT0 (gI6 160 rfl) rfl, gT0 (gI1 9 rfl) rfl, by decide, by decide, by decide +kernel⟩
theorem mi_MO_startFaults : Cond.instanceMethod y_MO_startFaults ∈ gTs := gT0 (gI6 159 rfl) rfl
theorem ms_MO_startFaults : Cond.selects "ObjectFileModel" y_MO_startFaults y_MO_startFaults ∈ gTs := gSel (List.mem_of_getElem? (i := 142) (by rfl : lw_privs[142]? = some (y_MO_startFaults, 41)))
theorem mw_MO_stringFor : gMw gTs y_MO_stringFor b_MO_stringFor 4 (some .int) 0 := ⟨gT0 (gI5 198 rfl) rfl, gT0 (gI1 9 rfl) rfl, by decide, by decide, by decide +kernel⟩
theorem mi_MO_stringFor : Cond.instanceMethod y_MO_stringFor ∈ gTs := gT0 (gI5 197 rfl) rfl
theorem ms_MO_stringFor : Cond.selects "ObjectFileModel" y_MO_stringFor y_MO_stringFor ∈ gTs := gSel (List.mem_of_getElem? (i := 106) (by rfl : lw_privs[106]? = some (y_MO_stringFor, 41)))
theorem mw_MO_symbol : gMw gTs y_MO_symbol b_MO_symbol 9 (some .int) 5 := ⟨gT0 (gI5 131 rfl) rfl, gT0 (gI1 9 rfl) rfl, by decide, by decide, by decide +kernel⟩
theorem mi_MO_symbol : Cond.instanceMethod y_MO_symbol ∈ gTs := gT0 (gI5 129 rfl) rfl
theorem ms_MO_symbol : Cond.selects "ObjectFileModel" y_MO_symbol y_MO_symbol ∈ gTs := gT0 (gI5 130 rfl) rfl
theorem mw_MO_symbolAt : gMw gTs y_MO_symbolAt b_MO_symbolAt 4 (some .int) 2 := ⟨gT0 (gI6 196 rfl) rfl, gT0 (gI1 9 rfl) rfl, by decide, by decide, by decide +kernel⟩
theorem mi_MO_symbolAt : Cond.instanceMethod y_MO_symbolAt ∈ gTs := gT0 (gI6 194 rfl) rfl
theorem ms_MO_symbolAt : Cond.selects "ObjectFileModel" y_MO_symbolAt y_MO_symbolAt ∈ gTs := gT0 (gI6 195 rfl) rfl
theorem mw_MO_symbolFault : gMw gTs y_MO_symbolFault b_MO_symbolFault 6 (some .int) 1 := ⟨gT0 (gI6 114 rfl) rfl, gT0 (gI1 9 rfl) rfl, by decide, by decide, by decide +kernel⟩
theorem mi_MO_symbolFault : Cond.instanceMethod y_MO_symbolFault ∈ gTs := gT0 (gI6 113 rfl) rfl
theorem ms_MO_symbolFault : Cond.selects "ObjectFileModel" y_MO_symbolFault y_MO_symbolFault ∈ gTs := gSel (List.mem_of_getElem? (i := 131) (by rfl : lw_privs[131]? = some (y_MO_symbolFault, 41)))
theorem mw_MO_symbolPlace : gMw gTs y_MO_symbolPlace b_MO_symbolPlace 2 (some .int) 1 := ⟨gT0 (gI6 118 rfl) rfl, gT0 (gI1 9 rfl) rfl, by decide, by decide, by decide +kernel⟩
theorem mi_MO_symbolPlace : Cond.instanceMethod y_MO_symbolPlace ∈ gTs := gT0 (gI6 117 rfl) rfl
theorem ms_MO_symbolPlace : Cond.selects "ObjectFileModel" y_MO_symbolPlace y_MO_symbolPlace ∈ gTs := gSel (List.mem_of_getElem? (i := 132) (by rfl : lw_privs[132]? = some (y_MO_symbolPlace, 41)))
theorem mw_MO_symbolsIn : gMw gTs y_MO_symbolsIn b_MO_symbolsIn 1 (some .int) 0 := ⟨gT0 (gI6 110 rfl) rfl, gT0 (gI1 9 rfl) rfl, by decide, by decide, by decide +kernel⟩
theorem mi_MO_symbolsIn : Cond.instanceMethod y_MO_symbolsIn ∈ gTs := gT0 (gI6 109 rfl) rfl
theorem ms_MO_symbolsIn : Cond.selects "ObjectFileModel" y_MO_symbolsIn y_MO_symbolsIn ∈ gTs := gSel (List.mem_of_getElem? (i := 130) (by rfl : lw_privs[130]? = some (y_MO_symbolsIn, 41)))
theorem mw_MO_takeRelocation : gMw gTs y_MO_takeRelocation b_MO_takeRelocation 4 none 2 := ⟨gT0 (gI6 168 rfl) rfl, gT0 (gI1 9 rfl) rfl, by decide, by decide, by decide +kernel⟩
theorem mi_MO_takeRelocation : Cond.instanceMethod y_MO_takeRelocation ∈ gTs := gT0 (gI6 167 rfl) rfl
theorem ms_MO_takeRelocation : Cond.selects "ObjectFileModel" y_MO_takeRelocation y_MO_takeRelocation ∈ gTs := gSel (List.mem_of_getElem? (i := 144) (by rfl : lw_privs[144]? = some (y_MO_takeRelocation, 41)))
theorem mw_MO_takeSymbol : gMw gTs y_MO_takeSymbol b_MO_takeSymbol 5 none 2 := ⟨gT0 (gI6 164 rfl) rfl, gT0 (gI1 9 rfl) rfl, by decide, by decide, by decide +kernel⟩
theorem mi_MO_takeSymbol : Cond.instanceMethod y_MO_takeSymbol ∈ gTs := gT0 (gI6 163 rfl) rfl
theorem ms_MO_takeSymbol : Cond.selects "ObjectFileModel" y_MO_takeSymbol y_MO_takeSymbol ∈ gTs := gSel (List.mem_of_getElem? (i := 143) (by rfl : lw_privs[143]? = some (y_MO_takeSymbol, 41)))
theorem mw_MO_takeTitle : gMw gTs y_MO_takeTitle b_MO_takeTitle 3 none 1 := ⟨gT0 (gI5 206 rfl) rfl, gT0 (gI1 9 rfl) rfl, by decide, by decide, by decide +kernel⟩
theorem mi_MO_takeTitle : Cond.instanceMethod y_MO_takeTitle ∈ gTs := gT0 (gI5 205 rfl) rfl
theorem ms_MO_takeTitle : Cond.selects "ObjectFileModel" y_MO_takeTitle y_MO_takeTitle ∈ gTs := gSel (List.mem_of_getElem? (i := 108) (by rfl : lw_privs[108]? = some (y_MO_takeTitle, 41)))
theorem mw_MO_title : gMw gTs y_MO_title b_MO_title 10 none 9 := ⟨gT0 (gI4 211 rfl) rfl, gT0 (gI1 9 rfl) rfl, by decide, by decide, by decide +kernel⟩
theorem mi_MO_title : Cond.instanceMethod y_MO_title ∈ gTs := gT0 (gI4 210 rfl) rfl
theorem ms_MO_title : Cond.selects "ObjectFileModel" y_MO_title y_MO_title ∈ gTs := gSel (List.mem_of_getElem? (i := 96) (by rfl : lw_privs[96]? = some (y_MO_title, 41)))
theorem mw_MO_told : gMw gTs y_MO_told b_MO_told 3 (some .long) 2 := ⟨gT0 (gI6 66 rfl) rfl, gT0 (gI1 9 rfl) rfl, by decide, by decide, by decide +kernel⟩
theorem mi_MO_told : Cond.instanceMethod y_MO_told ∈ gTs := gT0 (gI6 65 rfl) rfl
theorem ms_MO_told : Cond.selects "ObjectFileModel" y_MO_told y_MO_told ∈ gTs := gSel (List.mem_of_getElem? (i := 122) (by rfl : lw_privs[122]? = some (y_MO_told, 41)))
theorem mw_MO_unfit : gMw gTs y_MO_unfit b_MO_unfit 2 (some .int) 0 := ⟨gT0 (gI5 168 rfl) rfl, gT0 (gI1 9 rfl) rfl, by decide, by decide, by decide +kernel⟩
theorem mi_MO_unfit : Cond.instanceMethod y_MO_unfit ∈ gTs := gT0 (gI5 167 rfl) rfl
theorem ms_MO_unfit : Cond.selects "ObjectFileModel" y_MO_unfit y_MO_unfit ∈ gTs := gSel (List.mem_of_getElem? (i := 100) (by rfl : lw_privs[100]? = some (y_MO_unfit, 41)))
theorem mw_MO_whereOf : gMw gTs y_MO_whereOf b_MO_whereOf 4 (some .int) 1 := ⟨gT0 (gI6 138 rfl) rfl, gT0 (gI1 9 rfl) rfl, by decide, by decide, by decide +kernel⟩
theorem mi_MO_whereOf : Cond.instanceMethod y_MO_whereOf ∈ gTs := gT0 (gI6 137 rfl) rfl
theorem ms_MO_whereOf : Cond.selects "ObjectFileModel" y_MO_whereOf y_MO_whereOf ∈ gTs := gSel (List.mem_of_getElem? (i := 137) (by rfl : lw_privs[137]? = some (y_MO_whereOf, 41)))
theorem mw_MO_widthOf : gMw gTs y_MO_widthOf b_MO_widthOf 2 (some .int) 2 := ⟨gT0 (gI5 171 rfl) rfl, gT0 (gI1 9 rfl) rfl, by decide, by decide, by decide +kernel⟩
theorem mt_MO_widthOf : Cond.static y_MO_widthOf ∈ gTs := gT0 (gI5 170 rfl) rfl
theorem mw_MO_write : gMw gTs y_MO_write b_MO_write 6 (some .int) 0 := ⟨gT0 (gI5 164 rfl) rfl, gT0 (gI1 9 rfl) rfl, by decide, by decide, by decide +kernel⟩
theorem mi_MO_write : Cond.instanceMethod y_MO_write ∈ gTs := gT0 (gI5 162 rfl) rfl
theorem ms_MO_write : Cond.selects "ObjectFileModel" y_MO_write y_MO_write ∈ gTs := gT0 (gI5 163 rfl) rfl
theorem mw_MO_write1 : gMw gTs y_MO_write1 b_MO_write1 3 none 2 := ⟨gT0 (gI5 223 rfl) rfl, gT0 (gI1 9 rfl) rfl, by decide, by decide, by decide +kernel⟩
theorem mi_MO_write1 : Cond.instanceMethod y_MO_write1 ∈ gTs := gT0 (gI5 222 rfl) rfl
theorem ms_MO_write1 : Cond.selects "ObjectFileModel" y_MO_write1 y_MO_write1 ∈ gTs := gSel (List.mem_of_getElem? (i := 112) (by rfl : lw_privs[112]? = some (y_MO_write1, 41)))
theorem mw_MO_write2 : gMw gTs y_MO_write2 b_MO_write2 3 none 2 := ⟨gT0 (gI5 219 rfl) rfl, gT0 (gI1 9 rfl) rfl, by decide, by decide, by decide +kernel⟩
theorem mi_MO_write2 : Cond.instanceMethod y_MO_write2 ∈ gTs := gT0 (gI5 218 rfl) rfl
theorem ms_MO_write2 : Cond.selects "ObjectFileModel" y_MO_write2 y_MO_write2 ∈ gTs := gSel (List.mem_of_getElem? (i := 111) (by rfl : lw_privs[111]? = some (y_MO_write2, 41)))
theorem mw_MO_write4 : gMw gTs y_MO_write4 b_MO_write4 3 none 2 := ⟨gT0 (gI5 215 rfl) rfl, gT0 (gI1 9 rfl) rfl, by decide, by decide, by decide +kernel⟩
theorem mi_MO_write4 : Cond.instanceMethod y_MO_write4 ∈ gTs := gT0 (gI5 214 rfl) rfl
theorem ms_MO_write4 : Cond.selects "ObjectFileModel" y_MO_write4 y_MO_write4 ∈ gTs := gSel (List.mem_of_getElem? (i := 110) (by rfl : lw_privs[110]? = some (y_MO_write4, 41)))
theorem mw_MO_writeEntry : gMw gTs y_MO_writeEntry b_MO_writeEntry 5 none 3 := ⟨gT0 (gI6 1 rfl) rfl, gT0 (gI1 9 rfl) rfl, by decide, by decide, by decide +kernel⟩
theorem mi_MO_writeEntry : Cond.instanceMethod y_MO_writeEntry ∈ gTs := gT0 (gI6 0 rfl) rfl
theorem ms_MO_writeEntry : Cond.selects "ObjectFileModel" y_MO_writeEntry y_MO_writeEntry ∈ gTs := gSel (List.mem_of_getElem? (i := 115) (by rfl : lw_privs[115]? = some (y_MO_writeEntry, 41)))
theorem mw_MO_writeHead : gMw gTs y_MO_writeHead b_MO_writeHead 4 none 1 := ⟨gT0 (gI5 210 rfl) rfl, gT0 (gI1 9 rfl) rfl, by decide, by decide, by decide +kernel⟩
theorem mi_MO_writeHead : Cond.instanceMethod y_MO_writeHead ∈ gTs := gT0 (gI5 209 rfl) rfl
theorem ms_MO_writeHead : Cond.selects "ObjectFileModel" y_MO_writeHead y_MO_writeHead ∈ gTs := gSel (List.mem_of_getElem? (i := 109) (by rfl : lw_privs[109]? = some (y_MO_writeHead, 41)))
theorem mw_MO_writeRelocations : gMw gTs y_MO_writeRelocations b_MO_writeRelocations 4 none 1 := ⟨gT0 (gI5 231 rfl) rfl, gT0 (gI1 9 rfl) rfl, by decide, by decide, by decide +kernel⟩
theorem mi_MO_writeRelocations : Cond.instanceMethod y_MO_writeRelocations ∈ gTs := gT0 (gI5 230 rfl) rfl
theorem ms_MO_writeRelocations : Cond.selects "ObjectFileModel" y_MO_writeRelocations y_MO_writeRelocations ∈ gTs := gSel (List.mem_of_getElem? (i := 113) (by rfl : lw_privs[113]? = some (y_MO_writeRelocations, 41)))
theorem mw_MO_writeSymbols : gMw gTs y_MO_writeSymbols b_MO_writeSymbols 3 none 0 := ⟨gT0 (gI5 235 rfl) rfl, gT0 (gI1 9 rfl) rfl, by decide, by decide, by decide +kernel⟩
theorem mi_MO_writeSymbols : Cond.instanceMethod y_MO_writeSymbols ∈ gTs := gT0 (gI5 234 rfl) rfl
theorem ms_MO_writeSymbols : Cond.selects "ObjectFileModel" y_MO_writeSymbols y_MO_writeSymbols ∈ gTs := gSel (List.mem_of_getElem? (i := 114) (by rfl : lw_privs[114]? = some (y_MO_writeSymbols, 41)))
theorem mw_OF_addendMayBe : gMw gTs y_OF_addendMayBe b_OF_addendMayBe 2 (some .boolean) 2 := ⟨gT0 (gI2 128 rfl) rfl, gT0 (gI1 1 rfl) rfl, by decide, by decide, by decide +kernel⟩
theorem mt_OF_addendMayBe : Cond.static y_OF_addendMayBe ∈ gTs := gT0 (gI2 127 rfl) rfl
theorem mw_OF_align : gMw gTs y_OF_align b_OF_align 3 (some .boolean) 2 := ⟨gT0 (gI2 47 rfl) rfl, gT0 (gI1 1 rfl) rfl, by decide, by decide, by decide +kernel⟩
theorem mi_OF_align : Cond.instanceMethod y_OF_align ∈ gTs := gT0 (gI2 45 rfl) rfl
theorem ms_OF_align : Cond.selects "ObjectFile" y_OF_align y_OF_align ∈ gTs := gT0 (gI2 46 rfl) rfl
theorem mw_OF_at : gMw gTs y_OF_at b_OF_at 3 (some .int) 2 := ⟨gT0 (gI4 179 rfl) rfl, gT0 (gI1 1 rfl) rfl, by decide, by decide, by decide +kernel⟩
theorem mi_OF_at : Cond.instanceMethod y_OF_at ∈ gTs := gT0 (gI4 177 rfl) rfl
theorem ms_OF_at : Cond.selects "ObjectFile" y_OF_at y_OF_at ∈ gTs := gT0 (gI4 178 rfl) rfl
theorem mw_OF_bss : gMw gTs y_OF_bss b_OF_bss 2 (some .boolean) 1 := ⟨gT0 (gI2 43 rfl) rfl, gT0 (gI1 1 rfl) rfl, by decide, by decide, by decide +kernel⟩
theorem mi_OF_bss : Cond.instanceMethod y_OF_bss ∈ gTs := gT0 (gI2 41 rfl) rfl
theorem ms_OF_bss : Cond.selects "ObjectFile" y_OF_bss y_OF_bss ∈ gTs := gT0 (gI2 42 rfl) rfl
theorem mw_OF_byteAt : gMw gTs y_OF_byteAt b_OF_byteAt 2 (some .int) 1 := ⟨gT0 (gI3 146 rfl) rfl, gT0 (gI1 1 rfl) rfl, by decide, by decide, by decide +kernel⟩
theorem mi_OF_byteAt : Cond.instanceMethod y_OF_byteAt ∈ gTs := gT0 (gI3 144 rfl) rfl
theorem ms_OF_byteAt : Cond.selects "ObjectFile" y_OF_byteAt y_OF_byteAt ∈ gTs := gT0 (gI3 145 rfl) rfl
theorem mw_OF_clear : gMw gTs y_OF_clear b_OF_clear 1 none 0 := ⟨gT0 (gI2 24 rfl) rfl, gT0 (gI1 1 rfl) rfl, by decide, by decide, by decide +kernel⟩
theorem mi_OF_clear : Cond.instanceMethod y_OF_clear ∈ gTs := gT0 (gI2 22 rfl) rfl
theorem ms_OF_clear : Cond.selects "ObjectFile" y_OF_clear y_OF_clear ∈ gTs := gT0 (gI2 23 rfl) rfl
theorem mw_OF_count : gMw gTs y_OF_count b_OF_count 2 (some .int) 1 := ⟨gT0 (gI4 184 rfl) rfl, gT0 (gI1 1 rfl) rfl, by decide, by decide, by decide +kernel⟩
theorem mi_OF_count : Cond.instanceMethod y_OF_count ∈ gTs := gT0 (gI4 182 rfl) rfl
theorem ms_OF_count : Cond.selects "ObjectFile" y_OF_count y_OF_count ∈ gTs := gT0 (gI4 183 rfl) rfl
theorem mw_OF_cut : gMw gTs y_OF_cut b_OF_cut 2 (some .boolean) 1 := ⟨gT0 (gI3 166 rfl) rfl, gT0 (gI1 1 rfl) rfl, by decide, by decide, by decide +kernel⟩
theorem mi_OF_cut : Cond.instanceMethod y_OF_cut ∈ gTs := gT0 (gI3 164 rfl) rfl
theorem ms_OF_cut : Cond.selects "ObjectFile" y_OF_cut y_OF_cut ∈ gTs := gT0 (gI3 165 rfl) rfl
theorem mw_OF_feed : gMw gTs y_OF_feed b_OF_feed 4 (some .boolean) 2 := ⟨gT0 (gI3 158 rfl) rfl, gT0 (gI1 1 rfl) rfl, by decide, by decide, by decide +kernel⟩
theorem mi_OF_feed : Cond.instanceMethod y_OF_feed ∈ gTs := gT0 (gI3 156 rfl) rfl
theorem ms_OF_feed : Cond.selects "ObjectFile" y_OF_feed y_OF_feed ∈ gTs := gT0 (gI3 157 rfl) rfl
theorem mw_OF_firstFlaw : gMw gTs y_OF_firstFlaw b_OF_firstFlaw 3 (some .int) 3 := ⟨gT0 (gI2 84 rfl) rfl, gT0 (gI1 1 rfl) rfl, by decide, by decide, by decide +kernel⟩
theorem mt_OF_firstFlaw : Cond.static y_OF_firstFlaw ∈ gTs := gT0 (gI2 83 rfl) rfl
theorem mw_OF_flawOf : gMw gTs y_OF_flawOf b_OF_flawOf 6 (some .int) 5 := ⟨gT0 (gI2 81 rfl) rfl, gT0 (gI1 1 rfl) rfl, by decide, by decide, by decide +kernel⟩
theorem mt_OF_flawOf : Cond.static y_OF_flawOf ∈ gTs := gT0 (gI2 80 rfl) rfl
theorem mw_OF_hasSymbol : gMw gTs y_OF_hasSymbol b_OF_hasSymbol 1 (some .boolean) 1 := ⟨gT0 (gI2 131 rfl) rfl, gT0 (gI1 1 rfl) rfl, by decide, by decide, by decide +kernel⟩
theorem mt_OF_hasSymbol : Cond.static y_OF_hasSymbol ∈ gTs := gT0 (gI2 130 rfl) rfl
theorem mw_OF_isAlignment : gMw gTs y_OF_isAlignment b_OF_isAlignment 2 (some .boolean) 1 := ⟨gT0 (gI2 87 rfl) rfl, gT0 (gI1 1 rfl) rfl, by decide, by decide, by decide +kernel⟩
theorem mt_OF_isAlignment : Cond.static y_OF_isAlignment ∈ gTs := gT0 (gI2 86 rfl) rfl
theorem mw_OF_isBindOrType : gMw gTs y_OF_isBindOrType b_OF_isBindOrType 1 (some .boolean) 1 := ⟨gT0 (gI2 77 rfl) rfl, gT0 (gI1 1 rfl) rfl, by decide, by decide, by decide +kernel⟩
theorem mt_OF_isBindOrType : Cond.static y_OF_isBindOrType ∈ gTs := gT0 (gI2 76 rfl) rfl
theorem mw_OF_isNameCharacter : gMw gTs y_OF_isNameCharacter b_OF_isNameCharacter 1 (some .boolean) 1 := ⟨gT0 (gI2 70 rfl) rfl, gT0 (gI1 1 rfl) rfl, by decide, by decide, by decide +kernel⟩
theorem mt_OF_isNameCharacter : Cond.static y_OF_isNameCharacter ∈ gTs := gT0 (gI2 69 rfl) rfl
theorem mw_OF_isRela : gMw gTs y_OF_isRela b_OF_isRela 1 (some .boolean) 1 := ⟨gT0 (gI3 132 rfl) rfl, gT0 (gI1 1 rfl) rfl, by decide, by decide, by decide +kernel⟩
theorem mt_OF_isRela : Cond.static y_OF_isRela ∈ gTs := gT0 (gI3 131 rfl) rfl
theorem mw_OF_isShort : gMw gTs y_OF_isShort b_OF_isShort 1 (some .boolean) 1 := ⟨gT0 (gI3 88 rfl) rfl, gT0 (gI1 1 rfl) rfl, by decide, by decide, by decide +kernel⟩
theorem mt_OF_isShort : Cond.static y_OF_isShort ∈ gTs := gT0 (gI3 87 rfl) rfl
theorem mw_OF_keep : gMw gTs y_OF_keep b_OF_keep 1 none 0 := ⟨gT0 (gI4 167 rfl) rfl, gT0 (gI1 1 rfl) rfl, by decide, by decide, by decide +kernel⟩
theorem mi_OF_keep : Cond.instanceMethod y_OF_keep ∈ gTs := gT0 (gI4 165 rfl) rfl
theorem ms_OF_keep : Cond.selects "ObjectFile" y_OF_keep y_OF_keep ∈ gTs := gT0 (gI4 166 rfl) rfl
theorem mw_OF_kindMayBeIn : gMw gTs y_OF_kindMayBeIn b_OF_kindMayBeIn 2 (some .boolean) 2 := ⟨gT0 (gI2 122 rfl) rfl, gT0 (gI1 1 rfl) rfl, by decide, by decide, by decide +kernel⟩
theorem mt_OF_kindMayBeIn : Cond.static y_OF_kindMayBeIn ∈ gTs := gT0 (gI2 121 rfl) rfl
theorem mw_OF_labelOf : gMw gTs y_OF_labelOf b_OF_labelOf 1 (some (.object "java/lang/String")) 1 := ⟨gT0 (gI2 214 rfl) rfl, gT0 (gI1 1 rfl) rfl, by decide, by decide, by decide +kernel⟩
theorem mt_OF_labelOf : Cond.static y_OF_labelOf ∈ gTs := gT0 (gI2 213 rfl) rfl
theorem mw_OF_letter : gMw gTs y_OF_letter b_OF_letter 2 (some .boolean) 1 := ⟨gT0 (gI2 67 rfl) rfl, gT0 (gI1 1 rfl) rfl, by decide, by decide, by decide +kernel⟩
theorem mi_OF_letter : Cond.instanceMethod y_OF_letter ∈ gTs := gT0 (gI2 65 rfl) rfl
theorem ms_OF_letter : Cond.selects "ObjectFile" y_OF_letter y_OF_letter ∈ gTs := gT0 (gI2 66 rfl) rfl
theorem mw_OF_place : gMw gTs y_OF_place b_OF_place 1 (some .int) 0 := ⟨gT0 (gI4 163 rfl) rfl, gT0 (gI1 1 rfl) rfl, by decide, by decide, by decide +kernel⟩
theorem mi_OF_place : Cond.instanceMethod y_OF_place ∈ gTs := gT0 (gI4 161 rfl) rfl
theorem ms_OF_place : Cond.selects "ObjectFile" y_OF_place y_OF_place ∈ gTs := gT0 (gI4 162 rfl) rfl
theorem mw_OF_put : gMw gTs y_OF_put b_OF_put 5 (some .boolean) 3 := ⟨gT0 (gI2 35 rfl) rfl, gT0 (gI1 1 rfl) rfl, by decide, by decide, by decide +kernel⟩
theorem mi_OF_put : Cond.instanceMethod y_OF_put ∈ gTs := gT0 (gI2 33 rfl) rfl
theorem ms_OF_put : Cond.selects "ObjectFile" y_OF_put y_OF_put ∈ gTs := gT0 (gI2 34 rfl) rfl
theorem mw_OF_read : gMw gTs y_OF_read b_OF_read 2 (some .int) 0 := ⟨gT0 (gI3 175 rfl) rfl, gT0 (gI1 1 rfl) rfl, by decide, by decide, by decide +kernel⟩
theorem mi_OF_read : Cond.instanceMethod y_OF_read ∈ gTs := gT0 (gI3 173 rfl) rfl
theorem ms_OF_read : Cond.selects "ObjectFile" y_OF_read y_OF_read ∈ gTs := gT0 (gI3 174 rfl) rfl
theorem mw_OF_relocation : gMw gTs y_OF_relocation b_OF_relocation 6 (some .int) 5 := ⟨gT0 (gI2 119 rfl) rfl, gT0 (gI1 1 rfl) rfl, by decide, by decide, by decide +kernel⟩
theorem mi_OF_relocation : Cond.instanceMethod y_OF_relocation ∈ gTs := gT0 (gI2 117 rfl) rfl
theorem ms_OF_relocation : Cond.selects "ObjectFile" y_OF_relocation y_OF_relocation ∈ gTs := gT0 (gI2 118 rfl) rfl
theorem mw_OF_relocationAt : gMw gTs y_OF_relocationAt b_OF_relocationAt 3 (some .int) 2 := ⟨gT0 (gI4 200 rfl) rfl, gT0 (gI1 1 rfl) rfl, by decide, by decide, by decide +kernel⟩
theorem mi_OF_relocationAt : Cond.instanceMethod y_OF_relocationAt ∈ gTs := gT0 (gI4 198 rfl) rfl
theorem ms_OF_relocationAt : Cond.selects "ObjectFile" y_OF_relocationAt y_OF_relocationAt ∈ gTs := gT0 (gI4 199 rfl) rfl
theorem mw_OF_section : gMw gTs y_OF_section b_OF_section 3 (some .int) 2 := ⟨gT0 (gI4 175 rfl) rfl, gT0 (gI1 1 rfl) rfl, by decide, by decide, by decide +kernel⟩
theorem mi_OF_section : Cond.instanceMethod y_OF_section ∈ gTs := gT0 (gI4 173 rfl) rfl
theorem ms_OF_section : Cond.selects "ObjectFile" y_OF_section y_OF_section ∈ gTs := gT0 (gI4 174 rfl) rfl
theorem mw_OF_size : gMw gTs y_OF_size b_OF_size 1 (some .int) 0 := ⟨gT0 (gI3 142 rfl) rfl, gT0 (gI1 1 rfl) rfl, by decide, by decide, by decide +kernel⟩
theorem mi_OF_size : Cond.instanceMethod y_OF_size ∈ gTs := gT0 (gI3 140 rfl) rfl
theorem ms_OF_size : Cond.selects "ObjectFile" y_OF_size y_OF_size ∈ gTs := gT0 (gI3 141 rfl) rfl
theorem mw_OF_spoil : gMw gTs y_OF_spoil b_OF_spoil 4 (some .int) 2 := ⟨gT0 (gI3 170 rfl) rfl, gT0 (gI1 1 rfl) rfl, by decide, by decide, by decide +kernel⟩
theorem mi_OF_spoil : Cond.instanceMethod y_OF_spoil ∈ gTs := gT0 (gI3 168 rfl) rfl
theorem ms_OF_spoil : Cond.selects "ObjectFile" y_OF_spoil y_OF_spoil ∈ gTs := gT0 (gI3 169 rfl) rfl
theorem mw_OF_start : gMw gTs y_OF_start b_OF_start 2 (some .boolean) 1 := ⟨gT0 (gI2 51 rfl) rfl, gT0 (gI1 1 rfl) rfl, by decide, by decide, by decide +kernel⟩
theorem mi_OF_start : Cond.instanceMethod y_OF_start ∈ gTs := gT0 (gI2 49 rfl) rfl
theorem ms_OF_start : Cond.selects "ObjectFile" y_OF_start y_OF_start ∈ gTs := gT0 (gI2 50 rfl) rfl
theorem mw_OF_startAt : gMw gTs y_OF_startAt b_OF_startAt 2 (some .int) 1 := ⟨gT0 (gI4 189 rfl) rfl, gT0 (gI1 1 rfl) rfl, by decide, by decide, by decide +kernel⟩
theorem mi_OF_startAt : Cond.instanceMethod y_OF_startAt ∈ gTs := gT0 (gI4 187 rfl) rfl
theorem ms_OF_startAt : Cond.selects "ObjectFile" y_OF_startAt y_OF_startAt ∈ gTs := gT0 (gI4 188 rfl) rfl
theorem mw_OF_symbol : gMw gTs y_OF_symbol b_OF_symbol 8 (some .int) 5 := ⟨gT0 (gI2 74 rfl) rfl, gT0 (gI1 1 rfl) rfl, by decide, by decide, by decide +kernel⟩
theorem mi_OF_symbol : Cond.instanceMethod y_OF_symbol ∈ gTs := gT0 (gI2 72 rfl) rfl
theorem ms_OF_symbol : Cond.selects "ObjectFile" y_OF_symbol y_OF_symbol ∈ gTs := gT0 (gI2 73 rfl) rfl
theorem mw_OF_symbolAt : gMw gTs y_OF_symbolAt b_OF_symbolAt 3 (some .int) 2 := ⟨gT0 (gI4 194 rfl) rfl, gT0 (gI1 1 rfl) rfl, by decide, by decide, by decide +kernel⟩
theorem mi_OF_symbolAt : Cond.instanceMethod y_OF_symbolAt ∈ gTs := gT0 (gI4 192 rfl) rfl
theorem ms_OF_symbolAt : Cond.selects "ObjectFile" y_OF_symbolAt y_OF_symbolAt ∈ gTs := gT0 (gI4 193 rfl) rfl
theorem mw_OF_widthOf : gMw gTs y_OF_widthOf b_OF_widthOf 2 (some .int) 2 := ⟨gT0 (gI2 125 rfl) rfl, gT0 (gI1 1 rfl) rfl, by decide, by decide, by decide +kernel⟩
theorem mt_OF_widthOf : Cond.static y_OF_widthOf ∈ gTs := gT0 (gI2 124 rfl) rfl
theorem mw_OF_write : gMw gTs y_OF_write b_OF_write 1 (some .int) 0 := ⟨gT0 (gI2 139 rfl) rfl, gT0 (gI1 1 rfl) rfl, by decide, by decide, by decide +kernel⟩
theorem mi_OF_write : Cond.instanceMethod y_OF_write ∈ gTs := gT0 (gI2 137 rfl) rfl
theorem ms_OF_write : Cond.selects "ObjectFile" y_OF_write y_OF_write ∈ gTs := gT0 (gI2 138 rfl) rfl
theorem mw_RE_bindOf : gMw gTs y_RE_bindOf b_RE_bindOf 2 (some .int) 1 := ⟨gT0 (gI4 88 rfl) rfl, gT0 (gI1 8 rfl) rfl, by decide, by decide, by decide +kernel⟩
theorem mi_RE_bindOf : Cond.instanceMethod y_RE_bindOf ∈ gTs := gT0 (gI4 87 rfl) rfl
theorem ms_RE_bindOf : Cond.selects "ObjectFile$Reader" y_RE_bindOf y_RE_bindOf ∈ gTs := gSel (List.mem_of_getElem? (i := 80) (by rfl : lw_privs[80]? = some (y_RE_bindOf, 4)))
theorem mw_RE_fill : gMw gTs y_RE_fill b_RE_fill 6 none 1 := ⟨gT0 (gI4 142 rfl) rfl, gT0 (gI1 8 rfl) rfl, by decide, by decide, by decide +kernel⟩
theorem mi_RE_fill : Cond.instanceMethod y_RE_fill ∈ gTs := gT0 (gI4 141 rfl) rfl
theorem ms_RE_fill : Cond.selects "ObjectFile$Reader" y_RE_fill y_RE_fill ∈ gTs := gSel (List.mem_of_getElem? (i := 91) (by rfl : lw_privs[91]? = some (y_RE_fill, 4)))
theorem mw_RE_fillRelocations : gMw gTs y_RE_fillRelocations b_RE_fillRelocations 7 none 2 := ⟨gT0 (gI4 158 rfl) rfl, gT0 (gI1 8 rfl) rfl, by decide, by decide, by decide +kernel⟩
theorem mi_RE_fillRelocations : Cond.instanceMethod y_RE_fillRelocations ∈ gTs := gT0 (gI4 157 rfl) rfl
theorem ms_RE_fillRelocations : Cond.selects "ObjectFile$Reader" y_RE_fillRelocations y_RE_fillRelocations ∈ gTs := gSel (List.mem_of_getElem? (i := 94) (by rfl : lw_privs[94]? = some (y_RE_fillRelocations, 4)))
theorem mw_RE_fillSymbol : gMw gTs y_RE_fillSymbol b_RE_fillSymbol 6 none 2 := ⟨gT0 (gI4 152 rfl) rfl, gT0 (gI1 8 rfl) rfl, by decide, by decide, by decide +kernel⟩
theorem mi_RE_fillSymbol : Cond.instanceMethod y_RE_fillSymbol ∈ gTs := gT0 (gI4 151 rfl) rfl
theorem ms_RE_fillSymbol : Cond.selects "ObjectFile$Reader" y_RE_fillSymbol y_RE_fillSymbol ∈ gTs := gSel (List.mem_of_getElem? (i := 93) (by rfl : lw_privs[93]? = some (y_RE_fillSymbol, 4)))
theorem mw_RE_firstFault : gMw gTs y_RE_firstFault b_RE_firstFault 2 (some .int) 0 := ⟨gT0 (gI4 60 rfl) rfl, gT0 (gI1 8 rfl) rfl, by decide, by decide, by decide +kernel⟩
theorem mi_RE_firstFault : Cond.instanceMethod y_RE_firstFault ∈ gTs := gT0 (gI4 59 rfl) rfl
theorem ms_RE_firstFault : Cond.selects "ObjectFile$Reader" y_RE_firstFault y_RE_firstFault ∈ gTs := gSel (List.mem_of_getElem? (i := 74) (by rfl : lw_privs[74]? = some (y_RE_firstFault, 4)))
theorem mw_RE_flawIn : gMw gTs y_RE_flawIn b_RE_flawIn 4 (some .int) 1 := ⟨gT0 (gI4 106 rfl) rfl, gT0 (gI1 8 rfl) rfl, by decide, by decide, by decide +kernel⟩
theorem mi_RE_flawIn : Cond.instanceMethod y_RE_flawIn ∈ gTs := gT0 (gI4 105 rfl) rfl
theorem ms_RE_flawIn : Cond.selects "ObjectFile$Reader" y_RE_flawIn y_RE_flawIn ∈ gTs := gSel (List.mem_of_getElem? (i := 84) (by rfl : lw_privs[84]? = some (y_RE_flawIn, 4)))
theorem mw_RE_haveSameName : gMw gTs y_RE_haveSameName b_RE_haveSameName 5 (some .boolean) 2 := ⟨gT0 (gI4 115 rfl) rfl, gT0 (gI1 8 rfl) rfl, by decide, by decide, by decide +kernel⟩
theorem mi_RE_haveSameName : Cond.instanceMethod y_RE_haveSameName ∈ gTs := gT0 (gI4 114 rfl) rfl
theorem ms_RE_haveSameName : Cond.selects "ObjectFile$Reader" y_RE_haveSameName y_RE_haveSameName ∈ gTs := gSel (List.mem_of_getElem? (i := 86) (by rfl : lw_privs[86]? = some (y_RE_haveSameName, 4)))
theorem mw_RE_isNamedBefore : gMw gTs y_RE_isNamedBefore b_RE_isNamedBefore 5 (some .boolean) 2 := ⟨gT0 (gI4 111 rfl) rfl, gT0 (gI1 8 rfl) rfl, by decide, by decide, by decide +kernel⟩
theorem mi_RE_isNamedBefore : Cond.instanceMethod y_RE_isNamedBefore ∈ gTs := gT0 (gI4 110 rfl) rfl
theorem ms_RE_isNamedBefore : Cond.selects "ObjectFile$Reader" y_RE_isNamedBefore y_RE_isNamedBefore ∈ gTs := gSel (List.mem_of_getElem? (i := 85) (by rfl : lw_privs[85]? = some (y_RE_isNamedBefore, 4)))
theorem mw_RE_nameLength : gMw gTs y_RE_nameLength b_RE_nameLength 5 (some .int) 1 := ⟨gT0 (gI4 78 rfl) rfl, gT0 (gI1 8 rfl) rfl, by decide, by decide, by decide +kernel⟩
theorem mi_RE_nameLength : Cond.instanceMethod y_RE_nameLength ∈ gTs := gT0 (gI4 77 rfl) rfl
theorem ms_RE_nameLength : Cond.selects "ObjectFile$Reader" y_RE_nameLength y_RE_nameLength ∈ gTs := gSel (List.mem_of_getElem? (i := 78) (by rfl : lw_privs[78]? = some (y_RE_nameLength, 4)))
theorem mw_RE_nameSpot : gMw gTs y_RE_nameSpot b_RE_nameSpot 2 (some .int) 1 := ⟨gT0 (gI4 83 rfl) rfl, gT0 (gI1 8 rfl) rfl, by decide, by decide, by decide +kernel⟩
theorem mi_RE_nameSpot : Cond.instanceMethod y_RE_nameSpot ∈ gTs := gT0 (gI4 82 rfl) rfl
theorem ms_RE_nameSpot : Cond.selects "ObjectFile$Reader" y_RE_nameSpot y_RE_nameSpot ∈ gTs := gSel (List.mem_of_getElem? (i := 79) (by rfl : lw_privs[79]? = some (y_RE_nameSpot, 4)))
theorem mw_RE_relocationFault : gMw gTs y_RE_relocationFault b_RE_relocationFault 7 (some .int) 2 := ⟨gT0 (gI4 125 rfl) rfl, gT0 (gI1 8 rfl) rfl, by decide, by decide, by decide +kernel⟩
theorem mi_RE_relocationFault : Cond.instanceMethod y_RE_relocationFault ∈ gTs := gT0 (gI4 124 rfl) rfl
theorem ms_RE_relocationFault : Cond.selects "ObjectFile$Reader" y_RE_relocationFault y_RE_relocationFault ∈ gTs := gSel (List.mem_of_getElem? (i := 88) (by rfl : lw_privs[88]? = some (y_RE_relocationFault, 4)))
theorem mw_RE_relocationsFault : gMw gTs y_RE_relocationsFault b_RE_relocationsFault 6 (some .int) 0 := ⟨gT0 (gI4 121 rfl) rfl, gT0 (gI1 8 rfl) rfl, by decide, by decide, by decide +kernel⟩
theorem mi_RE_relocationsFault : Cond.instanceMethod y_RE_relocationsFault ∈ gTs := gT0 (gI4 120 rfl) rfl
theorem ms_RE_relocationsFault : Cond.selects "ObjectFile$Reader" y_RE_relocationsFault y_RE_relocationsFault ∈ gTs := gSel (List.mem_of_getElem? (i := 87) (by rfl : lw_privs[87]? = some (y_RE_relocationsFault, 4)))
theorem mw_RE_startsFault : gMw gTs y_RE_startsFault b_RE_startsFault 8 (some .int) 0 := ⟨gT0 (gI4 137 rfl) rfl, gT0 (gI1 8 rfl) rfl, by decide, by decide, by decide +kernel⟩
theorem mi_RE_startsFault : Cond.instanceMethod y_RE_startsFault ∈ gTs := gT0 (gI4 136 rfl) rfl
theorem ms_RE_startsFault : Cond.selects "ObjectFile$Reader" y_RE_startsFault y_RE_startsFault ∈ gTs := gSel (List.mem_of_getElem? (i := 90) (by rfl : lw_privs[90]? = some (y_RE_startsFault, 4)))
theorem mw_RE_symbolFault : gMw gTs y_RE_symbolFault b_RE_symbolFault 5 (some .int) 2 := ⟨gT0 (gI4 74 rfl) rfl, gT0 (gI1 8 rfl) rfl, by decide, by decide, by decide +kernel⟩
theorem mi_RE_symbolFault : Cond.instanceMethod y_RE_symbolFault ∈ gTs := gT0 (gI4 73 rfl) rfl
theorem ms_RE_symbolFault : Cond.selects "ObjectFile$Reader" y_RE_symbolFault y_RE_symbolFault ∈ gTs := gSel (List.mem_of_getElem? (i := 77) (by rfl : lw_privs[77]? = some (y_RE_symbolFault, 4)))
theorem mw_RE_symbolNumber : gMw gTs y_RE_symbolNumber b_RE_symbolNumber 2 (some .int) 1 := ⟨gT0 (gI4 130 rfl) rfl, gT0 (gI1 8 rfl) rfl, by decide, by decide, by decide +kernel⟩
theorem mi_RE_symbolNumber : Cond.instanceMethod y_RE_symbolNumber ∈ gTs := gT0 (gI4 129 rfl) rfl
theorem ms_RE_symbolNumber : Cond.selects "ObjectFile$Reader" y_RE_symbolNumber y_RE_symbolNumber ∈ gTs := gSel (List.mem_of_getElem? (i := 89) (by rfl : lw_privs[89]? = some (y_RE_symbolNumber, 4)))
theorem mw_RE_symbolRows : gMw gTs y_RE_symbolRows b_RE_symbolRows 1 (some .int) 0 := ⟨gT0 (gI4 70 rfl) rfl, gT0 (gI1 8 rfl) rfl, by decide, by decide, by decide +kernel⟩
theorem mi_RE_symbolRows : Cond.instanceMethod y_RE_symbolRows ∈ gTs := gT0 (gI4 69 rfl) rfl
theorem ms_RE_symbolRows : Cond.selects "ObjectFile$Reader" y_RE_symbolRows y_RE_symbolRows ∈ gTs := gSel (List.mem_of_getElem? (i := 76) (by rfl : lw_privs[76]? = some (y_RE_symbolRows, 4)))
theorem mw_RE_symbolsFault : gMw gTs y_RE_symbolsFault b_RE_symbolsFault 5 (some .int) 0 := ⟨gT0 (gI4 64 rfl) rfl, gT0 (gI1 8 rfl) rfl, by decide, by decide, by decide +kernel⟩
theorem mi_RE_symbolsFault : Cond.instanceMethod y_RE_symbolsFault ∈ gTs := gT0 (gI4 63 rfl) rfl
theorem ms_RE_symbolsFault : Cond.selects "ObjectFile$Reader" y_RE_symbolsFault y_RE_symbolsFault ∈ gTs := gSel (List.mem_of_getElem? (i := 75) (by rfl : lw_privs[75]? = some (y_RE_symbolsFault, 4)))
theorem mw_RE_typeOf : gMw gTs y_RE_typeOf b_RE_typeOf 2 (some .int) 1 := ⟨gT0 (gI4 93 rfl) rfl, gT0 (gI1 8 rfl) rfl, by decide, by decide, by decide +kernel⟩
theorem mi_RE_typeOf : Cond.instanceMethod y_RE_typeOf ∈ gTs := gT0 (gI4 92 rfl) rfl
theorem ms_RE_typeOf : Cond.selects "ObjectFile$Reader" y_RE_typeOf y_RE_typeOf ∈ gTs := gSel (List.mem_of_getElem? (i := 81) (by rfl : lw_privs[81]? = some (y_RE_typeOf, 4)))
theorem mw_RE_whereOf : gMw gTs y_RE_whereOf b_RE_whereOf 4 (some .int) 1 := ⟨gT0 (gI4 97 rfl) rfl, gT0 (gI1 8 rfl) rfl, by decide, by decide, by decide +kernel⟩
theorem mi_RE_whereOf : Cond.instanceMethod y_RE_whereOf ∈ gTs := gT0 (gI4 96 rfl) rfl
theorem ms_RE_whereOf : Cond.selects "ObjectFile$Reader" y_RE_whereOf y_RE_whereOf ∈ gTs := gSel (List.mem_of_getElem? (i := 82) (by rfl : lw_privs[82]? = some (y_RE_whereOf, 4)))
theorem mw_ST_placeOf : gMw gTs y_ST_placeOf b_ST_placeOf 5 (some .int) 3 := ⟨gT0 (gI2 182 rfl) rfl, gT0 (gI1 5 rfl) rfl, by decide, by decide, by decide +kernel⟩
theorem mi_ST_placeOf : Cond.instanceMethod y_ST_placeOf ∈ gTs := gT0 (gI2 181 rfl) rfl
theorem ms_ST_placeOf : Cond.selects "ObjectFile$Strings" y_ST_placeOf y_ST_placeOf ∈ gTs := gSel (List.mem_of_getElem? (i := 21) (by rfl : lw_privs[21]? = some (y_ST_placeOf, 2)))
theorem mw_ST_putBehind : gMw gTs y_ST_putBehind b_ST_putBehind 5 (some .int) 3 := ⟨gT0 (gI2 190 rfl) rfl, gT0 (gI1 5 rfl) rfl, by decide, by decide, by decide +kernel⟩
theorem mi_ST_putBehind : Cond.instanceMethod y_ST_putBehind ∈ gTs := gT0 (gI2 189 rfl) rfl
theorem ms_ST_putBehind : Cond.selects "ObjectFile$Strings" y_ST_putBehind y_ST_putBehind ∈ gTs := gSel (List.mem_of_getElem? (i := 23) (by rfl : lw_privs[23]? = some (y_ST_putBehind, 2)))
theorem mw_ST_restart : gMw gTs y_ST_restart b_ST_restart 1 none 0 := ⟨gT0 (gI2 178 rfl) rfl, gT0 (gI1 5 rfl) rfl, by decide, by decide, by decide +kernel⟩
theorem mi_ST_restart : Cond.instanceMethod y_ST_restart ∈ gTs := gT0 (gI2 177 rfl) rfl
theorem ms_ST_restart : Cond.selects "ObjectFile$Strings" y_ST_restart y_ST_restart ∈ gTs := gSel (List.mem_of_getElem? (i := 20) (by rfl : lw_privs[20]? = some (y_ST_restart, 2)))
theorem mw_ST_standsAt : gMw gTs y_ST_standsAt b_ST_standsAt 6 (some .boolean) 4 := ⟨gT0 (gI2 186 rfl) rfl, gT0 (gI1 5 rfl) rfl, by decide, by decide, by decide +kernel⟩
theorem mi_ST_standsAt : Cond.instanceMethod y_ST_standsAt ∈ gTs := gT0 (gI2 185 rfl) rfl
theorem ms_ST_standsAt : Cond.selects "ObjectFile$Strings" y_ST_standsAt y_ST_standsAt ∈ gTs := gSel (List.mem_of_getElem? (i := 22) (by rfl : lw_privs[22]? = some (y_ST_standsAt, 2)))
theorem mw_WR_alignmentOf : gMw gTs y_WR_alignmentOf b_WR_alignmentOf 2 (some .int) 1 := ⟨gT0 (gI3 44 rfl) rfl, gT0 (gI1 4 rfl) rfl, by decide, by decide, by decide +kernel⟩
theorem mi_WR_alignmentOf : Cond.instanceMethod y_WR_alignmentOf ∈ gTs := gT0 (gI3 43 rfl) rfl
theorem ms_WR_alignmentOf : Cond.selects "ObjectFile$Writer" y_WR_alignmentOf y_WR_alignmentOf ∈ gTs := gSel (List.mem_of_getElem? (i := 30) (by rfl : lw_privs[30]? = some (y_WR_alignmentOf, 15)))
theorem mw_WR_gatherNames : gMw gTs y_WR_gatherNames b_WR_gatherNames 3 none 0 := ⟨gT0 (gI2 174 rfl) rfl, gT0 (gI1 4 rfl) rfl, by decide, by decide, by decide +kernel⟩
theorem mi_WR_gatherNames : Cond.instanceMethod y_WR_gatherNames ∈ gTs := gT0 (gI2 173 rfl) rfl
theorem ms_WR_gatherNames : Cond.selects "ObjectFile$Writer" y_WR_gatherNames y_WR_gatherNames ∈ gTs := gSel (List.mem_of_getElem? (i := 19) (by rfl : lw_privs[19]? = some (y_WR_gatherNames, 15)))
theorem mw_WR_giveTurn : gMw gTs y_WR_giveTurn b_WR_giveTurn 3 none 2 := ⟨gT0 (gI2 170 rfl) rfl, gT0 (gI1 4 rfl) rfl, by decide, by decide, by decide +kernel⟩
theorem mi_WR_giveTurn : Cond.instanceMethod y_WR_giveTurn ∈ gTs := gT0 (gI2 169 rfl) rfl
theorem ms_WR_giveTurn : Cond.selects "ObjectFile$Writer" y_WR_giveTurn y_WR_giveTurn ∈ gTs := gSel (List.mem_of_getElem? (i := 18) (by rfl : lw_privs[18]? = some (y_WR_giveTurn, 15)))
theorem mw_WR_infoOf : gMw gTs y_WR_infoOf b_WR_infoOf 2 (some .int) 1 := ⟨gT0 (gI3 136 rfl) rfl, gT0 (gI1 4 rfl) rfl, by decide, by decide, by decide +kernel⟩
theorem mi_WR_infoOf : Cond.instanceMethod y_WR_infoOf ∈ gTs := gT0 (gI3 135 rfl) rfl
theorem ms_WR_infoOf : Cond.selects "ObjectFile$Writer" y_WR_infoOf y_WR_infoOf ∈ gTs := gSel (List.mem_of_getElem? (i := 46) (by rfl : lw_privs[46]? = some (y_WR_infoOf, 15)))
theorem mw_WR_isThere : gMw gTs y_WR_isThere b_WR_isThere 2 (some .boolean) 1 := ⟨gT0 (gI2 207 rfl) rfl, gT0 (gI1 4 rfl) rfl, by decide, by decide, by decide +kernel⟩
theorem mi_WR_isThere : Cond.instanceMethod y_WR_isThere ∈ gTs := gT0 (gI2 206 rfl) rfl
theorem ms_WR_isThere : Cond.selects "ObjectFile$Writer" y_WR_isThere y_WR_isThere ∈ gTs := gSel (List.mem_of_getElem? (i := 27) (by rfl : lw_privs[27]? = some (y_WR_isThere, 15)))
theorem mw_WR_layParts : gMw gTs y_WR_layParts b_WR_layParts 3 none 0 := ⟨gT0 (gI3 40 rfl) rfl, gT0 (gI1 4 rfl) rfl, by decide, by decide, by decide +kernel⟩
theorem mi_WR_layParts : Cond.instanceMethod y_WR_layParts ∈ gTs := gT0 (gI3 39 rfl) rfl
theorem ms_WR_layParts : Cond.selects "ObjectFile$Writer" y_WR_layParts y_WR_layParts ∈ gTs := gSel (List.mem_of_getElem? (i := 29) (by rfl : lw_privs[29]? = some (y_WR_layParts, 15)))
theorem mw_WR_linkOf : gMw gTs y_WR_linkOf b_WR_linkOf 2 (some .int) 1 := ⟨gT0 (gI3 129 rfl) rfl, gT0 (gI1 4 rfl) rfl, by decide, by decide, by decide +kernel⟩
theorem mi_WR_linkOf : Cond.instanceMethod y_WR_linkOf ∈ gTs := gT0 (gI3 128 rfl) rfl
theorem ms_WR_linkOf : Cond.selects "ObjectFile$Writer" y_WR_linkOf y_WR_linkOf ∈ gTs := gSel (List.mem_of_getElem? (i := 45) (by rfl : lw_privs[45]? = some (y_WR_linkOf, 15)))
theorem mw_WR_measureParts : gMw gTs y_WR_measureParts b_WR_measureParts 2 none 0 := ⟨gT0 (gI2 195 rfl) rfl, gT0 (gI1 4 rfl) rfl, by decide, by decide, by decide +kernel⟩
theorem mi_WR_measureParts : Cond.instanceMethod y_WR_measureParts ∈ gTs := gT0 (gI2 194 rfl) rfl
theorem ms_WR_measureParts : Cond.selects "ObjectFile$Writer" y_WR_measureParts y_WR_measureParts ∈ gTs := gSel (List.mem_of_getElem? (i := 24) (by rfl : lw_privs[24]? = some (y_WR_measureParts, 15)))
theorem mw_WR_numberEntries : gMw gTs y_WR_numberEntries b_WR_numberEntries 2 none 0 := ⟨gT0 (gI2 203 rfl) rfl, gT0 (gI1 4 rfl) rfl, by decide, by decide, by decide +kernel⟩
theorem mi_WR_numberEntries : Cond.instanceMethod y_WR_numberEntries ∈ gTs := gT0 (gI2 202 rfl) rfl
theorem ms_WR_numberEntries : Cond.selects "ObjectFile$Writer" y_WR_numberEntries y_WR_numberEntries ∈ gTs := gSel (List.mem_of_getElem? (i := 26) (by rfl : lw_privs[26]? = some (y_WR_numberEntries, 15)))
theorem mw_WR_orderSymbols : gMw gTs y_WR_orderSymbols b_WR_orderSymbols 3 none 0 := ⟨gT0 (gI2 165 rfl) rfl, gT0 (gI1 4 rfl) rfl, by decide, by decide, by decide +kernel⟩
theorem mi_WR_orderSymbols : Cond.instanceMethod y_WR_orderSymbols ∈ gTs := gT0 (gI2 164 rfl) rfl
theorem ms_WR_orderSymbols : Cond.selects "ObjectFile$Writer" y_WR_orderSymbols y_WR_orderSymbols ∈ gTs := gSel (List.mem_of_getElem? (i := 17) (by rfl : lw_privs[17]? = some (y_WR_orderSymbols, 15)))
theorem mw_WR_putEntry : gMw gTs y_WR_putEntry b_WR_putEntry 3 none 1 := ⟨gT0 (gI3 121 rfl) rfl, gT0 (gI1 4 rfl) rfl, by decide, by decide, by decide +kernel⟩
theorem mi_WR_putEntry : Cond.instanceMethod y_WR_putEntry ∈ gTs := gT0 (gI3 120 rfl) rfl
theorem ms_WR_putEntry : Cond.selects "ObjectFile$Writer" y_WR_putEntry y_WR_putEntry ∈ gTs := gSel (List.mem_of_getElem? (i := 44) (by rfl : lw_privs[44]? = some (y_WR_putEntry, 15)))
theorem mw_WR_putHeader : gMw gTs y_WR_putHeader b_WR_putHeader 2 none 0 := ⟨gT0 (gI3 63 rfl) rfl, gT0 (gI1 4 rfl) rfl, by decide, by decide, by decide +kernel⟩
theorem mi_WR_putHeader : Cond.instanceMethod y_WR_putHeader ∈ gTs := gT0 (gI3 62 rfl) rfl
theorem ms_WR_putHeader : Cond.selects "ObjectFile$Writer" y_WR_putHeader y_WR_putHeader ∈ gTs := gSel (List.mem_of_getElem? (i := 32) (by rfl : lw_privs[32]? = some (y_WR_putHeader, 15)))
theorem mw_WR_putParts : gMw gTs y_WR_putParts b_WR_putParts 2 none 0 := ⟨gT0 (gI3 92 rfl) rfl, gT0 (gI1 4 rfl) rfl, by decide, by decide, by decide +kernel⟩
theorem mi_WR_putParts : Cond.instanceMethod y_WR_putParts ∈ gTs := gT0 (gI3 91 rfl) rfl
theorem ms_WR_putParts : Cond.selects "ObjectFile$Writer" y_WR_putParts y_WR_putParts ∈ gTs := gSel (List.mem_of_getElem? (i := 38) (by rfl : lw_privs[38]? = some (y_WR_putParts, 15)))
theorem mw_WR_putRelocations : gMw gTs y_WR_putRelocations b_WR_putRelocations 6 none 1 := ⟨gT0 (gI3 102 rfl) rfl, gT0 (gI1 4 rfl) rfl, by decide, by decide, by decide +kernel⟩
theorem mi_WR_putRelocations : Cond.instanceMethod y_WR_putRelocations ∈ gTs := gT0 (gI3 101 rfl) rfl
theorem ms_WR_putRelocations : Cond.selects "ObjectFile$Writer" y_WR_putRelocations y_WR_putRelocations ∈ gTs := gSel (List.mem_of_getElem? (i := 40) (by rfl : lw_privs[40]? = some (y_WR_putRelocations, 15)))
theorem mw_WR_putSymbol : gMw gTs y_WR_putSymbol b_WR_putSymbol 4 none 1 := ⟨gT0 (gI3 107 rfl) rfl, gT0 (gI1 4 rfl) rfl, by decide, by decide, by decide +kernel⟩
theorem mi_WR_putSymbol : Cond.instanceMethod y_WR_putSymbol ∈ gTs := gT0 (gI3 106 rfl) rfl
theorem ms_WR_putSymbol : Cond.selects "ObjectFile$Writer" y_WR_putSymbol y_WR_putSymbol ∈ gTs := gSel (List.mem_of_getElem? (i := 41) (by rfl : lw_privs[41]? = some (y_WR_putSymbol, 15)))
theorem mw_WR_putTable : gMw gTs y_WR_putTable b_WR_putTable 2 none 0 := ⟨gT0 (gI3 117 rfl) rfl, gT0 (gI1 4 rfl) rfl, by decide, by decide, by decide +kernel⟩
theorem mi_WR_putTable : Cond.instanceMethod y_WR_putTable ∈ gTs := gT0 (gI3 116 rfl) rfl
theorem ms_WR_putTable : Cond.selects "ObjectFile$Writer" y_WR_putTable y_WR_putTable ∈ gTs := gSel (List.mem_of_getElem? (i := 43) (by rfl : lw_privs[43]? = some (y_WR_putTable, 15)))
theorem mw_WR_spell : gMw gTs y_WR_spell b_WR_spell 5 (some .int) 1 := ⟨gT0 (gI2 211 rfl) rfl, gT0 (gI1 4 rfl) rfl, by decide, by decide, by decide +kernel⟩
theorem mi_WR_spell : Cond.instanceMethod y_WR_spell ∈ gTs := gT0 (gI2 210 rfl) rfl
theorem ms_WR_spell : Cond.selects "ObjectFile$Writer" y_WR_spell y_WR_spell ∈ gTs := gSel (List.mem_of_getElem? (i := 28) (by rfl : lw_privs[28]? = some (y_WR_spell, 15)))
theorem mw_WR_upTo : gMw gTs y_WR_upTo b_WR_upTo 2 (some .int) 2 := ⟨gT0 (gI3 49 rfl) rfl, gT0 (gI1 4 rfl) rfl, by decide, by decide, by decide +kernel⟩
theorem mt_WR_upTo : Cond.static y_WR_upTo ∈ gTs := gT0 (gI3 48 rfl) rfl
theorem mw_WR_whereInFile : gMw gTs y_WR_whereInFile b_WR_whereInFile 2 (some .int) 1 := ⟨gT0 (gI3 111 rfl) rfl, gT0 (gI1 4 rfl) rfl, by decide, by decide, by decide +kernel⟩
theorem mi_WR_whereInFile : Cond.instanceMethod y_WR_whereInFile ∈ gTs := gT0 (gI3 110 rfl) rfl
theorem ms_WR_whereInFile : Cond.selects "ObjectFile$Writer" y_WR_whereInFile y_WR_whereInFile ∈ gTs := gSel (List.mem_of_getElem? (i := 42) (by rfl : lw_privs[42]? = some (y_WR_whereInFile, 15)))
theorem mw_WR_writeAll : gMw gTs y_WR_writeAll b_WR_writeAll 2 (some .int) 0 := ⟨gT0 (gI2 143 rfl) rfl, gT0 (gI1 4 rfl) rfl, by decide, by decide, by decide +kernel⟩
theorem mi_WR_writeAll : Cond.instanceMethod y_WR_writeAll ∈ gTs := gT0 (gI2 142 rfl) rfl
theorem ms_WR_writeAll : Cond.selects "ObjectFile$Writer" y_WR_writeAll y_WR_writeAll ∈ gTs := gSel (List.mem_of_getElem? (i := 12) (by rfl : lw_privs[12]? = some (y_WR_writeAll, 15)))
