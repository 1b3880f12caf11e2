/-! the law's steps (printed by wip/gen/law.py) -/
theorem dl_852 : decode code 852 = .ok (.iadd, 1) := by decide +kernel
theorem dl_853 : decode code 853 = .ok (.iaload, 1) := by decide +kernel
theorem dl_854 : decode code 854 = .ok (.aload_n 0, 1) := by decide +kernel
theorem dl_855 : decode code 855 = .ok (.iload_n 3, 1) := by decide +kernel
theorem dl_856 : decode code 856 = .ok (.iconst 2, 1) := by decide +kernel
theorem dl_857 : decode code 857 = .ok (.iadd, 1) := by decide +kernel
theorem dl_858 : decode code 858 = .ok (.iaload, 1) := by decide +kernel
theorem dl_859 : decode code 859 = .ok (.aload_n 0, 1) := by decide +kernel
theorem dl_860 : decode code 860 = .ok (.iload_n 3, 1) := by decide +kernel
theorem dl_861 : decode code 861 = .ok (.iconst 3, 1) := by decide +kernel
theorem dl_862 : decode code 862 = .ok (.iadd, 1) := by decide +kernel
theorem dl_863 : decode code 863 = .ok (.iaload, 1) := by decide +kernel
theorem dl_864 : decode code 864 = .ok (.aload_n 0, 1) := by decide +kernel
theorem dl_865 : decode code 865 = .ok (.iload_n 3, 1) := by decide +kernel
theorem dl_866 : decode code 866 = .ok (.iconst 4, 1) := by decide +kernel
theorem dl_867 : decode code 867 = .ok (.iadd, 1) := by decide +kernel
theorem dl_868 : decode code 868 = .ok (.iaload, 1) := by decide +kernel
theorem dl_869 : decode code 869 = .ok (.aload_n 0, 1) := by decide +kernel
theorem dl_870 : decode code 870 = .ok (.iload_n 3, 1) := by decide +kernel
theorem dl_871 : decode code 871 = .ok (.iconst 5, 1) := by decide +kernel
theorem dl_872 : decode code 872 = .ok (.iadd, 1) := by decide +kernel
theorem dl_873 : decode code 873 = .ok (.iaload, 1) := by decide +kernel
theorem dl_874 : decode code 874 = .ok (.invokevirtual 95, 3) := by decide +kernel
theorem dl_877 : decode code 877 = .ok (.aload_n 2, 1) := by decide +kernel
theorem dl_878 : decode code 878 = .ok (.aload_n 0, 1) := by decide +kernel
theorem dl_879 : decode code 879 = .ok (.iload_n 3, 1) := by decide +kernel
theorem dl_880 : decode code 880 = .ok (.iconst 1, 1) := by decide +kernel
theorem dl_881 : decode code 881 = .ok (.iadd, 1) := by decide +kernel
theorem dl_882 : decode code 882 = .ok (.iaload, 1) := by decide +kernel
theorem dl_883 : decode code 883 = .ok (.aload_n 0, 1) := by decide +kernel
theorem dl_884 : decode code 884 = .ok (.iload_n 3, 1) := by decide +kernel
theorem dl_885 : decode code 885 = .ok (.iconst 2, 1) := by decide +kernel
theorem dl_886 : decode code 886 = .ok (.iadd, 1) := by decide +kernel
theorem dl_887 : decode code 887 = .ok (.iaload, 1) := by decide +kernel
theorem dl_888 : decode code 888 = .ok (.aload_n 0, 1) := by decide +kernel
theorem dl_889 : decode code 889 = .ok (.iload_n 3, 1) := by decide +kernel
theorem dl_890 : decode code 890 = .ok (.iconst 3, 1) := by decide +kernel
theorem dl_891 : decode code 891 = .ok (.iadd, 1) := by decide +kernel
theorem dl_892 : decode code 892 = .ok (.iaload, 1) := by decide +kernel
theorem dl_893 : decode code 893 = .ok (.aload_n 0, 1) := by decide +kernel
theorem dl_894 : decode code 894 = .ok (.iload_n 3, 1) := by decide +kernel
theorem dl_895 : decode code 895 = .ok (.iconst 4, 1) := by decide +kernel
theorem dl_896 : decode code 896 = .ok (.iadd, 1) := by decide +kernel
theorem dl_897 : decode code 897 = .ok (.iaload, 1) := by decide +kernel
theorem dl_898 : decode code 898 = .ok (.aload_n 0, 1) := by decide +kernel
theorem dl_899 : decode code 899 = .ok (.iload_n 3, 1) := by decide +kernel
theorem dl_900 : decode code 900 = .ok (.iconst 5, 1) := by decide +kernel
theorem dl_901 : decode code 901 = .ok (.iadd, 1) := by decide +kernel
theorem dl_902 : decode code 902 = .ok (.iaload, 1) := by decide +kernel
theorem dl_903 : decode code 903 = .ok (.invokevirtual 99, 3) := by decide +kernel
theorem dl_906 : decode code 906 = .ok (.lcmp, 1) := by decide +kernel
theorem dl_907 : decode code 907 = .ok (.ifCond .eq 289, 3) := by decide +kernel
theorem dl_910 : decode code 910 = .ok (.iconst 0, 1) := by decide +kernel
theorem dl_911 : decode code 911 = .ok (.ireturn, 1) := by decide +kernel
theorem dl_912 : decode code 912 = .ok (.aload_n 1, 1) := by decide +kernel
theorem dl_913 : decode code 913 = .ok (.invokevirtual 100, 3) := by decide +kernel
theorem dl_916 : decode code 916 = .ok (.aload_n 2, 1) := by decide +kernel
theorem dl_917 : decode code 917 = .ok (.invokevirtual 103, 3) := by decide +kernel
theorem dl_920 : decode code 920 = .ok (.if_icmp .eq 276, 3) := by decide +kernel
theorem dl_923 : decode code 923 = .ok (.iconst 0, 1) := by decide +kernel
theorem dl_924 : decode code 924 = .ok (.ireturn, 1) := by decide +kernel
theorem dl_925 : decode code 925 = .ok (.aload_n 1, 1) := by decide +kernel
theorem dl_926 : decode code 926 = .ok (.invokevirtual 104, 3) := by decide +kernel
theorem dl_929 : decode code 929 = .ok (.aload_n 2, 1) := by decide +kernel
theorem dl_930 : decode code 930 = .ok (.invokevirtual 107, 3) := by decide +kernel
theorem dl_933 : decode code 933 = .ok (.if_icmp .eq 263, 3) := by decide +kernel
theorem dl_936 : decode code 936 = .ok (.iconst 0, 1) := by decide +kernel
theorem dl_937 : decode code 937 = .ok (.ireturn, 1) := by decide +kernel
theorem dl_938 : decode code 938 = .ok (.aload_n 1, 1) := by decide +kernel
theorem dl_939 : decode code 939 = .ok (.aload_n 0, 1) := by decide +kernel
theorem dl_940 : decode code 940 = .ok (.iload_n 3, 1) := by decide +kernel
theorem dl_941 : decode code 941 = .ok (.iconst 1, 1) := by decide +kernel
theorem dl_942 : decode code 942 = .ok (.iadd, 1) := by decide +kernel
theorem dl_943 : decode code 943 = .ok (.iaload, 1) := by decide +kernel
theorem dl_944 : decode code 944 = .ok (.invokevirtual 108, 3) := by decide +kernel
theorem dl_947 : decode code 947 = .ok (.aload_n 2, 1) := by decide +kernel
theorem dl_948 : decode code 948 = .ok (.aload_n 0, 1) := by decide +kernel
theorem dl_949 : decode code 949 = .ok (.iload_n 3, 1) := by decide +kernel
theorem dl_950 : decode code 950 = .ok (.iconst 1, 1) := by decide +kernel
theorem dl_951 : decode code 951 = .ok (.iadd, 1) := by decide +kernel
theorem dl_952 : decode code 952 = .ok (.iaload, 1) := by decide +kernel
theorem dl_953 : decode code 953 = .ok (.invokevirtual 111, 3) := by decide +kernel
theorem dl_956 : decode code 956 = .ok (.if_icmp .eq 240, 3) := by decide +kernel
theorem dl_959 : decode code 959 = .ok (.iconst 0, 1) := by decide +kernel
theorem dl_960 : decode code 960 = .ok (.ireturn, 1) := by decide +kernel
theorem dl_961 : decode code 961 = .ok (.aload_n 1, 1) := by decide +kernel
theorem dl_962 : decode code 962 = .ok (.aload_n 0, 1) := by decide +kernel
theorem dl_963 : decode code 963 = .ok (.iload_n 3, 1) := by decide +kernel
theorem dl_964 : decode code 964 = .ok (.iconst 1, 1) := by decide +kernel
theorem dl_965 : decode code 965 = .ok (.iadd, 1) := by decide +kernel
theorem dl_966 : decode code 966 = .ok (.iaload, 1) := by decide +kernel
theorem dl_967 : decode code 967 = .ok (.aload_n 0, 1) := by decide +kernel
theorem dl_968 : decode code 968 = .ok (.iload_n 3, 1) := by decide +kernel
theorem dl_969 : decode code 969 = .ok (.iconst 2, 1) := by decide +kernel
theorem dl_970 : decode code 970 = .ok (.iadd, 1) := by decide +kernel
theorem dl_971 : decode code 971 = .ok (.iaload, 1) := by decide +kernel
theorem dl_972 : decode code 972 = .ok (.aload_n 0, 1) := by decide +kernel
theorem dl_973 : decode code 973 = .ok (.iload_n 3, 1) := by decide +kernel
theorem dl_974 : decode code 974 = .ok (.iconst 3, 1) := by decide +kernel
theorem dl_975 : decode code 975 = .ok (.iadd, 1) := by decide +kernel
theorem dl_976 : decode code 976 = .ok (.iaload, 1) := by decide +kernel
theorem dl_977 : decode code 977 = .ok (.invokevirtual 112, 3) := by decide +kernel
theorem dl_980 : decode code 980 = .ok (.aload_n 2, 1) := by decide +kernel
theorem dl_981 : decode code 981 = .ok (.aload_n 0, 1) := by decide +kernel
theorem dl_982 : decode code 982 = .ok (.iload_n 3, 1) := by decide +kernel
theorem dl_983 : decode code 983 = .ok (.iconst 1, 1) := by decide +kernel
theorem dl_984 : decode code 984 = .ok (.iadd, 1) := by decide +kernel
theorem dl_985 : decode code 985 = .ok (.iaload, 1) := by decide +kernel
theorem dl_986 : decode code 986 = .ok (.aload_n 0, 1) := by decide +kernel
theorem dl_987 : decode code 987 = .ok (.iload_n 3, 1) := by decide +kernel
theorem dl_988 : decode code 988 = .ok (.iconst 2, 1) := by decide +kernel
theorem dl_989 : decode code 989 = .ok (.iadd, 1) := by decide +kernel
theorem dl_990 : decode code 990 = .ok (.iaload, 1) := by decide +kernel
theorem dl_991 : decode code 991 = .ok (.aload_n 0, 1) := by decide +kernel
theorem dl_992 : decode code 992 = .ok (.iload_n 3, 1) := by decide +kernel
theorem dl_993 : decode code 993 = .ok (.iconst 3, 1) := by decide +kernel
theorem dl_994 : decode code 994 = .ok (.iadd, 1) := by decide +kernel
theorem dl_995 : decode code 995 = .ok (.iaload, 1) := by decide +kernel
theorem dl_996 : decode code 996 = .ok (.invokevirtual 115, 3) := by decide +kernel
theorem dl_999 : decode code 999 = .ok (.if_icmp .eq 197, 3) := by decide +kernel
theorem dl_1002 : decode code 1002 = .ok (.iconst 0, 1) := by decide +kernel
theorem dl_1003 : decode code 1003 = .ok (.ireturn, 1) := by decide +kernel
theorem dl_1004 : decode code 1004 = .ok (.aload_n 1, 1) := by decide +kernel
theorem dl_1005 : decode code 1005 = .ok (.aload_n 0, 1) := by decide +kernel
theorem dl_1006 : decode code 1006 = .ok (.iload_n 3, 1) := by decide +kernel
theorem dl_1007 : decode code 1007 = .ok (.iconst 1, 1) := by decide +kernel
theorem dl_1008 : decode code 1008 = .ok (.iadd, 1) := by decide +kernel
theorem dl_1009 : decode code 1009 = .ok (.iaload, 1) := by decide +kernel
theorem dl_1010 : decode code 1010 = .ok (.aload_n 0, 1) := by decide +kernel
theorem dl_1011 : decode code 1011 = .ok (.iload_n 3, 1) := by decide +kernel
theorem dl_1012 : decode code 1012 = .ok (.iconst 2, 1) := by decide +kernel
theorem dl_1013 : decode code 1013 = .ok (.iadd, 1) := by decide +kernel
theorem dl_1014 : decode code 1014 = .ok (.iaload, 1) := by decide +kernel
theorem dl_1015 : decode code 1015 = .ok (.aload_n 0, 1) := by decide +kernel
theorem dl_1016 : decode code 1016 = .ok (.iload_n 3, 1) := by decide +kernel
theorem dl_1017 : decode code 1017 = .ok (.iconst 3, 1) := by decide +kernel
theorem dl_1018 : decode code 1018 = .ok (.iadd, 1) := by decide +kernel
theorem dl_1019 : decode code 1019 = .ok (.iaload, 1) := by decide +kernel
theorem dl_1020 : decode code 1020 = .ok (.invokevirtual 116, 3) := by decide +kernel
theorem dl_1023 : decode code 1023 = .ok (.aload_n 2, 1) := by decide +kernel
theorem dl_1024 : decode code 1024 = .ok (.aload_n 0, 1) := by decide +kernel
theorem dl_1025 : decode code 1025 = .ok (.iload_n 3, 1) := by decide +kernel
theorem dl_1026 : decode code 1026 = .ok (.iconst 1, 1) := by decide +kernel
theorem dl_1027 : decode code 1027 = .ok (.iadd, 1) := by decide +kernel
theorem dl_1028 : decode code 1028 = .ok (.iaload, 1) := by decide +kernel
theorem dl_1029 : decode code 1029 = .ok (.aload_n 0, 1) := by decide +kernel
theorem dl_1030 : decode code 1030 = .ok (.iload_n 3, 1) := by decide +kernel
theorem dl_1031 : decode code 1031 = .ok (.iconst 2, 1) := by decide +kernel
theorem dl_1032 : decode code 1032 = .ok (.iadd, 1) := by decide +kernel
theorem dl_1033 : decode code 1033 = .ok (.iaload, 1) := by decide +kernel
theorem dl_1034 : decode code 1034 = .ok (.aload_n 0, 1) := by decide +kernel
theorem dl_1035 : decode code 1035 = .ok (.iload_n 3, 1) := by decide +kernel
theorem dl_1036 : decode code 1036 = .ok (.iconst 3, 1) := by decide +kernel
theorem dl_1037 : decode code 1037 = .ok (.iadd, 1) := by decide +kernel
theorem dl_1038 : decode code 1038 = .ok (.iaload, 1) := by decide +kernel
theorem dl_1039 : decode code 1039 = .ok (.invokevirtual 119, 3) := by decide +kernel
theorem dl_1042 : decode code 1042 = .ok (.if_icmp .eq 154, 3) := by decide +kernel
theorem dl_1045 : decode code 1045 = .ok (.iconst 0, 1) := by decide +kernel
theorem dl_1046 : decode code 1046 = .ok (.ireturn, 1) := by decide +kernel
theorem dl_1047 : decode code 1047 = .ok (.aload_n 1, 1) := by decide +kernel
theorem dl_1048 : decode code 1048 = .ok (.aload_n 0, 1) := by decide +kernel
theorem dl_1049 : decode code 1049 = .ok (.iload_n 3, 1) := by decide +kernel
theorem dl_1050 : decode code 1050 = .ok (.iconst 1, 1) := by decide +kernel
theorem dl_1051 : decode code 1051 = .ok (.iadd, 1) := by decide +kernel
theorem dl_1052 : decode code 1052 = .ok (.iaload, 1) := by decide +kernel
theorem dl_1053 : decode code 1053 = .ok (.aload_n 0, 1) := by decide +kernel
theorem dl_1054 : decode code 1054 = .ok (.iload_n 3, 1) := by decide +kernel
theorem dl_1055 : decode code 1055 = .ok (.iconst 2, 1) := by decide +kernel
theorem dl_1056 : decode code 1056 = .ok (.iadd, 1) := by decide +kernel
theorem dl_1057 : decode code 1057 = .ok (.iaload, 1) := by decide +kernel
theorem dl_1058 : decode code 1058 = .ok (.aload_n 0, 1) := by decide +kernel
theorem dl_1059 : decode code 1059 = .ok (.iload_n 3, 1) := by decide +kernel
theorem dl_1060 : decode code 1060 = .ok (.iconst 3, 1) := by decide +kernel
theorem dl_1061 : decode code 1061 = .ok (.iadd, 1) := by decide +kernel
theorem dl_1062 : decode code 1062 = .ok (.iaload, 1) := by decide +kernel
theorem dl_1063 : decode code 1063 = .ok (.aload_n 0, 1) := by decide +kernel
theorem dl_1064 : decode code 1064 = .ok (.iload_n 3, 1) := by decide +kernel
theorem dl_1065 : decode code 1065 = .ok (.iconst 4, 1) := by decide +kernel
theorem dl_1066 : decode code 1066 = .ok (.iadd, 1) := by decide +kernel
theorem dl_1067 : decode code 1067 = .ok (.iaload, 1) := by decide +kernel
theorem dl_1068 : decode code 1068 = .ok (.aload_n 0, 1) := by decide +kernel
theorem dl_1069 : decode code 1069 = .ok (.iload_n 3, 1) := by decide +kernel
theorem dl_1070 : decode code 1070 = .ok (.iconst 5, 1) := by decide +kernel
theorem dl_1071 : decode code 1071 = .ok (.iadd, 1) := by decide +kernel
theorem dl_1072 : decode code 1072 = .ok (.iaload, 1) := by decide +kernel
theorem dl_1073 : decode code 1073 = .ok (.invokevirtual 120, 3) := by decide +kernel
theorem dl_1076 : decode code 1076 = .ok (.aload_n 2, 1) := by decide +kernel
theorem dl_1077 : decode code 1077 = .ok (.aload_n 0, 1) := by decide +kernel
theorem dl_1078 : decode code 1078 = .ok (.iload_n 3, 1) := by decide +kernel
theorem dl_1079 : decode code 1079 = .ok (.iconst 1, 1) := by decide +kernel
theorem dl_1080 : decode code 1080 = .ok (.iadd, 1) := by decide +kernel
theorem dl_1081 : decode code 1081 = .ok (.iaload, 1) := by decide +kernel
theorem dl_1082 : decode code 1082 = .ok (.aload_n 0, 1) := by decide +kernel
theorem dl_1083 : decode code 1083 = .ok (.iload_n 3, 1) := by decide +kernel
theorem dl_1084 : decode code 1084 = .ok (.iconst 2, 1) := by decide +kernel
theorem dl_1085 : decode code 1085 = .ok (.iadd, 1) := by decide +kernel
theorem dl_1086 : decode code 1086 = .ok (.iaload, 1) := by decide +kernel
theorem dl_1087 : decode code 1087 = .ok (.aload_n 0, 1) := by decide +kernel
theorem dl_1088 : decode code 1088 = .ok (.iload_n 3, 1) := by decide +kernel
theorem dl_1089 : decode code 1089 = .ok (.iconst 3, 1) := by decide +kernel
theorem dl_1090 : decode code 1090 = .ok (.iadd, 1) := by decide +kernel
theorem dl_1091 : decode code 1091 = .ok (.iaload, 1) := by decide +kernel
theorem dl_1092 : decode code 1092 = .ok (.aload_n 0, 1) := by decide +kernel
theorem dl_1093 : decode code 1093 = .ok (.iload_n 3, 1) := by decide +kernel
theorem dl_1094 : decode code 1094 = .ok (.iconst 4, 1) := by decide +kernel
theorem dl_1095 : decode code 1095 = .ok (.iadd, 1) := by decide +kernel
theorem dl_1096 : decode code 1096 = .ok (.iaload, 1) := by decide +kernel
theorem dl_1097 : decode code 1097 = .ok (.aload_n 0, 1) := by decide +kernel
theorem dl_1098 : decode code 1098 = .ok (.iload_n 3, 1) := by decide +kernel
theorem dl_1099 : decode code 1099 = .ok (.iconst 5, 1) := by decide +kernel
theorem dl_1100 : decode code 1100 = .ok (.iadd, 1) := by decide +kernel
theorem dl_1101 : decode code 1101 = .ok (.iaload, 1) := by decide +kernel
theorem dl_1102 : decode code 1102 = .ok (.invokevirtual 124, 3) := by decide +kernel
theorem dl_1105 : decode code 1105 = .ok (.if_icmp .eq 91, 3) := by decide +kernel
theorem dl_1108 : decode code 1108 = .ok (.iconst 0, 1) := by decide +kernel
theorem dl_1109 : decode code 1109 = .ok (.ireturn, 1) := by decide +kernel
theorem dl_1110 : decode code 1110 = .ok (.aload_n 1, 1) := by decide +kernel
theorem dl_1111 : decode code 1111 = .ok (.aload_n 0, 1) := by decide +kernel
theorem dl_1112 : decode code 1112 = .ok (.iload_n 3, 1) := by decide +kernel
theorem dl_1113 : decode code 1113 = .ok (.iconst 1, 1) := by decide +kernel
theorem dl_1114 : decode code 1114 = .ok (.iadd, 1) := by decide +kernel
theorem dl_1115 : decode code 1115 = .ok (.iaload, 1) := by decide +kernel
theorem dl_1116 : decode code 1116 = .ok (.aload_n 0, 1) := by decide +kernel
theorem dl_1117 : decode code 1117 = .ok (.iload_n 3, 1) := by decide +kernel
theorem dl_1118 : decode code 1118 = .ok (.iconst 2, 1) := by decide +kernel
theorem dl_1119 : decode code 1119 = .ok (.iadd, 1) := by decide +kernel
theorem dl_1120 : decode code 1120 = .ok (.iaload, 1) := by decide +kernel
theorem dl_1121 : decode code 1121 = .ok (.aload_n 0, 1) := by decide +kernel
theorem dl_1122 : decode code 1122 = .ok (.iload_n 3, 1) := by decide +kernel
theorem dl_1123 : decode code 1123 = .ok (.iconst 3, 1) := by decide +kernel
theorem dl_1124 : decode code 1124 = .ok (.iadd, 1) := by decide +kernel
theorem dl_1125 : decode code 1125 = .ok (.iaload, 1) := by decide +kernel
theorem dl_1126 : decode code 1126 = .ok (.aload_n 0, 1) := by decide +kernel
theorem dl_1127 : decode code 1127 = .ok (.iload_n 3, 1) := by decide +kernel
theorem dl_1128 : decode code 1128 = .ok (.iconst 4, 1) := by decide +kernel
theorem dl_1129 : decode code 1129 = .ok (.iadd, 1) := by decide +kernel
theorem dl_1130 : decode code 1130 = .ok (.iaload, 1) := by decide +kernel
theorem dl_1131 : decode code 1131 = .ok (.invokevirtual 125, 3) := by decide +kernel
theorem dl_1134 : decode code 1134 = .ok (.aload_n 2, 1) := by decide +kernel
theorem dl_1135 : decode code 1135 = .ok (.aload_n 0, 1) := by decide +kernel
theorem dl_1136 : decode code 1136 = .ok (.iload_n 3, 1) := by decide +kernel
theorem dl_1137 : decode code 1137 = .ok (.iconst 1, 1) := by decide +kernel
theorem dl_1138 : decode code 1138 = .ok (.iadd, 1) := by decide +kernel
theorem dl_1139 : decode code 1139 = .ok (.iaload, 1) := by decide +kernel
theorem dl_1140 : decode code 1140 = .ok (.aload_n 0, 1) := by decide +kernel
theorem dl_1141 : decode code 1141 = .ok (.iload_n 3, 1) := by decide +kernel
theorem dl_1142 : decode code 1142 = .ok (.iconst 2, 1) := by decide +kernel
theorem dl_1143 : decode code 1143 = .ok (.iadd, 1) := by decide +kernel
theorem dl_1144 : decode code 1144 = .ok (.iaload, 1) := by decide +kernel
theorem dl_1145 : decode code 1145 = .ok (.aload_n 0, 1) := by decide +kernel
theorem dl_1146 : decode code 1146 = .ok (.iload_n 3, 1) := by decide +kernel
theorem dl_1147 : decode code 1147 = .ok (.iconst 3, 1) := by decide +kernel
theorem dl_1148 : decode code 1148 = .ok (.iadd, 1) := by decide +kernel
theorem dl_1149 : decode code 1149 = .ok (.iaload, 1) := by decide +kernel
theorem dl_1150 : decode code 1150 = .ok (.aload_n 0, 1) := by decide +kernel
theorem dl_1151 : decode code 1151 = .ok (.iload_n 3, 1) := by decide +kernel
theorem dl_1152 : decode code 1152 = .ok (.iconst 4, 1) := by decide +kernel
theorem dl_1153 : decode code 1153 = .ok (.iadd, 1) := by decide +kernel
theorem dl_1154 : decode code 1154 = .ok (.iaload, 1) := by decide +kernel
theorem dl_1155 : decode code 1155 = .ok (.invokevirtual 128, 3) := by decide +kernel
theorem dl_1158 : decode code 1158 = .ok (.if_icmp .eq 38, 3) := by decide +kernel
theorem dl_1161 : decode code 1161 = .ok (.iconst 0, 1) := by decide +kernel
theorem dl_1162 : decode code 1162 = .ok (.ireturn, 1) := by decide +kernel
theorem dl_1163 : decode code 1163 = .ok (.aload_n 1, 1) := by decide +kernel
theorem dl_1164 : decode code 1164 = .ok (.aload_n 0, 1) := by decide +kernel
theorem dl_1165 : decode code 1165 = .ok (.iload_n 3, 1) := by decide +kernel
theorem dl_1166 : decode code 1166 = .ok (.iconst 1, 1) := by decide +kernel
theorem dl_1167 : decode code 1167 = .ok (.iadd, 1) := by decide +kernel
theorem dl_1168 : decode code 1168 = .ok (.iaload, 1) := by decide +kernel
theorem dl_1169 : decode code 1169 = .ok (.aload_n 0, 1) := by decide +kernel
theorem dl_1170 : decode code 1170 = .ok (.iload_n 3, 1) := by decide +kernel
theorem dl_1171 : decode code 1171 = .ok (.iconst 2, 1) := by decide +kernel
theorem dl_1172 : decode code 1172 = .ok (.iadd, 1) := by decide +kernel
theorem dl_1173 : decode code 1173 = .ok (.iaload, 1) := by decide +kernel
theorem dl_1174 : decode code 1174 = .ok (.invokevirtual 129, 3) := by decide +kernel
theorem dl_1177 : decode code 1177 = .ok (.aload_n 2, 1) := by decide +kernel
theorem dl_1178 : decode code 1178 = .ok (.aload_n 0, 1) := by decide +kernel
theorem dl_1179 : decode code 1179 = .ok (.iload_n 3, 1) := by decide +kernel
theorem dl_1180 : decode code 1180 = .ok (.iconst 1, 1) := by decide +kernel
theorem dl_1181 : decode code 1181 = .ok (.iadd, 1) := by decide +kernel
theorem dl_1182 : decode code 1182 = .ok (.iaload, 1) := by decide +kernel
theorem dl_1183 : decode code 1183 = .ok (.aload_n 0, 1) := by decide +kernel
theorem dl_1184 : decode code 1184 = .ok (.iload_n 3, 1) := by decide +kernel
theorem dl_1185 : decode code 1185 = .ok (.iconst 2, 1) := by decide +kernel
theorem dl_1186 : decode code 1186 = .ok (.iadd, 1) := by decide +kernel
theorem dl_1187 : decode code 1187 = .ok (.iaload, 1) := by decide +kernel
theorem dl_1188 : decode code 1188 = .ok (.invokevirtual 132, 3) := by decide +kernel
theorem dl_1191 : decode code 1191 = .ok (.if_icmp .eq 5, 3) := by decide +kernel
theorem dl_1194 : decode code 1194 = .ok (.iconst 0, 1) := by decide +kernel
theorem dl_1195 : decode code 1195 = .ok (.ireturn, 1) := by decide +kernel
theorem dl_1196 : decode code 1196 = .ok (.iinc 3 6, 3) := by decide +kernel
theorem dl_1199 : decode code 1199 = .ok (.goto (-1181), 3) := by decide +kernel
theorem dl_1202 : decode code 1202 = .ok (.iconst 1, 1) := by decide +kernel
theorem dl_1203 : decode code 1203 = .ok (.ireturn, 1) := by decide +kernel
